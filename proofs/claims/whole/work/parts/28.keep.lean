/-! the reference's copies: a row of 280 numbers -/
def HK (a : Nat) (v : WV) (h : HP) : Prop :=
  (gi h a 0 = nI (vT v) ∧ gi h a 1 = nI (vLo v) ∧ gi h a 2 = nI (vS v) ∧ gi h a 3 = nI (vL v)) ∧
  (∀ s, s < vS v → gi h a (4 + s) = nI (vs v s 0) ∧ gi h a (10 + s) = nI (vs v s 1) ∧ gi h a (16 + s) = nI (vs v s 2)) ∧
  (∀ l, l < vL v → ∀ k, k < 8 → gi h a (22 + (8 * l + k)) = nI (vl v l k)) ∧ (∀ l, l < vL v → gi h a (102 + l) = nI (vl v l 8)) ∧
  (∀ l, l < vL v → ∀ k, k < 16 → gi h a (112 + (16 * l + k)) = nI (vy v l k)) ∧ (∀ l, vL v ≤ l → l < 10 → ∀ k, k < 16 → gi h a (112 + (16 * l + k)) = nI 0)
theorem ofN (n : Nat) : Int32.ofNat n = nI n := rfl
theorem t_puts {a b p n : Nat} {h : HP} {Q : Int32 → HP → Prop} (hab : a ≠ b) (hn : kn b = n) (hp : p + n ≤ kn a) (hk : kn a < 2 ^ 31) (hQ : ∀ h', (∀ k, k < n → gi h' a (p + k) = gi h b k) → FrI (fun x k => x = a ∧ p ≤ k ∧ k < p + n) h h' → Q (nI (p + n)) h') : f_X8_puts a (nI p) b h Q := by
  unfold f_X8_puts
  have key := loop_up (L := fun f i => ∀ g, (∀ k, k < i → gi g a (p + k) = gi h b k) → FrI (fun x k => x = a ∧ p ≤ k ∧ k < p + n) h g → f_X8_puts_L3 a (nI p) b Q f (nI i) g) n 0 (by omega) (fun f g g1 gf => ?_) (fun i f _ hi ih g g1 gf => ?_)
  · obtain ⟨f, hf⟩ := key
    exact ⟨f, hf h (fun k hk => by omega) FrI.rf⟩
  · unfold f_X8_puts_L3
    rw [hn, ofN]
    exact ⟨fun _ => by rw [nI_add]; exact hQ g g1 gf, fun c => absurd (nI_le (Nat.le_refl _) (by omega)) c⟩
  · unfold f_X8_puts_L3
    rw [hn, ofN, nI_add p i, ix_nI (by omega), ix_nI (by omega)]
    refine ⟨fun c => absurd ((nI_leI (by omega) (by omega)).mp c) (by omega), fun _ => ⟨vp_in_nI hi (by omega), vp_in_nI (by omega) hk, ?_⟩⟩
    intro h4 e4 x ex
    rw [ex, nI_1]
    refine ih h4 (fun k hk => ?_) (gf.trans (by rw [e4]; exact FrI.si (by omega)))
    rw [e4, gi_si]
    by_cases e : k = i
    · subst e
      rw [if_pos ⟨rfl, rfl⟩, gf.1 b k (by omega)]
    · rw [if_neg (by omega)]
      exact g1 k (by omega)
theorem t_gets {a b p n : Nat} {h : HP} {Q : Int32 → HP → Prop} (hab : a ≠ b) (hn : kn b = n) (hp : p + n ≤ kn a) (hk : kn a < 2 ^ 31) (hQ : ∀ h', (∀ k, k < n → gi h' b k = gi h a (p + k)) → FrI (fun x _ => x = b) h h' → Q (nI (p + n)) h') : f_X8_gets a (nI p) b h Q := by
  unfold f_X8_gets
  have key := loop_up (L := fun f i => ∀ g, (∀ k, k < i → gi g b k = gi h a (p + k)) → FrI (fun x _ => x = b) h g → f_X8_gets_L3 a (nI p) b Q f (nI i) g) n 0 (by omega) (fun f g g1 gf => ?_) (fun i f _ hi ih g g1 gf => ?_)
  · obtain ⟨f, hf⟩ := key
    exact ⟨f, hf h (fun k hk => by omega) FrI.rf⟩
  · unfold f_X8_gets_L3
    rw [hn, ofN]
    exact ⟨fun _ => by rw [nI_add]; exact hQ g g1 gf, fun c => absurd (nI_le (Nat.le_refl _) (by omega)) c⟩
  · unfold f_X8_gets_L3
    rw [hn, ofN, nI_add p i, ix_nI (by omega), ix_nI (by omega)]
    refine ⟨fun c => absurd ((nI_leI (by omega) (by omega)).mp c) (by omega), fun _ => ⟨vp_in_nI (by omega) hk, vp_in_nI hi (by omega), ?_⟩⟩
    intro h4 e4 x ex
    rw [ex, nI_1]
    refine ih h4 (fun k hk => ?_) (gf.trans (by rw [e4]; exact FrI.si rfl))
    rw [e4, gi_si]
    by_cases e : k = i
    · subst e
      rw [if_pos ⟨rfl, rfl⟩, gf.1 a (p + k) hab]
    · rw [if_neg (by omega)]
      exact g1 k (by omega)
theorem m_keeps {m B a : Nat} {v : WV} {h : HP} {Q : HP → Prop} (hF : WF m B v) (hM : HM v h) (ha : a = 144 ∨ a = 145) (hQ : ∀ h', HK a v h' → FrI (fun x _ => x = a) h h' → Q h') : f_X8_keeps a h Q := by
  have hn := hF.1
  have ka : kn a = 280 := by rcases ha with rfl | rfl <;> decide +kernel
  have k119 : kn 119 = 6 := by decide +kernel
  have k120 : kn 120 = 6 := by decide +kernel
  have k121 : kn 121 = 6 := by decide +kernel
  have k122 : kn 122 = 80 := by decide +kernel
  have k123 : kn 123 = 10 := by decide +kernel
  have k124 : kn 124 = 160 := by decide +kernel
  unfold f_X8_keeps
  rw [ka, lit 0, lit 1, lit 2, lit 3, lit 4, ix_nI (by omega), ix_nI (by omega), ix_nI (by omega), ix_nI (by omega)]
  refine ⟨vp_in_nI (by omega) (by decide), ?_⟩
  intro h2 e2
  refine ⟨vp_in_nI (by omega) (by decide), ?_⟩
  intro h4 e4
  refine ⟨vp_in_nI (by omega) (by decide), ?_⟩
  intro h6 e6
  refine ⟨vp_in_nI (by omega) (by decide), ?_⟩
  intro h8 e8
  have f2 : FrI (fun x _ => x = a) h h2 := by rw [e2]; exact FrI.si rfl
  have f4 : FrI (fun x _ => x = a) h h4 := f2.trans (by rw [e4]; exact FrI.si rfl)
  have f6 : FrI (fun x _ => x = a) h h6 := f4.trans (by rw [e6]; exact FrI.si rfl)
  have f8 : FrI (fun x _ => x = a) h h8 := f6.trans (by rw [e8]; exact FrI.si rfl)
  have na : 117 ≠ a ∧ 119 ≠ a ∧ 120 ≠ a ∧ 121 ≠ a ∧ 122 ≠ a ∧ 123 ≠ a ∧ 124 ≠ a := by omega
  have T0 : gi h8 a 0 = nI (vT v) := by rw [e8, gi_si, if_neg (by omega), e6, gi_si, if_neg (by omega), e4, gi_si, if_neg (by omega), e2, gi_si, if_pos ⟨rfl, rfl⟩]; exact hM.1.1
  have T1 : gi h8 a 1 = nI (vLo v) := by rw [e8, gi_si, if_neg (by omega), e6, gi_si, if_neg (by omega), e4, gi_si, if_pos ⟨rfl, rfl⟩, f2.1 _ _ na.1]; exact hM.1.2.1
  have T2 : gi h8 a 2 = nI (vS v) := by rw [e8, gi_si, if_neg (by omega), e6, gi_si, if_pos ⟨rfl, rfl⟩, f4.1 _ _ na.1]; exact hM.1.2.2.1
  have T3 : gi h8 a 3 = nI (vL v) := by rw [e8, gi_si, if_pos ⟨rfl, rfl⟩, f6.1 _ _ na.1]; exact hM.1.2.2.2
  refine t_puts (n := 6) (by omega) k119 (by omega) (by omega) (fun g1 q1 r1 => ?_)
  refine t_puts (n := 6) (by omega) k120 (by omega) (by omega) (fun g2 q2 r2 => ?_)
  refine t_puts (n := 6) (by omega) k121 (by omega) (by omega) (fun g3 q3 r3 => ?_)
  refine t_puts (n := 80) (by omega) k122 (by omega) (by omega) (fun g4 q4 r4 => ?_)
  refine t_puts (n := 10) (by omega) k123 (by omega) (by omega) (fun g5 q5 r5 => ?_)
  refine t_puts (n := 160) (by omega) k124 (by omega) (by omega) (fun g6 q6 r6 => ?_)
  have t1 : FrI (fun x _ => x = a) h g1 := f8.trans (r1.mono (fun x k z => z.1))
  have t2 : FrI (fun x _ => x = a) h g2 := t1.trans (r2.mono (fun x k z => z.1))
  have t3 : FrI (fun x _ => x = a) h g3 := t2.trans (r3.mono (fun x k z => z.1))
  have t4 : FrI (fun x _ => x = a) h g4 := t3.trans (r4.mono (fun x k z => z.1))
  have t5 : FrI (fun x _ => x = a) h g5 := t4.trans (r5.mono (fun x k z => z.1))
  have t6 : FrI (fun x _ => x = a) h g6 := t5.trans (r6.mono (fun x k z => z.1))
  have low : ∀ k, k < 4 → gi g6 a k = gi h8 a k := fun k hk => by
    rw [r6.1 _ _ (by omega), r5.1 _ _ (by omega), r4.1 _ _ (by omega), r3.1 _ _ (by omega), r2.1 _ _ (by omega), r1.1 _ _ (by omega)]
  have way : ∀ k, k < 160 → gi g6 a (112 + k) = gi h 124 k := fun k hk => by
    rw [show 112 + k = 4 + 6 + 6 + 6 + 80 + 10 + k by omega, q6 k hk, t5.1 _ _ na.2.2.2.2.2.2]
  refine hQ g6 ⟨⟨by rw [low 0 (by omega)]; exact T0, by rw [low 1 (by omega)]; exact T1, by rw [low 2 (by omega)]; exact T2, by rw [low 3 (by omega)]; exact T3⟩, fun s hs => ⟨?_, ?_, ?_⟩, fun l hl k hk => ?_, fun l hl => ?_, fun l hl k hk => ?_, fun l h1 h2 k hk => ?_⟩ t6
  · rw [r6.1 _ _ (by omega), r5.1 _ _ (by omega), r4.1 _ _ (by omega), r3.1 _ _ (by omega), r2.1 _ _ (by omega), q1 s (by omega), f8.1 _ _ na.2.1]
    exact (hM.2.1 s hs).1
  · rw [r6.1 _ _ (by omega), r5.1 _ _ (by omega), r4.1 _ _ (by omega), r3.1 _ _ (by omega), show 10 + s = 4 + 6 + s by omega, q2 s (by omega), t1.1 _ _ na.2.2.1]
    exact (hM.2.1 s hs).2.1
  · rw [r6.1 _ _ (by omega), r5.1 _ _ (by omega), r4.1 _ _ (by omega), show 16 + s = 4 + 6 + 6 + s by omega, q3 s (by omega), t2.1 _ _ na.2.2.2.1]
    exact (hM.2.1 s hs).2.2
  · rw [r6.1 _ _ (by omega), r5.1 _ _ (by omega), show 22 + (8 * l + k) = 4 + 6 + 6 + 6 + (8 * l + k) by omega, q4 _ (by omega), t3.1 _ _ na.2.2.2.2.1]
    exact hM.2.2.1 l hl k hk
  · rw [r6.1 _ _ (by omega), show 102 + l = 4 + 6 + 6 + 6 + 80 + l by omega, q5 l (by omega), t4.1 _ _ na.2.2.2.2.2.1]
    exact hM.2.2.2.1 l hl
  · rw [way _ (by omega)]
    exact hM.2.2.2.2.1 l hl k hk
  · rw [way _ (by omega)]
    exact hM.2.2.2.2.2 l h1 h2 k hk
theorem m_comesBack {m B a : Nat} {v : WV} {h : HP} {Q : HP → Prop} (hF : WF m B v) (hK : HK a v h) (ha : a = 144 ∨ a = 145) (hQ : ∀ h', HM v h' → FrI cellsM h h' → Q h') : f_X8_comesBack a h Q := by
  have hn := hF.1
  have ka : kn a = 280 := by rcases ha with rfl | rfl <;> decide +kernel
  have k119 : kn 119 = 6 := by decide +kernel
  have k120 : kn 120 = 6 := by decide +kernel
  have k121 : kn 121 = 6 := by decide +kernel
  have k122 : kn 122 = 80 := by decide +kernel
  have k123 : kn 123 = 10 := by decide +kernel
  have k124 : kn 124 = 160 := by decide +kernel
  unfold f_X8_comesBack
  rw [ka, lit 0, lit 1, lit 2, lit 3, lit 4, ix_nI (by omega), ix_nI (by omega), ix_nI (by omega), ix_nI (by omega)]
  refine ⟨vp_in_nI (by omega) (by decide), ?_⟩
  intro h2 e2
  refine ⟨vp_in_nI (by omega) (by decide), ?_⟩
  intro h4 e4
  refine ⟨vp_in_nI (by omega) (by decide), ?_⟩
  intro h6 e6
  refine ⟨vp_in_nI (by omega) (by decide), ?_⟩
  intro h8 e8
  have c117 : ∀ k, (k = 1 ∨ k = 2 ∨ k = 3 ∨ k = 7) → cellsM 117 k := fun k hk => Or.inl ⟨rfl, hk⟩
  have nca : ∀ k, ¬ cellsM a k := fun k => by show ¬ ((a = 117 ∧ _) ∨ (119 ≤ a ∧ a ≤ 124)); omega
  have f2 : FrI cellsM h h2 := by rw [e2]; exact FrI.si (c117 1 (by omega))
  have f4 : FrI cellsM h h4 := f2.trans (by rw [e4]; exact FrI.si (c117 2 (by omega)))
  have f6 : FrI cellsM h h6 := f4.trans (by rw [e6]; exact FrI.si (c117 3 (by omega)))
  have f8 : FrI cellsM h h8 := f6.trans (by rw [e8]; exact FrI.si (c117 7 (by omega)))
  have T0 : gi h8 117 1 = nI (vT v) := by rw [e8, gi_si, if_neg (by omega), e6, gi_si, if_neg (by omega), e4, gi_si, if_neg (by omega), e2, gi_si, if_pos ⟨rfl, rfl⟩]; exact hK.1.1
  have T1 : gi h8 117 2 = nI (vLo v) := by rw [e8, gi_si, if_neg (by omega), e6, gi_si, if_neg (by omega), e4, gi_si, if_pos ⟨rfl, rfl⟩, f2.1 _ _ (nca 1)]; exact hK.1.2.1
  have T2 : gi h8 117 3 = nI (vS v) := by rw [e8, gi_si, if_neg (by omega), e6, gi_si, if_pos ⟨rfl, rfl⟩, f4.1 _ _ (nca 2)]; exact hK.1.2.2.1
  have T3 : gi h8 117 7 = nI (vL v) := by rw [e8, gi_si, if_pos ⟨rfl, rfl⟩, f6.1 _ _ (nca 3)]; exact hK.1.2.2.2
  refine t_gets (n := 6) (by omega) k119 (by omega) (by omega) (fun g1 q1 r1 => ?_)
  refine t_gets (n := 6) (by omega) k120 (by omega) (by omega) (fun g2 q2 r2 => ?_)
  refine t_gets (n := 6) (by omega) k121 (by omega) (by omega) (fun g3 q3 r3 => ?_)
  refine t_gets (n := 80) (by omega) k122 (by omega) (by omega) (fun g4 q4 r4 => ?_)
  refine t_gets (n := 10) (by omega) k123 (by omega) (by omega) (fun g5 q5 r5 => ?_)
  refine t_gets (n := 160) (by omega) k124 (by omega) (by omega) (fun g6 q6 r6 => ?_)
  have mo : ∀ b, 119 ≤ b → b ≤ 124 → ∀ x k, x = b → cellsM x k := fun b h1 h2 x k z => Or.inr (by omega)
  have t1 : FrI cellsM h g1 := f8.trans (r1.mono (mo 119 (by omega) (by omega)))
  have t2 : FrI cellsM h g2 := t1.trans (r2.mono (mo 120 (by omega) (by omega)))
  have t3 : FrI cellsM h g3 := t2.trans (r3.mono (mo 121 (by omega) (by omega)))
  have t4 : FrI cellsM h g4 := t3.trans (r4.mono (mo 122 (by omega) (by omega)))
  have t5 : FrI cellsM h g5 := t4.trans (r5.mono (mo 123 (by omega) (by omega)))
  have t6 : FrI cellsM h g6 := t5.trans (r6.mono (mo 124 (by omega) (by omega)))
  have up : ∀ k, gi g6 117 k = gi h8 117 k := fun k => by
    rw [r6.1 _ _ (by omega), r5.1 _ _ (by omega), r4.1 _ _ (by omega), r3.1 _ _ (by omega), r2.1 _ _ (by omega), r1.1 _ _ (by omega)]
  refine hQ g6 ⟨⟨by rw [up]; exact T0, by rw [up]; exact T1, by rw [up]; exact T2, by rw [up]; exact T3⟩, fun s hs => ⟨?_, ?_, ?_⟩, fun l hl k hk => ?_, fun l hl => ?_, fun l hl k hk => ?_, fun l h1 h2 k hk => ?_⟩ t6
  · rw [r6.1 _ _ (by omega), r5.1 _ _ (by omega), r4.1 _ _ (by omega), r3.1 _ _ (by omega), r2.1 _ _ (by omega), q1 s (by omega), f8.1 _ _ (nca _)]
    exact (hK.2.1 s hs).1
  · rw [r6.1 _ _ (by omega), r5.1 _ _ (by omega), r4.1 _ _ (by omega), r3.1 _ _ (by omega), q2 s (by omega), t1.1 _ _ (nca _)]
    exact (hK.2.1 s hs).2.1
  · rw [r6.1 _ _ (by omega), r5.1 _ _ (by omega), r4.1 _ _ (by omega), q3 s (by omega), t2.1 _ _ (nca _)]
    exact (hK.2.1 s hs).2.2
  · rw [r6.1 _ _ (by omega), r5.1 _ _ (by omega), q4 _ (by omega), t3.1 _ _ (nca _)]
    exact hK.2.2.1 l hl k hk
  · rw [r6.1 _ _ (by omega), q5 l (by omega), t4.1 _ _ (nca _)]
    exact hK.2.2.2.1 l hl
  · rw [q6 _ (by omega), t5.1 _ _ (nca _)]
    exact hK.2.2.2.2.1 l hl k hk
  · rw [q6 _ (by omega), t5.1 _ _ (nca _)]
    exact hK.2.2.2.2.2 l h1 h2 k hk
