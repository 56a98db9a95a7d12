/-! worlds are copied -/
theorem FrI.cpi {P : Nat → Nat → Prop} {h : HP} {a b sp dp n : Nat} (hp : ∀ j, P b j) : FrI P h (cpi h a b sp dp n) := ⟨fun y j q => by rw [gi_cpi, if_neg (fun z => q (by rw [z.1]; exact hp j))], fun _ _ => rfl, fun _ => rfl⟩
theorem t_becomeS {x y : Nat} {h : HP} {Q : HP → Prop} (hxy : x ≠ y) (hQ : ∀ h', (∀ k, k < 3 → gi h' x k = gi h y k) → FrI (fun a _ => a = x) h h' → Q h') : f_X3_become x y h Q := by
  unfold f_X3_become
  intro h1 e1 h2 e2 h3 e3
  have f1 : FrI (fun a _ => a = x) h h1 := by rw [e1]; exact FrI.si rfl
  have f2 : FrI (fun a _ => a = x) h h2 := f1.trans (by rw [e2]; exact FrI.si rfl)
  have f3 : FrI (fun a _ => a = x) h h3 := f2.trans (by rw [e3]; exact FrI.si rfl)
  refine hQ h3 (fun k hk => ?_) f3
  have g : ∀ j, gi h1 y j = gi h y j ∧ gi h2 y j = gi h y j := fun j => ⟨f1.1 y j (fun q => hxy q.symm), f2.1 y j (fun q => hxy q.symm)⟩
  have hk' : k = 0 ∨ k = 1 ∨ k = 2 := by omega
  rcases hk' with rfl | rfl | rfl
  · rw [e3, gi_si, if_neg (by omega), e2, gi_si, if_neg (by omega), e1, gi_si, if_pos ⟨rfl, rfl⟩]
  · rw [e3, gi_si, if_neg (by omega), e2, gi_si, if_pos ⟨rfl, rfl⟩, (g 1).1]
  · rw [e3, gi_si, if_pos ⟨rfl, rfl⟩, (g 2).2]
theorem t_becomeL {x y : Nat} {h : HP} {Q : HP → Prop} (h1 : x ≠ y) (h2 : x ≠ y + 1) (h3 : x + 1 ≠ y) (hQ : ∀ h', (∀ k, k < 9 → gi h' x k = gi h y k) → (∀ k, k < 16 → gi h' (x + 1) k = gi h (y + 1) k) → FrI (fun a _ => a = x ∨ a = x + 1) h h' → Q h') : f_X0_become x y h Q := by
  unfold f_X0_become
  intro g1 e1 g2 e2 g3 e3 g4 e4 g5 e5 g6 e6 g7 e7 g8 e8 g9 e9
  refine ⟨by decide +kernel, ?_⟩
  intro g11 e11
  have P := fun (a : Nat) (_ : Nat) => a = x ∨ a = x + 1
  have f1 : FrI (fun a _ => a = x ∨ a = x + 1) h g1 := by rw [e1]; exact FrI.si (Or.inl rfl)
  have f2 : FrI (fun a _ => a = x ∨ a = x + 1) h g2 := f1.trans (by rw [e2]; exact FrI.si (Or.inl rfl))
  have f3 : FrI (fun a _ => a = x ∨ a = x + 1) h g3 := f2.trans (by rw [e3]; exact FrI.si (Or.inl rfl))
  have f4 : FrI (fun a _ => a = x ∨ a = x + 1) h g4 := f3.trans (by rw [e4]; exact FrI.si (Or.inl rfl))
  have f5 : FrI (fun a _ => a = x ∨ a = x + 1) h g5 := f4.trans (by rw [e5]; exact FrI.si (Or.inl rfl))
  have f6 : FrI (fun a _ => a = x ∨ a = x + 1) h g6 := f5.trans (by rw [e6]; exact FrI.si (Or.inl rfl))
  have f7 : FrI (fun a _ => a = x ∨ a = x + 1) h g7 := f6.trans (by rw [e7]; exact FrI.si (Or.inl rfl))
  have f8 : FrI (fun a _ => a = x ∨ a = x + 1) h g8 := f7.trans (by rw [e8]; exact FrI.si (Or.inl rfl))
  have f9 : FrI (fun a _ => a = x ∨ a = x + 1) h g9 := f8.trans (by rw [e9]; exact FrI.si (Or.inl rfl))
  have f11 : FrI (fun a _ => a = x ∨ a = x + 1) h g11 := f9.trans (by rw [e11]; exact FrI.cpi (fun _ => Or.inr rfl))
  have ny : ¬ (y = x ∨ y = x + 1) := by omega
  have ny1 : ¬ (y + 1 = x ∨ y + 1 = x + 1) := by omega
  have i0 : ix (0 : Int32) = 0 := by decide +kernel
  have i16 : ix (16 : Int32) = 16 := by decide +kernel
  rw [i0, i16] at e11
  have up : ∀ k, gi g11 x k = gi g9 x k := fun k => by rw [e11, gi_cpi, if_neg (by omega)]
  refine hQ g11 (fun k hk => ?_) (fun k hk => ?_) f11
  · rw [up]
    have hk' : k = 0 ∨ k = 1 ∨ k = 2 ∨ k = 3 ∨ k = 4 ∨ k = 5 ∨ k = 6 ∨ k = 7 ∨ k = 8 := by omega
    rw [e9, gi_si]
    rcases hk' with rfl | rfl | rfl | rfl | rfl | rfl | rfl | rfl | rfl
    · rw [if_neg (by omega), e8, gi_si, if_neg (by omega), e7, gi_si, if_neg (by omega), e6, gi_si, if_neg (by omega), e5, gi_si, if_neg (by omega), e4, gi_si, if_neg (by omega), e3, gi_si, if_neg (by omega), e2, gi_si, if_neg (by omega), e1, gi_si, if_pos ⟨rfl, rfl⟩]
    · rw [if_neg (by omega), e8, gi_si, if_neg (by omega), e7, gi_si, if_neg (by omega), e6, gi_si, if_neg (by omega), e5, gi_si, if_neg (by omega), e4, gi_si, if_neg (by omega), e3, gi_si, if_neg (by omega), e2, gi_si, if_pos ⟨rfl, rfl⟩, f1.1 y 1 ny]
    · rw [if_neg (by omega), e8, gi_si, if_neg (by omega), e7, gi_si, if_neg (by omega), e6, gi_si, if_neg (by omega), e5, gi_si, if_neg (by omega), e4, gi_si, if_neg (by omega), e3, gi_si, if_pos ⟨rfl, rfl⟩, f2.1 y 2 ny]
    · rw [if_neg (by omega), e8, gi_si, if_neg (by omega), e7, gi_si, if_neg (by omega), e6, gi_si, if_neg (by omega), e5, gi_si, if_neg (by omega), e4, gi_si, if_pos ⟨rfl, rfl⟩, f3.1 y 3 ny]
    · rw [if_neg (by omega), e8, gi_si, if_neg (by omega), e7, gi_si, if_neg (by omega), e6, gi_si, if_neg (by omega), e5, gi_si, if_pos ⟨rfl, rfl⟩, f4.1 y 4 ny]
    · rw [if_neg (by omega), e8, gi_si, if_neg (by omega), e7, gi_si, if_neg (by omega), e6, gi_si, if_pos ⟨rfl, rfl⟩, f5.1 y 5 ny]
    · rw [if_neg (by omega), e8, gi_si, if_neg (by omega), e7, gi_si, if_pos ⟨rfl, rfl⟩, f6.1 y 6 ny]
    · rw [if_neg (by omega), e8, gi_si, if_pos ⟨rfl, rfl⟩, f7.1 y 7 ny]
    · rw [if_pos ⟨rfl, rfl⟩, f8.1 y 8 ny]
  · rw [e11, gi_cpi, if_pos ⟨rfl, by omega, by omega⟩, Nat.zero_add, Nat.sub_zero, f9.1 (y + 1) k ny1]
theorem c_become {m B a b : Nat} {v : WV} {h : HP} {Q : HP → Prop} (hF : WF m B v) (hC : HC b v h) (hd : a + 29 ≤ b ∨ b + 29 ≤ a) (hQ : ∀ h', HC a v h' → FrI (cellsC a) h h' → Q h') : f_X6_become a b h Q := by
  have hn := hF.1
  unfold f_X6_become
  intro h1 e1 h2 e2 h3 e3 h4 e4
  have ca : ∀ k, cellsC a a k := fun k => by show a ≤ a ∧ a < a + 29; omega
  have f1 : FrI (cellsC a) h h1 := by rw [e1]; exact FrI.si (ca _)
  have f2 : FrI (cellsC a) h h2 := f1.trans (by rw [e2]; exact FrI.si (ca _))
  have f3 : FrI (cellsC a) h h3 := f2.trans (by rw [e3]; exact FrI.si (ca _))
  have f4 : FrI (cellsC a) h h4 := f3.trans (by rw [e4]; exact FrI.si (ca _))
  have nb : ∀ x k, b ≤ x → x < b + 29 → ¬ cellsC a x k := fun x k q1 q2 => by show ¬ (a ≤ x ∧ x < a + 29); omega
  have T0 : gi h4 a 0 = nI (vT v) := by rw [e4, gi_si, if_neg (by omega), e3, gi_si, if_neg (by omega), e2, gi_si, if_neg (by omega), e1, gi_si, if_pos ⟨rfl, rfl⟩]; exact hC.1.1
  have T1 : gi h4 a 1 = nI (vLo v) := by rw [e4, gi_si, if_neg (by omega), e3, gi_si, if_neg (by omega), e2, gi_si, if_pos ⟨rfl, rfl⟩, f1.1 _ _ (nb b 1 (by omega) (by omega))]; exact hC.1.2.1
  have T2 : gi h4 a 2 = nI (vS v) := by rw [e4, gi_si, if_neg (by omega), e3, gi_si, if_pos ⟨rfl, rfl⟩, f2.1 _ _ (nb b 2 (by omega) (by omega))]; exact hC.1.2.2.1
  have T3 : gi h4 a 3 = nI (vL v) := by rw [e4, gi_si, if_pos ⟨rfl, rfl⟩, f3.1 _ _ (nb b 3 (by omega) (by omega))]; exact hC.1.2.2.2
  have key := loop_up (L := fun f i => ∀ g, (gi g a 0 = nI (vT v) ∧ gi g a 1 = nI (vLo v) ∧ gi g a 2 = nI (vS v) ∧ gi g a 3 = nI (vL v)) → (∀ s, s < i → ∀ k, k < 3 → gi g (a + 3 + s) k = nI (vs v s k)) → FrI (cellsC a) h g → f_X6_become_L34 a b (fun h10 => ∃ n16, f_X6_become_L65 a b Q n16 0 h10) Q f (nI i) g) (vS v) 0 (by omega) (fun f g gT gS gf => ?_) (fun i f _ hi ih g gT gS gf => ?_)
  · obtain ⟨f, hf⟩ := key
    exact ⟨f, hf h4 ⟨T0, T1, T2, T3⟩ (fun s hs => by omega) f4⟩
  · unfold f_X6_become_L34
    refine ⟨fun _ => ?_, fun c => absurd (by rw [gT.2.2.1]; exact nI_le (Nat.le_refl _) (by omega)) c⟩
    have key2 := loop_up (L := fun f i => ∀ g, (gi g a 0 = nI (vT v) ∧ gi g a 1 = nI (vLo v) ∧ gi g a 2 = nI (vS v) ∧ gi g a 3 = nI (vL v)) → (∀ s, s < vS v → ∀ k, k < 3 → gi g (a + 3 + s) k = nI (vs v s k)) → (∀ l, l < i → (∀ k, k < 9 → gi g (a + 9 + 2 * l) k = nI (vl v l k)) ∧ ∀ k, k < 16 → gi g (a + 10 + 2 * l) k = nI (vy v l k)) → FrI (cellsC a) h g → f_X6_become_L65 a b Q f (nI i) g) (vL v) 0 (by omega) (fun f g gT gS gL gf => ?_) (fun i f _ hi ih g gT gS gL gf => ?_)
    · obtain ⟨f, hf⟩ := key2
      exact ⟨f, hf g gT gS (fun l hl => by omega) gf⟩
    · unfold f_X6_become_L65
      exact ⟨fun _ => hQ g ⟨gT, gS, fun l hl => (gL l hl).1, fun l hl => (gL l hl).2⟩ gf, fun c => absurd (by rw [gT.2.2.2]; exact nI_le (Nat.le_refl _) (by omega)) c⟩
    · unfold f_X6_become_L65
      refine ⟨fun c => absurd (by rw [gT.2.2.2] at c; exact (nI_leI (by omega) (by omega)).mp c) (by omega), fun _ => ⟨vp_in_nI (by omega) (by decide), vp_in_nI (by omega) (by decide), ?_⟩⟩
      rw [ix_nI (by omega), show a + 2 + 7 + 2 * i = a + 9 + 2 * i by omega, show b + 2 + 7 + 2 * i = b + 9 + 2 * i by omega]
      refine t_becomeL (by omega) (by omega) (by omega) (fun g' q1 q2 q3 => ?_)
      intro x ex
      rw [ex, nI_1]
      have keep : ∀ y k, y ≠ a + 9 + 2 * i → y ≠ a + 10 + 2 * i → gi g' y k = gi g y k := fun y k z1 z2 => q3.1 y k (by omega)
      refine ih g' ⟨?_, ?_, ?_, ?_⟩ (fun s hs k hk => ?_) (fun l hl => ?_) (gf.trans (q3.mono (fun y k z => by show a ≤ y ∧ y < a + 29; omega)))
      · rw [keep _ _ (by omega) (by omega)]; exact gT.1
      · rw [keep _ _ (by omega) (by omega)]; exact gT.2.1
      · rw [keep _ _ (by omega) (by omega)]; exact gT.2.2.1
      · rw [keep _ _ (by omega) (by omega)]; exact gT.2.2.2
      · rw [keep _ _ (by omega) (by omega)]; exact gS s hs k hk
      · by_cases e : l = i
        · subst e
          refine ⟨fun k hk => ?_, fun k hk => ?_⟩
          · rw [q1 k hk, gf.1 _ _ (nb _ k (by omega) (by omega))]; exact hC.2.2.1 l hi k hk
          · rw [show a + 10 + 2 * l = a + 9 + 2 * l + 1 by omega, q2 k hk, show b + 9 + 2 * l + 1 = b + 10 + 2 * l by omega, gf.1 _ _ (nb _ k (by omega) (by omega))]; exact hC.2.2.2 l hi k hk
        · refine ⟨fun k hk => ?_, fun k hk => ?_⟩
          · rw [keep _ _ (by omega) (by omega)]; exact (gL l (by omega)).1 k hk
          · rw [keep _ _ (by omega) (by omega)]; exact (gL l (by omega)).2 k hk
  · unfold f_X6_become_L34
    refine ⟨fun c => absurd (by rw [gT.2.2.1] at c; exact (nI_leI (by omega) (by omega)).mp c) (by omega), fun _ => ⟨vp_in_nI (by omega) (by decide), vp_in_nI (by omega) (by decide), ?_⟩⟩
    rw [ix_nI (by omega), show a + 1 + 2 + i = a + 3 + i by omega, show b + 1 + 2 + i = b + 3 + i by omega]
    refine t_becomeS (by omega) (fun g' q1 q3 => ?_)
    intro x ex
    rw [ex, nI_1]
    have keep : ∀ y k, y ≠ a + 3 + i → gi g' y k = gi g y k := fun y k z1 => q3.1 y k z1
    refine ih g' ⟨?_, ?_, ?_, ?_⟩ (fun s hs k hk => ?_) (gf.trans (q3.mono (fun y k z => by show a ≤ y ∧ y < a + 29; omega)))
    · rw [keep _ _ (by omega)]; exact gT.1
    · rw [keep _ _ (by omega)]; exact gT.2.1
    · rw [keep _ _ (by omega)]; exact gT.2.2.1
    · rw [keep _ _ (by omega)]; exact gT.2.2.2
    · by_cases e : s = i
      · subst e
        rw [q1 k hk, gf.1 _ _ (nb _ k (by omega) (by omega))]; exact hC.2.1 s hi k hk
      · rw [keep _ _ (by omega)]; exact gS s (by omega) k hk
