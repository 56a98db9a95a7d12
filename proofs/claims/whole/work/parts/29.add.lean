/-! new stations and lines -/
theorem nI_any (x : Int32) : ∃ n : Nat, x = nI n := ⟨x.toUInt32.toNat, by
  apply Int32.toBitVec_inj.mp
  apply BitVec.eq_of_toNat_eq
  show x.toBitVec.toNat = (BitVec.ofNat 32 x.toBitVec.toNat).toNat
  rw [BitVec.toNat_ofNat, Nat.mod_eq_of_lt x.toBitVec.isLt]⟩
theorem t_fillI {a n : Nat} {x : Int32} {h : HP} {Q : HP → Prop} (hn : kn a = n) (hk : n < 2 ^ 31) (hQ : ∀ h', (∀ k, k < n → gi h' a k = x) → FrI (fun y k => y = a ∧ k < n) h h' → Q h') : f_J7_fill_53178 a x h Q := by
  unfold f_J7_fill_53178
  intro x3 e3
  rw [hn, ofN] at e3
  subst e3
  have key := loop_up (L := fun f i => ∀ g, (∀ k, k < i → gi g a k = x) → FrI (fun y k => y = a ∧ k < n) h g → f_J7_fill_53178_L5 a x (nI n) Q f (nI i) g) n 0 (by omega) (fun f g g1 gf => ?_) (fun i f _ hi ih g g1 gf => ?_)
  · obtain ⟨f, hf⟩ := key
    exact ⟨f, hf h (fun k hk => by omega) FrI.rf⟩
  · unfold f_J7_fill_53178_L5
    exact ⟨fun _ => hQ g g1 gf, fun c => absurd (nI_le (Nat.le_refl _) (by omega)) c⟩
  · unfold f_J7_fill_53178_L5
    rw [hn, ix_nI (by omega)]
    refine ⟨fun c => absurd ((nI_leI (by omega) (by omega)).mp c) (by omega), fun _ => ⟨vp_in_nI hi (by omega), ?_⟩⟩
    intro h4 e4 y ey
    rw [ey, nI_1]
    refine ih h4 (fun k hk => ?_) (gf.trans (by rw [e4]; exact FrI.si ⟨rfl, hi⟩))
    rw [e4, gi_si]
    by_cases e : k = i
    · rw [if_pos ⟨rfl, e⟩]
    · rw [if_neg (by omega)]
      exact g1 k (by omega)
def addS (v : WV) (a b c : Nat) : WV := ((vT v, vLo v, vS v + 1, vL v), fun s k => if s = vS v then (if k = 0 then a else if k = 1 then b else c) else vs v s k, v.2.2)
def addL (v : WV) (a b c wd ln : Nat) : WV := ((vT v, vLo v, vS v, vL v + 1), v.2.1, fun l k => if l = vL v then (if k = 0 then a else if k = 1 then b else if k = 2 then c else if k = 3 then wd else if k = 4 then ln else if k = 7 then 99999 else 0) else vl v l k, fun l k => if l = vL v then 0 else vy v l k)
theorem vs_addS {v : WV} {a b c s k : Nat} : vs (addS v a b c) s k = if s = vS v then (if k = 0 then a else if k = 1 then b else c) else vs v s k := rfl
theorem vl_addL {v : WV} {a b c d e l k : Nat} : vl (addL v a b c d e) l k = if l = vL v then (if k = 0 then a else if k = 1 then b else if k = 2 then c else if k = 3 then d else if k = 4 then e else if k = 7 then 99999 else 0) else vl v l k := rfl
theorem vy_addL {v : WV} {a b c d e l k : Nat} : vy (addL v a b c d e) l k = if l = vL v then 0 else vy v l k := rfl
theorem hc_addS {w : Nat} {v : WV} {h h' : HP} (hC : HC w v h) (hS : vS v < 6) (hL : vL v ≤ 10) {a b c : Nat} (hn : gi h' w 2 = nI (vS v + 1)) (h0 : gi h' (w + 3 + vS v) 0 = nI a) (h1 : gi h' (w + 3 + vS v) 1 = nI b) (h2 : gi h' (w + 3 + vS v) 2 = nI c) (hf : ∀ x k, x ≠ w + 3 + vS v → ¬ (x = w ∧ k = 2) → gi h' x k = gi h x k) : HC w (addS v a b c) h' := by
  obtain ⟨⟨a1, a2, a3, a4⟩, b', c', d'⟩ := hC
  refine ⟨⟨?_, ?_, hn, ?_⟩, fun s hs k hk => ?_, fun l hl k hk => ?_, fun l hl k hk => ?_⟩
  · rw [hf _ _ (by omega) (by omega)]; exact a1
  · rw [hf _ _ (by omega) (by omega)]; exact a2
  · rw [hf _ _ (by omega) (by omega)]; exact a4
  · rw [vs_addS]
    by_cases e : s = vS v
    · rw [if_pos e, e]
      have hk' : k = 0 ∨ k = 1 ∨ k = 2 := by omega
      rcases hk' with rfl | rfl | rfl
      · exact h0
      · exact h1
      · exact h2
    · rw [if_neg e, hf _ _ (by omega) (by omega)]
      exact b' s (by have : s < vS v + 1 := hs
                     omega) k hk
  · rw [hf _ _ (by omega) (by omega)]; exact c' l hl k hk
  · rw [hf _ _ (by omega) (by omega)]; exact d' l hl k hk
theorem c_addStation {w : Nat} {v : WV} {h : HP} {Q : Int32 → HP → Prop} (hC : HC w v h) (hS : vS v < 6) (hL : vL v ≤ 10) {a b : Nat} (hQ : ∀ h', HC w (addS v a b 20) h' → FrI (cellsC w) h h' → Q (nI (vS v)) h') : f_X6_addStation w (nI a) (nI b) h Q := by
  unfold f_X6_addStation
  rw [hC.1.2.2.1, ix_nI (by omega)]
  refine ⟨vp_in_nI hS (by decide), ?_⟩
  intro h2 e2 h3 e3 h4 e4 h5 e5
  have g4 : gi h4 w 2 = nI (vS v) := by
    rw [e4, gi_si, if_neg (by omega), e3, gi_si, if_neg (by omega), e2, gi_si, if_neg (by omega)]; exact hC.1.2.2.1
  rw [g4, nI_1] at e5
  have g5 : gi h5 w 2 = nI (vS v + 1) := by rw [e5, gi_si, if_pos ⟨rfl, rfl⟩]
  rw [g5, lit 1, nI_sub (by omega), Nat.add_sub_cancel]
  refine hQ h5 (hc_addS hC hS hL g5 ?_ ?_ ?_ ?_) ?_
  · rw [e5, gi_si, if_neg (by omega), e4, gi_si, if_neg (by omega), e3, gi_si, if_neg (by omega), e2, gi_si, if_pos (by omega)]
  · rw [e5, gi_si, if_neg (by omega), e4, gi_si, if_neg (by omega), e3, gi_si, if_pos (by omega)]
  · rw [e5, gi_si, if_neg (by omega), e4, gi_si, if_pos (by omega)]; rfl
  · intro x k n1 n2
    rw [e5, gi_si, if_neg n2, e4, gi_si, if_neg (by omega), e3, gi_si, if_neg (by omega), e2, gi_si, if_neg (by omega)]
  · rw [e5, e4, e3, e2]
    exact (((FrI.si ⟨by omega, by omega⟩).trans (FrI.si ⟨by omega, by omega⟩)).trans (FrI.si ⟨by omega, by omega⟩)).trans (FrI.si ⟨by omega, by omega⟩)
theorem m_addStation {v : WV} {h : HP} {Q : HP → Prop} (hM : HM v h) (hS : vS v < 6) {a b c : Nat} (hQ : ∀ h', HM (addS v a b c) h' → FrI cellsM h h' → Q h') : f_X8_addStation (nI a) (nI b) (nI c) h Q := by
  unfold f_X8_addStation
  obtain ⟨⟨a1, a2, a3, a4⟩, b', c', d', e', f'⟩ := hM
  rw [a3, ix_nI (by omega)]
  refine ⟨vp_in_nI hS (by decide), ?_⟩
  intro h2 e2
  have g2 : gi h2 117 3 = nI (vS v) := by rw [e2, gi_si, if_neg (by omega)]; exact a3
  rw [g2, ix_nI (by omega)]
  refine ⟨vp_in_nI hS (by decide), ?_⟩
  intro h4 e4
  have g4 : gi h4 117 3 = nI (vS v) := by rw [e4, gi_si, if_neg (by omega)]; exact g2
  rw [g4, ix_nI (by omega)]
  refine ⟨vp_in_nI hS (by decide), ?_⟩
  intro h6 e6 h7 e7
  have g6 : gi h6 117 3 = nI (vS v) := by rw [e6, gi_si, if_neg (by omega)]; exact g4
  rw [g6, nI_1] at e7
  have hf : ∀ x k, ¬ (x = 119 ∧ k = vS v) → ¬ (x = 120 ∧ k = vS v) → ¬ (x = 121 ∧ k = vS v) → ¬ (x = 117 ∧ k = 3) → gi h7 x k = gi h x k := by
    intro x k n1 n2 n3 n4
    rw [e7, gi_si, if_neg n4, e6, gi_si, if_neg n3, e4, gi_si, if_neg n2, e2, gi_si, if_neg n1]
  have q0 : gi h7 119 (vS v) = nI a := by rw [e7, gi_si, if_neg (by omega), e6, gi_si, if_neg (by omega), e4, gi_si, if_neg (by omega), e2, gi_si, if_pos (by omega)]
  have q1 : gi h7 120 (vS v) = nI b := by rw [e7, gi_si, if_neg (by omega), e6, gi_si, if_neg (by omega), e4, gi_si, if_pos (by omega)]
  have q2 : gi h7 121 (vS v) = nI c := by rw [e7, gi_si, if_neg (by omega), e6, gi_si, if_pos (by omega)]
  refine hQ h7 ⟨⟨?_, ?_, ?_, ?_⟩, fun s hs => ?_, fun l hl k hk => ?_, fun l hl => ?_, fun l hl k hk => ?_, fun l h1 h2' k hk => ?_⟩ ?_
  · rw [hf _ _ (by omega) (by omega) (by omega) (by omega)]; exact a1
  · rw [hf _ _ (by omega) (by omega) (by omega) (by omega)]; exact a2
  · rw [e7, gi_si, if_pos ⟨rfl, rfl⟩]; rfl
  · rw [hf _ _ (by omega) (by omega) (by omega) (by omega)]; exact a4
  · rw [vs_addS, vs_addS, vs_addS]
    by_cases e : s = vS v
    · rw [if_pos e, if_pos e, if_pos e, e]
      exact ⟨q0, q1, q2⟩
    · rw [if_neg e, if_neg e, if_neg e, hf _ _ (by omega) (by omega) (by omega) (by omega), hf _ _ (by omega) (by omega) (by omega) (by omega), hf _ _ (by omega) (by omega) (by omega) (by omega)]
      exact b' s (by have : s < vS v + 1 := hs
                     omega)
  · rw [hf _ _ (by omega) (by omega) (by omega) (by omega)]; exact c' l hl k hk
  · rw [hf _ _ (by omega) (by omega) (by omega) (by omega)]; exact d' l hl
  · rw [hf _ _ (by omega) (by omega) (by omega) (by omega)]; exact e' l hl k hk
  · rw [hf _ _ (by omega) (by omega) (by omega) (by omega)]; exact f' l h1 h2' k hk
  · rw [e7, e6, e4, e2]
    exact (((FrI.si (by simp [cellsM])).trans (FrI.si (by simp [cellsM]))).trans (FrI.si (by simp [cellsM]))).trans (FrI.si (by simp [cellsM]))
