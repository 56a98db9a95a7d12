/-! new lines -/
theorem c_addLine {w : Nat} {v : WV} {h : HP} {Q : Int32 → HP → Prop} (hC : HC w v h) (hS : vS v ≤ 6) (hL : vL v < 10) (hk0 : ∀ l, l < 10 → kn (w + 10 + 2 * l) = 16) {a b c : Nat} (hQ : ∀ x y h', HC w (addL v a b c x y) h' → FrI (cellsC w) h h' → Q (nI (vL v)) h') : f_X6_addLine w (nI a) (nI b) (nI c) h Q := by
  unfold f_X6_addLine
  obtain ⟨⟨a1, a2, a3, a4⟩, b', c', d'⟩ := hC
  rw [a4, ix_nI (by omega), show w + 2 + 7 + 2 * vL v = w + 9 + 2 * vL v by omega, show w + 9 + 2 * vL v + 1 = w + 10 + 2 * vL v by omega]
  refine ⟨vp_in_nI hL (by decide), ?_⟩
  intro h2 e2 h3 e3 h4 e4 h5 e5 h6 e6 h7 e7 h8 e8
  have f8 : ∀ x k, x ≠ w + 9 + 2 * vL v → gi h8 x k = gi h x k := by
    intro x k n1
    rw [e8, gi_si, if_neg (fun q => n1 q.1), e7, gi_si, if_neg (fun q => n1 q.1), e6, gi_si, if_neg (fun q => n1 q.1), e5, gi_si, if_neg (fun q => n1 q.1), e4, gi_si, if_neg (fun q => n1 q.1), e3, gi_si, if_neg (fun q => n1 q.1), e2, gi_si, if_neg (fun q => n1 q.1)]
  have fr8 : FrI (cellsC w) h h8 := by
    rw [e8, e7, e6, e5, e4, e3, e2]
    exact ((((((FrI.si ⟨by omega, by omega⟩).trans (FrI.si ⟨by omega, by omega⟩)).trans (FrI.si ⟨by omega, by omega⟩)).trans (FrI.si ⟨by omega, by omega⟩)).trans (FrI.si ⟨by omega, by omega⟩)).trans (FrI.si ⟨by omega, by omega⟩)).trans (FrI.si ⟨by omega, by omega⟩)
  obtain ⟨x, hx⟩ := nI_any (gi h (w + 9 + 2 * vL v) 3)
  obtain ⟨y, hy⟩ := nI_any (gi h (w + 9 + 2 * vL v) 4)
  have r8 : ∀ k, k < 9 → gi h8 (w + 9 + 2 * vL v) k = nI (vl (addL v a b c x y) (vL v) k) := by
    intro k hk
    rw [vl_addL, if_pos rfl, e8, e7, e6, e5, e4, e3, e2]
    simp only [gi_si, true_and]
    have hk' : k = 0 ∨ k = 1 ∨ k = 2 ∨ k = 3 ∨ k = 4 ∨ k = 5 ∨ k = 6 ∨ k = 7 ∨ k = 8 := by omega
    rcases hk' with rfl | rfl | rfl | rfl | rfl | rfl | rfl | rfl | rfl
    · rfl
    · rfl
    · rfl
    · exact hx
    · exact hy
    · rfl
    · rfl
    · rfl
    · rfl
  refine t_fillI (hk0 _ hL) (by decide) (fun h9 z9 f9 => ?_)
  intro h10 e10
  have g9 : gi h9 w 3 = nI (vL v) := by rw [f9.1 _ _ (by omega), f8 _ _ (by omega)]; exact a4
  rw [g9, nI_1] at e10
  have g10 : gi h10 w 3 = nI (vL v + 1) := by rw [e10, gi_si, if_pos ⟨rfl, rfl⟩]
  rw [g10, lit 1, nI_sub (by omega), Nat.add_sub_cancel]
  have hf : ∀ x k, x ≠ w + 9 + 2 * vL v → x ≠ w + 10 + 2 * vL v → ¬ (x = w ∧ k = 3) → gi h10 x k = gi h x k := by
    intro x k n1 n2 n3
    rw [e10, gi_si, if_neg n3, f9.1 _ _ (fun q => n2 q.1), f8 _ _ n1]
  refine hQ x y h10 ⟨⟨?_, ?_, ?_, g10⟩, fun s hs k hk => ?_, fun l hl k hk => ?_, fun l hl k hk => ?_⟩ ?_
  · rw [hf _ _ (by omega) (by omega) (by omega)]; exact a1
  · rw [hf _ _ (by omega) (by omega) (by omega)]; exact a2
  · rw [hf _ _ (by omega) (by omega) (by omega)]; exact a3
  · have hs' : s < vS v := hs
    rw [hf _ _ (by omega) (by omega) (by omega)]; exact b' s hs k hk
  · have hl' : l < vL v + 1 := hl
    by_cases e : l = vL v
    · rw [e, e10, gi_si, if_neg (by omega), f9.1 _ _ (by omega)]
      exact r8 k hk
    · rw [vl_addL, if_neg e, hf _ _ (by omega) (by omega) (by omega)]
      exact c' l (by omega) k hk
  · have hl' : l < vL v + 1 := hl
    by_cases e : l = vL v
    · rw [vy_addL, if_pos e, e, e10, gi_si, if_neg (by omega)]
      exact z9 k hk
    · rw [vy_addL, if_neg e, hf _ _ (by omega) (by omega) (by omega)]
      exact d' l (by omega) k hk
  · refine (fr8.trans (f9.mono (fun x k q => ⟨by omega, by omega⟩))).trans ?_
    rw [e10]
    exact FrI.si ⟨by omega, by omega⟩
theorem addL_set {v : WV} {a b c x y wd ln : Nat} : setL (setL (addL v a b c x y) (vL v) 3 wd) (vL v) 4 ln = addL v a b c wd ln := by
  unfold setL addL
  simp only [Prod.mk.injEq, true_and, and_true]
  funext l k
  by_cases e : l = vL v
  · subst e
    by_cases k4 : k = 4
    · subst k4; simp
    · by_cases k3 : k = 3
      · subst k3; simp
      · simp [k3, k4]
  · simp [e]
theorem m_addLine {v : WV} {h : HP} {Q : HP → Prop} (hM : HM v h) (hL : vL v < 10) {a b c : Nat} (hQ : ∀ h', HM (addL v a b c 10 1) h' → FrI cellsM h h' → Q h') : f_X8_addLine (nI a) (nI b) (nI c) h Q := by
  unfold f_X8_addLine
  obtain ⟨⟨a1, a2, a3, a4⟩, b', c', d', e', f'⟩ := hM
  intro x4 e4
  rw [a4, lit 8, nI_mul] at e4
  rw [e4]
  rw [lit 1, lit 2, lit 3, lit 4, lit 5, lit 6, lit 7]
  simp only [nI_add]
  rw [ix_nI (by omega), ix_nI (by omega), ix_nI (by omega), ix_nI (by omega), ix_nI (by omega), ix_nI (by omega), ix_nI (by omega), ix_nI (by omega)]
  refine ⟨vp_in_nI (by omega) (by decide), fun h3 e3 => ⟨vp_in_nI (by omega) (by decide), fun h5 e5 => ⟨vp_in_nI (by omega) (by decide), fun h7 e7 => ⟨vp_in_nI (by omega) (by decide), fun h9 e9 => ⟨vp_in_nI (by omega) (by decide), fun h11 e11 => ⟨vp_in_nI (by omega) (by decide), fun h13 e13 => ⟨vp_in_nI (by omega) (by decide), fun h15 e15 => ⟨vp_in_nI (by omega) (by decide), fun h17 e17 => ?_⟩⟩⟩⟩⟩⟩⟩⟩
  have f17 : FrI (fun x k => x = 122 ∧ 8 * vL v ≤ k ∧ k < 8 * vL v + 8) h h17 := by
    rw [e17, e15, e13, e11, e9, e7, e5, e3]
    exact (((((((FrI.si ⟨rfl, by omega⟩).trans (FrI.si ⟨rfl, by omega⟩)).trans (FrI.si ⟨rfl, by omega⟩)).trans (FrI.si ⟨rfl, by omega⟩)).trans (FrI.si ⟨rfl, by omega⟩)).trans (FrI.si ⟨rfl, by omega⟩)).trans (FrI.si ⟨rfl, by omega⟩)).trans (FrI.si ⟨rfl, by omega⟩)
  have r17 : ∀ k, k < 8 → gi h17 122 (8 * vL v + k) = nI (vl (addL v a b c 10 1) (vL v) k) := by
    intro k hk
    rw [vl_addL, if_pos rfl, e17, e15, e13, e11, e9, e7, e5, e3]
    simp only [gi_si, true_and]
    have hk' : k = 0 ∨ k = 1 ∨ k = 2 ∨ k = 3 ∨ k = 4 ∨ k = 5 ∨ k = 6 ∨ k = 7 := by omega
    rcases hk' with rfl | rfl | rfl | rfl | rfl | rfl | rfl | rfl <;> simp <;> rfl
  have g17 : gi h17 117 7 = nI (vL v) := by rw [f17.1 _ _ (by omega)]; exact a4
  rw [g17, ix_nI (by omega)]
  refine ⟨vp_in_nI hL (by decide), fun h19 e19 => ?_⟩
  have f19 : FrI (fun x k => (x = 122 ∧ 8 * vL v ≤ k ∧ k < 8 * vL v + 8) ∨ (x = 123 ∧ k = vL v)) h h19 := (f17.mono (fun x k q => Or.inl q)).trans (by rw [e19]; exact FrI.si (Or.inr ⟨rfl, rfl⟩))
  have key := loop_up (L := fun f i => ∀ g, (∀ k, k < i → gi g 124 (16 * vL v + k) = nI 0) → FrI (fun x k => x = 124 ∧ 16 * vL v ≤ k ∧ k < 16 * vL v + 16) h19 g → f_X8_addLine_L104 Q f (nI i) g) 16 0 (by omega) (fun f g g1 gf => ?_) (fun i f _ hi ih g g1 gf => ?_)
  · obtain ⟨f, hf⟩ := key
    exact ⟨f, hf h19 (fun k hk => by omega) FrI.rf⟩
  · unfold f_X8_addLine_L104
    refine ⟨fun _ => ?_, fun c => absurd (nI_le (Nat.le_refl _) (by decide)) c⟩
    intro h21 e21
    have gg : gi g 117 7 = nI (vL v) := by rw [gf.1 _ _ (by omega), f19.1 _ _ (by omega)]; exact a4
    rw [gg, nI_1] at e21
    have hf : ∀ x k, ¬ (x = 122 ∧ 8 * vL v ≤ k ∧ k < 8 * vL v + 8) → ¬ (x = 123 ∧ k = vL v) → ¬ (x = 124 ∧ 16 * vL v ≤ k ∧ k < 16 * vL v + 16) → ¬ (x = 117 ∧ k = 7) → gi h21 x k = gi h x k := by
      intro x k n1 n2 n3 n4
      rw [e21, gi_si, if_neg n4, gf.1 _ _ n3, f19.1 _ _ (by omega)]
    refine hQ h21 ⟨⟨?_, ?_, ?_, ?_⟩, fun s hs => ⟨?_, ?_, ?_⟩, fun l hl k hk => ?_, fun l hl => ?_, fun l hl k hk => ?_, fun l h1 h2' k hk => ?_⟩ ?_
    · rw [hf _ _ (by omega) (by omega) (by omega) (by omega)]; exact a1
    · rw [hf _ _ (by omega) (by omega) (by omega) (by omega)]; exact a2
    · rw [hf _ _ (by omega) (by omega) (by omega) (by omega)]; exact a3
    · rw [e21, gi_si, if_pos ⟨rfl, rfl⟩]; rfl
    · rw [hf _ _ (by omega) (by omega) (by omega) (by omega)]; exact (b' s hs).1
    · rw [hf _ _ (by omega) (by omega) (by omega) (by omega)]; exact (b' s hs).2.1
    · rw [hf _ _ (by omega) (by omega) (by omega) (by omega)]; exact (b' s hs).2.2
    · have hl' : l < vL v + 1 := hl
      by_cases e : l = vL v
      · rw [e, e21, gi_si, if_neg (by omega), gf.1 _ _ (by omega), e19, gi_si, if_neg (by omega)]
        exact r17 k hk
      · rw [vl_addL, if_neg e, hf _ _ (by omega) (by omega) (by omega) (by omega)]
        exact c' l (by omega) k hk
    · have hl' : l < vL v + 1 := hl
      rw [vl_addL]
      by_cases e : l = vL v
      · rw [if_pos e, e, e21, gi_si, if_neg (by omega), gf.1 _ _ (by omega), e19, gi_si, if_pos ⟨rfl, rfl⟩]
        rfl
      · rw [if_neg e, hf _ _ (by omega) (by omega) (by omega) (by omega)]
        exact d' l (by omega)
    · have hl' : l < vL v + 1 := hl
      rw [vy_addL]
      by_cases e : l = vL v
      · rw [if_pos e, e, e21, gi_si, if_neg (by omega)]
        exact g1 k hk
      · rw [if_neg e, hf _ _ (by omega) (by omega) (by omega) (by omega)]
        exact e' l (by omega) k hk
    · have h1' : vL v + 1 ≤ l := h1
      rw [hf _ _ (by omega) (by omega) (by omega) (by omega)]
      exact f' l (by omega) h2' k hk
    · refine ((f19.mono (fun x k q => ?_)).trans (gf.mono (fun x k q => ?_))).trans ?_
      · simp only [cellsM]; omega
      · simp only [cellsM]; omega
      · rw [e21]; exact FrI.si (by simp [cellsM])
  · unfold f_X8_addLine_L104
    have gg : gi g 117 7 = nI (vL v) := by rw [gf.1 _ _ (by omega), f19.1 _ _ (by omega)]; exact a4
    rw [gg, lit 16, nI_mul, nI_add, ix_nI (by omega)]
    refine ⟨fun c => absurd ((nI_leI (by omega) (by omega)).mp c) (by omega), fun _ => ⟨vp_in_nI (by omega) (by decide), ?_⟩⟩
    intro h4 e4' x ex
    rw [ex, nI_1]
    refine ih h4 (fun k hk => ?_) (gf.trans (by rw [e4']; exact FrI.si (by omega)))
    rw [e4', gi_si]
    by_cases e : k = i
    · rw [if_pos ⟨rfl, by omega⟩]; rfl
    · rw [if_neg (by omega)]
      exact g1 k (by omega)
