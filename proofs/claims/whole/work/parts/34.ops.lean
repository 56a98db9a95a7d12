/-! undo, tear, wipe, count, status -/
theorem WF_addS {m B B' : Nat} {v : WV} (hF : WF m B v) (hS : vS v < 6) {a b c : Nat} (ha : a < 4) (hc : c ≤ 99) (hB : B + b ≤ B') (hB' : B' ≤ 4000000) : WF m B' (addS v a b c) := by
  obtain ⟨h1, h2, h3, h4, h5, h6⟩ := hF
  have e1 : stk (addS v a b c) = stk v + b := by
    show sm (fun s => vs (addS v a b c) s 1) (vS v + 1) = _
    rw [sm]
    have : sm (fun s => vs (addS v a b c) s 1) (vS v) = stk v := sm_congr (fun i hi => by rw [vs_addS, if_neg (by omega)])
    rw [this, vs_addS, if_pos rfl]
    rfl
  have e2 : wya (addS v a b c) = wya v := rfl
  have e3 : vLo (addS v a b c) = vLo v := rfl
  refine ⟨⟨h1.1, by show vS v + 1 ≤ 6; omega, h1.2.2⟩, fun s hs => ?_, fun l hl => ?_, by rw [e1, e2, e3]; omega, h5, hB'⟩
  · have hs' : s < vS v + 1 := hs
    rw [vs_addS, vs_addS]
    by_cases q : s = vS v
    · rw [if_pos q, if_pos q]; exact ⟨ha, hc⟩
    · rw [if_neg q, if_neg q]; exact h2 s (by omega)
  · obtain ⟨a0, a1, a2, a3⟩ := h3 l hl
    exact ⟨a0, Nat.lt_succ_of_lt a1, Nat.lt_succ_of_lt a2, a3⟩
theorem WS_station {c : Nat} {σ : ST} {x1 x2 : Int32} (hW : WS c σ) (hc : c < 512) : WS (c + 1) (o_station σ x1 x2).2 := by
  unfold o_station
  split
  · rename_i p
    split
    · rename_i q
      refine WS_V hW hc (WF_addS hW.2.1.1 q ?_ (by omega) ?_ (by omega)) hW.2.1.2
      · unfold nt; omega
      · unfold nt; omega
    · exact WS_F hW hc
  · exact WS_F hW hc
section Ops
variable {c : Nat} {σ : ST} {h : HP} {Q : Int32 → HP → Prop}
def o_undo (σ : ST) : Int32 × ST := if sK σ = 1 then (nI (vT (sKv σ)), uV σ (sKv σ)) else (fnd 3, uF σ 3)
theorem WS_undo (hW : WS c σ) (hc : c < 512) : WS (c + 1) (o_undo σ).2 := by
  unfold o_undo
  split
  · rename_i q
    exact WS_V hW hc (WF_up (hW.2.2.1.2 q).1 (by omega) (by omega)) (hW.2.2.1.2 q).2
  · exact WS_F hW hc
theorem c_undo (hW : WS c σ) (hI : CI σ h) (hQ : ∀ h', CI (o_undo σ).2 h' → LoF h h' → Q (o_undo σ).1 h') : f_X7_undo h Q := by
  unfold f_X7_undo
  unfold o_undo at hQ
  rw [hI.2.1.1, lit 0]
  have k1 := hW.2.2.1.1
  by_cases q : sK σ = 1
  · rw [if_pos q] at hQ
    refine ⟨fun z => absurd ((nI_eq (by omega) (by omega)).mp z) (by omega), fun _ => ?_⟩
    refine c_become (hW.2.2.1.2 q).1 (hI.2.1.2 q) (Or.inl (by omega)) (fun h' hC f => ?_)
    rw [hC.1.1]
    exact hQ h' (hI.world hW hC f) (f.lo (by intro a k; simp only [cellsC]; omega))
  · rw [if_neg q] at hQ
    refine ⟨fun _ => c_found (by omega) hI hQ fnd3 hW.small, fun z => absurd ((nI_eq (by omega) (by omega)).mpr (by omega)) z⟩
theorem m_undo (hW : WS c σ) (hI : MI σ h) (hQ : ∀ h', MI (o_undo σ).2 h' → HiF h h' → Q (o_undo σ).1 h') : f_X8_undo h Q := by
  unfold f_X8_undo
  unfold o_undo at hQ
  rw [hI.2.1.1, lit 0]
  have k1 := hW.2.2.1.1
  by_cases q : sK σ = 1
  · rw [if_pos q] at hQ
    refine ⟨fun z => absurd ((nI_eq (by omega) (by omega)).mp z) (by omega), fun _ => ?_⟩
    refine m_comesBack (hW.2.2.1.2 q).1 (hI.2.1.2 q) (Or.inl rfl) (fun h' hC f => ?_)
    rw [hC.1.1]
    exact hQ h' (hI.world hC f) (f.hi (by intro a k; simp only [cellsM]; omega))
  · rw [if_neg q] at hQ
    refine ⟨fun _ => m_finds (by omega) hI hQ fnd3, fun z => absurd ((nI_eq (by omega) (by omega)).mpr (by omega)) z⟩
theorem c_tear (hW : WS c σ) (hI : CI σ h) (hQ : ∀ h', CI (uK σ 0 (sKv σ)) h' → LoF h h' → Q (nI (sK σ)) h') : f_X7_tear h Q := by
  unfold f_X7_tear
  intro x ex h4 e4
  have k1 := hW.2.2.1.1
  have ex' : x = nI (sK σ) := by
    rw [ex, hI.2.1.1]
    have : sK σ = 0 ∨ sK σ = 1 := by omega
    rcases this with z | z <;> rw [z] <;> decide +kernel
  rw [ex']
  have f : FrI (fun a _ => a = 0) h h4 := by rw [e4]; exact FrI.si rfl
  obtain ⟨a, ⟨b1, b2⟩, c', ⟨d1, d2⟩, e⟩ := hI
  refine hQ h4 ⟨a.frame f (by intro a k h1 h2; omega) hW.small.1 hW.small.2.1, ⟨by rw [e4, gi_si, if_pos ⟨rfl, rfl⟩]; rfl, fun q => absurd (show (0 : Nat) = 1 from q) (by decide)⟩, fun j hj => by rw [f.1 _ _ (by omega)]; exact c' j hj, ⟨by rw [f.1 _ _ (by omega)]; exact d1, fun i hi => by rw [f.1 _ _ (by omega)]; exact d2 i hi⟩, fun s hs => ?_⟩ (f.lo (by intro a k; omega))
  rw [f.1 _ _ (by omega), f.1 _ _ (by omega)]
  exact ⟨(e s hs).1, (e s hs).2.1, fun i hi => by rw [f.2.1]; exact (e s hs).2.2 i hi⟩
theorem m_tear (hW : WS c σ) (hI : MI σ h) (hQ : ∀ h', MI (uK σ 0 (sKv σ)) h' → HiF h h' → Q (nI (sK σ)) h') : f_X8_tear h Q := by
  unfold f_X8_tear
  intro x ex h4 e4
  have k1 := hW.2.2.1.1
  have ex' : x = nI (sK σ) := by
    rw [ex, hI.2.1.1]
    have : sK σ = 0 ∨ sK σ = 1 := by omega
    rcases this with z | z <;> rw [z] <;> decide +kernel
  rw [ex']
  have f : FrI (fun a k => a = 117 ∧ k = 39) h h4 := by rw [e4]; exact FrI.si ⟨rfl, rfl⟩
  obtain ⟨a, ⟨b1, b2⟩, c', ⟨d1, d2⟩, e⟩ := hI
  refine hQ h4 ⟨a.frame f (by intro a k h1; simp only [cellsM] at h1; omega), ⟨by rw [e4, gi_si, if_pos ⟨rfl, rfl⟩]; rfl, fun q => absurd (show (0 : Nat) = 1 from q) (by decide)⟩, fun j hj => by rw [f.1 _ _ (by omega)]; exact c' j hj, ⟨by rw [f.1 _ _ (by omega)]; exact d1, fun i hi => by rw [f.1 _ _ (by omega)]; exact d2 i hi⟩, fun s hs => ?_⟩ (f.hi (by intro a k; omega))
  rw [f.1 _ _ (by omega), f.1 _ _ (by omega)]
  exact ⟨(e s hs).1, (e s hs).2.1, fun i hi => by rw [f.2.1]; exact (e s hs).2.2 i hi⟩
theorem WS_wipe (hW : WS c σ) : WS c (uT σ 0 (sTb σ)) := ⟨hW.1, hW.2.1, hW.2.2.1, hW.2.2.2.1, ⟨by show 0 ≤ 120; omega, fun i hi => absurd (show i < 0 from hi) (by omega)⟩, hW.2.2.2.2.2⟩
theorem c_wipe (hW : WS c σ) (hI : CI σ h) (hQ : ∀ h', CI (uT σ 0 (sTb σ)) h' → LoF h h' → Q (nI (sTn σ)) h') : f_X7_wipe h Q := by
  unfold f_X7_wipe
  intro x ex h4 e4
  rw [ex, hI.2.2.2.1.1]
  have f : FrI (fun a _ => a = 105) h h4 := by rw [e4]; exact FrI.si rfl
  obtain ⟨a, ⟨b1, b2⟩, c', ⟨d1, d2⟩, e⟩ := hI
  refine hQ h4 ⟨a.frame f (by intro a k h1 h2; omega) hW.small.1 hW.small.2.1, ⟨by rw [f.1 _ _ (by omega)]; exact b1, fun q => (b2 q).frame f (by intro a k h1 h2; omega) (hW.small.2.2 q).1 (hW.small.2.2 q).2⟩, fun j hj => by rw [f.1 _ _ (by omega)]; exact c' j hj, ⟨by rw [e4, gi_si, if_pos ⟨rfl, rfl⟩]; rfl, fun i hi => absurd (show i < 0 from hi) (by omega)⟩, fun s hs => ?_⟩ (f.lo (by intro a k; omega))
  rw [f.1 _ _ (by omega), f.1 _ _ (by omega)]
  exact ⟨(e s hs).1, (e s hs).2.1, fun i hi => by rw [f.2.1]; exact (e s hs).2.2 i hi⟩
theorem m_wipe (hI : MI σ h) (hQ : ∀ h', MI (uT σ 0 (sTb σ)) h' → HiF h h' → Q (nI (sTn σ)) h') : f_X8_wipe h Q := by
  unfold f_X8_wipe
  intro x ex h4 e4
  rw [ex, hI.2.2.2.1.1]
  have f : FrI (fun a k => a = 117 ∧ k = 26) h h4 := by rw [e4]; exact FrI.si ⟨rfl, rfl⟩
  obtain ⟨a, ⟨b1, b2⟩, c', ⟨d1, d2⟩, e⟩ := hI
  refine hQ h4 ⟨a.frame f (by intro a k h1; simp only [cellsM] at h1; omega), ⟨by rw [f.1 _ _ (by omega)]; exact b1, fun q => (b2 q).frame f (by intro k; omega)⟩, fun j hj => by rw [f.1 _ _ (by omega)]; exact c' j hj, ⟨by rw [e4, gi_si, if_pos ⟨rfl, rfl⟩]; rfl, fun i hi => absurd (show i < 0 from hi) (by omega)⟩, fun s hs => ?_⟩ (f.hi (by intro a k; omega))
  rw [f.1 _ _ (by omega), f.1 _ _ (by omega)]
  exact ⟨(e s hs).1, (e s hs).2.1, fun i hi => by rw [f.2.1]; exact (e s hs).2.2 i hi⟩
def o_count (σ : ST) (x : Int32) : Int32 × ST :=
  if x = 0 then (nI (vT (sV σ)), σ) else if x = 1 then (nI (vS (sV σ)), σ) else if x = 2 then (nI (vL (sV σ)), σ) else if x = 3 then (nI (vLo (sV σ)), σ) else if x = 4 then (nI (stk (sV σ) + wya (sV σ)), σ) else if x = 5 then (nI (sTn σ), σ) else (fnd 0, uF σ 0)
theorem WS_count {x : Int32} (hW : WS c σ) (hc : c < 512) : WS (c + 1) (o_count σ x).2 := by
  have h' := hW.up (Nat.le_succ c) hc
  unfold o_count
  repeat' split
  all_goals first | exact h' | exact WS_F hW hc
theorem c_count {x : Int32} (hW : WS c σ) (hI : CI σ h) (hQ : ∀ h', CI (o_count σ x).2 h' → LoF h h' → Q (o_count σ x).1 h') : f_X7_count x h Q := by
  unfold f_X7_count
  unfold o_count at hQ
  refine ⟨fun q => ?_, fun q => ?_⟩
  · rw [if_pos q] at hQ; rw [hI.1.1.1]; exact hQ h hI LoF.rf
  rw [if_neg q] at hQ
  refine ⟨fun q => ?_, fun q => ?_⟩
  · rw [if_pos q] at hQ; rw [hI.1.1.2.2.1]; exact hQ h hI LoF.rf
  rw [if_neg q] at hQ
  refine ⟨fun q => ?_, fun q => ?_⟩
  · rw [if_pos q] at hQ; rw [hI.1.1.2.2.2]; exact hQ h hI LoF.rf
  rw [if_neg q] at hQ
  refine ⟨fun q => ?_, fun q => ?_⟩
  · rw [if_pos q] at hQ; rw [hI.1.1.2.1]; exact hQ h hI LoF.rf
  rw [if_neg q] at hQ
  refine ⟨fun q => ?_, fun q => ?_⟩
  · rw [if_pos q] at hQ; exact c_allGoods hW.2.1.1 hI.1 (hQ h hI LoF.rf)
  rw [if_neg q] at hQ
  refine ⟨fun q => ?_, fun q => ?_⟩
  · rw [if_pos q] at hQ; rw [hI.2.2.2.1.1]; exact hQ h hI LoF.rf
  rw [if_neg q] at hQ
  exact c_found (by omega) hI hQ fnd0 hW.small
theorem m_count {x : Int32} (hW : WS c σ) (hI : MI σ h) (hQ : ∀ h', MI (o_count σ x).2 h' → HiF h h' → Q (o_count σ x).1 h') : f_X8_count x h Q := by
  unfold f_X8_count
  unfold o_count at hQ
  refine ⟨fun q => ?_, fun q => ?_⟩
  · rw [if_pos q] at hQ; rw [hI.1.1.1]; exact hQ h hI HiF.rf
  rw [if_neg q] at hQ
  refine ⟨fun q => ?_, fun q => ?_⟩
  · rw [if_pos q] at hQ; rw [hI.1.1.2.2.1]; exact hQ h hI HiF.rf
  rw [if_neg q] at hQ
  refine ⟨fun q => ?_, fun q => ?_⟩
  · rw [if_pos q] at hQ; rw [hI.1.1.2.2.2]; exact hQ h hI HiF.rf
  rw [if_neg q] at hQ
  refine ⟨fun q => ?_, fun q => ?_⟩
  · rw [if_pos q] at hQ; rw [hI.1.1.2.1]; exact hQ h hI HiF.rf
  rw [if_neg q] at hQ
  refine ⟨fun q => ?_, fun q => ?_⟩
  · rw [if_pos q] at hQ; exact m_goods hW.2.1.1 hI.1 (hQ h hI HiF.rf)
  rw [if_neg q] at hQ
  refine ⟨fun q => ?_, fun q => ?_⟩
  · rw [if_pos q] at hQ; rw [hI.2.2.2.1.1]; exact hQ h hI HiF.rf
  rw [if_neg q] at hQ
  exact m_finds (by omega) hI hQ fnd0
end Ops
