/-! the reference's questions about its world -/
section Mdl
variable {m B : Nat} {v : WV} {h : HP} {Q : Int32 → HP → Prop}
theorem m_holds (hF : WF m B v) (hM : HM v h) {s t : Nat} (hs : s < vS v) (ht : t < 1000000) (hQ : Q (nI (holdsS v s t)) h) : f_X8_holds (nI s) (nI t) h Q := by
  have h1 := hF.2.1 s hs
  have h2 := hM.2.1 s hs
  have hn := hF.1
  exact t_holdsM (by omega) h2.1 h2.2.2 h1.1 (by omega) ht hQ
theorem m_roomBy (hF : WF m B v) (hM : HM v h) {l t more : Nat} (hl : l < vL v) (ht : t < 1000000) (hmo : more < 1000) (hQ : Q (nI (roomL v l t more)) h) : f_X8_roomBy (nI l) (nI t) (nI more) h Q := by
  obtain ⟨a0, a1, a2, a3, a4, a5, a6, a7, a8, a9, a10⟩ := hF.2.2.1 l hl
  have hm := hF.2.2.2.2.1
  have hn := hF.1
  have g := fun k hk => hM.2.2.1 l hl k hk
  exact t_roomByM (by omega) (g 0 (by omega)) (g 3 (by omega)) (g 4 (by omega)) (g 5 (by omega)) (g 6 (by omega)) (g 7 (by omega)) a0 (by omega) (by omega) (by omega) (by omega) (by omega) ht hmo hQ
theorem m_room (hF : WF m B v) (hM : HM v h) {l t : Nat} (hl : l < vL v) (ht : t < 1000000) (hQ : Q (nI (roomL v l t 0)) h) : f_X8_room (nI l) (nI t) h Q := by
  unfold f_X8_room
  exact m_roomBy (more := 0) hF hM hl ht (by omega) hQ
theorem m_takes (hF : WF m B v) (hM : HM v h) {l : Nat} (hl : l < vL v) (hQ : Q (nI (takesL v l)) h) : f_X8_takes (nI l) h Q := by
  obtain ⟨a0, a1, a2, a3, a4, a5, a6, a7, a8, a9, a10⟩ := hF.2.2.1 l hl
  have hn := hF.1
  have g := fun k hk => hM.2.2.1 l hl k hk
  exact t_takesM (by omega) (g 0 (by omega)) (g 4 (by omega)) (g 5 (by omega)) a0 (by omega) (by omega) hQ
theorem m_at (hF : WF m B v) (hM : HM v h) {l k : Nat} (hl : l < vL v) (hk : k < 8) : f_X8_at (nI l) (nI k) h Q ↔ Q (nI (vl v l k)) h := by
  have hn := hF.1
  rw [at_eq (by omega) hk, hM.2.2.1 l hl k hk]
/-- the sum of a row's first n numbers -/
theorem m_sumOf {a n : Nat} {f : Nat → Nat} (hn : n ≤ kn a) (hk : kn a < 2 ^ 31) (hf : ∀ i, i < n → gi h a i = nI (f i)) (hQ : Q (nI (sm f n)) h) : f_X8_sumOf a (nI n) h Q := by
  unfold f_X8_sumOf
  refine loop_up (L := fun c i => f_X8_sumOf_L5 a (nI n) Q c (nI (sm f i)) (nI i) h) n 0 (by omega) (fun c => ?_) (fun i c _ hi ih => ?_)
  · unfold f_X8_sumOf_L5
    exact ⟨fun _ => hQ, fun c => absurd (nI_le (Nat.le_refl _) (by omega)) c⟩
  · unfold f_X8_sumOf_L5
    refine ⟨fun c => absurd ((nI_leI (by omega) (by omega)).mp c) (by omega), fun _ => ⟨vp_in_nI (by omega) hk, ?_⟩⟩
    intro x1 e1 x2 e2
    rw [ix_nI (by omega), hf i hi] at e1
    rw [e1, e2, nI_add, nI_1]
    exact ih
theorem m_onWay (hF : WF m B v) (hM : HM v h) {l : Nat} (hl : l < vL v) (hQ : Q (nI (wyl v l)) h) : f_X8_onWay (nI l) h Q := by
  have hn := hF.1
  unfold f_X8_onWay
  refine loop_up (L := fun f i => f_X8_onWay_L4 (nI l) Q f (nI (sm (fun k => vy v l k) i)) (nI i) h) 16 0 (by omega) (fun f => ?_) (fun i f _ hi ih => ?_)
  · unfold f_X8_onWay_L4
    exact ⟨fun _ => hQ, fun c => absurd (by rw [lit 16]; exact nI_le (Nat.le_refl _) (by omega)) c⟩
  · unfold f_X8_onWay_L4
    refine ⟨fun c => absurd (by rw [lit 16] at c; exact (nI_leI (by omega) (by omega)).mp c) (by omega), fun _ => ?_⟩
    rw [lit 16, nI_mul, nI_add, ix_nI (by omega)]
    refine ⟨vp_in_nI (by omega) (by decide), ?_⟩
    intro x1 e1 x2 e2
    rw [hM.2.2.2.2.1 l hl i hi] at e1
    rw [e1, e2, nI_add, nI_1]
    exact ih
theorem way_all (hF : WF m B v) (hM : HM v h) : ∃ f : Nat → Nat, (∀ i, i < 160 → gi h 124 i = nI (f i)) ∧ sm f 160 = wya v := by
  have hn := hF.1
  refine ⟨fun i => if i / 16 < vL v then vy v (i / 16) (i % 16) else 0, fun i hi => ?_, ?_⟩
  · by_cases c : i / 16 < vL v
    · simp only [if_pos c]
      rw [← hM.2.2.2.2.1 (i / 16) c (i % 16) (by omega)]
      congr 1
      omega
    · simp only [if_neg c]
      rw [← hM.2.2.2.2.2 (i / 16) (by omega) (by omega) (i % 16) (by omega)]
      congr 1
      omega
  · rw [show (160 : Nat) = 16 * 10 by rfl, sm_rows]
    unfold wya
    have e : ∀ l, l < vL v → sm (fun k => if (16 * l + k) / 16 < vL v then vy v ((16 * l + k) / 16) ((16 * l + k) % 16) else 0) 16 = wyl v l := by
      intro l hl
      unfold wyl
      apply sm_congr
      intro k hk
      have q1 : (16 * l + k) / 16 = l := by omega
      have q2 : (16 * l + k) % 16 = k := by omega
      rw [q1, q2, if_pos hl]
    rw [sm_zero (m := vL v) (n := 10) _ (by omega)]
    · exact sm_congr e
    · intro l h1 h2
      have : sm (fun k => if (16 * l + k) / 16 < vL v then vy v ((16 * l + k) / 16) ((16 * l + k) % 16) else 0) 16 ≤ 16 * 0 := by
        apply sm_bound
        intro k hk
        have q1 : (16 * l + k) / 16 = l := by omega
        rw [q1, if_neg (by omega)]
        exact Nat.le_refl _
      omega
theorem m_allOnWay (hF : WF m B v) (hM : HM v h) (hQ : Q (nI (wya v)) h) : f_X8_allOnWay h Q := by
  obtain ⟨f, h1, h2⟩ := way_all hF hM
  unfold f_X8_allOnWay
  rw [lit 160]
  exact m_sumOf (by decide +kernel) (by decide +kernel) h1 (by rw [h2]; exact hQ)
theorem m_stk (hF : WF m B v) (hM : HM v h) (hQ : Q (nI (stk v)) h) : f_X8_sumOf 120 (gi h 117 3) h Q := by
  have hn := hF.1
  have hk : kn 120 = 6 := by decide +kernel
  rw [hM.1.2.2.1]
  exact m_sumOf (by omega) (by omega) (fun i hi => (hM.2.1 i hi).2.1) hQ
theorem m_goods (hF : WF m B v) (hM : HM v h) (hQ : Q (nI (stk v + wya v)) h) : f_X8_goods h Q := by
  unfold f_X8_goods
  refine m_stk hF hM (m_allOnWay hF hM ?_)
  rw [nI_add]
  exact hQ
theorem m_allSent (hF : WF m B v) (hM : HM v h) (hQ : Q (nI (sm (fun l => vl v l 8) (vL v))) h) : f_X8_sumOf 123 (gi h 117 7) h Q := by
  have hn := hF.1
  have hk : kn 123 = 10 := by decide +kernel
  rw [hM.1.2.2.2]
  exact m_sumOf (by omega) (by omega) (fun i hi => hM.2.2.2.1 i hi) hQ
theorem m_roomOfAll (hF : WF m B v) (hM : HM v h) (hQ : Q (nI (sm (fun l => roomL v l (vT v) 0) (vL v))) h) : f_X8_roomOfAll h Q := by
  have hn := hF.1
  unfold f_X8_roomOfAll
  refine loop_up (L := fun f i => f_X8_roomOfAll_L4 Q f (nI (sm (fun l => roomL v l (vT v) 0) i)) (nI i) h) (vL v) 0 (by omega) (fun f => ?_) (fun i f _ hi ih => ?_)
  · unfold f_X8_roomOfAll_L4
    exact ⟨fun _ => hQ, fun c => absurd (by rw [hM.1.2.2.2]; exact nI_le (Nat.le_refl _) (by omega)) c⟩
  · unfold f_X8_roomOfAll_L4
    refine ⟨fun c => absurd (by rw [hM.1.2.2.2] at c; exact (nI_leI (by omega) (by omega)).mp c) (by omega), fun _ => ?_⟩
    rw [hM.1.1]
    refine m_room hF hM hi (by omega) ?_
    intro x1 e1 x2 e2
    rw [e1, e2, nI_add, nI_1]
    exact ih
theorem m_comesTo (hF : WF m B v) (hM : HM v h) {s : Nat} (hs : s < 1000) (hQ : Q (nI (sm (fun l => if vl v l 2 = s then wyl v l else 0) (vL v))) h) : f_X8_comesTo (nI s) h Q := by
  have hn := hF.1
  unfold f_X8_comesTo
  refine loop_up (L := fun f i => f_X8_comesTo_L4 (nI s) Q f (nI (sm (fun l => if vl v l 2 = s then wyl v l else 0) i)) (nI i) h) (vL v) 0 (by omega) (fun f => ?_) (fun i f _ hi ih => ?_)
  · unfold f_X8_comesTo_L4
    exact ⟨fun _ => hQ, fun c => absurd (by rw [hM.1.2.2.2]; exact nI_le (Nat.le_refl _) (by omega)) c⟩
  · unfold f_X8_comesTo_L4
    have hl := hF.2.2.1 i hi
    refine ⟨fun c => absurd (by rw [hM.1.2.2.2] at c; exact (nI_leI (by omega) (by omega)).mp c) (by omega), fun _ => ?_⟩
    rw [lit 2, m_at hF hM hi (by omega)]
    refine ⟨fun c => ?_, fun c => ?_⟩
    · have c' := nI_inj (by omega) (by omega) c
      refine m_onWay hF hM hi ?_
      unfold f_X8_comesTo_J32
      intro x1 e1 x2 e2
      rw [e1, e2, nI_add, nI_1]
      simp only [sm, if_pos c'] at ih
      exact ih
    · have c' : ¬ vl v i 2 = s := fun q => c (by rw [q])
      unfold f_X8_comesTo_J32
      intro x1 e1 x2 e2
      rw [e1, e2, lit 0, nI_add, nI_1]
      simp only [sm, if_neg c'] at ih
      exact ih
end Mdl
