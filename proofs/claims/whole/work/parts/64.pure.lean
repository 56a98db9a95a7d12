/-! changed networks -/
theorem mx_same {N N' : NW} {f : Nat → Nat} {T : Nat → Bool} (hA : nA N' = nA N) (hT : nT N' = nT N) (hH : nH N' = nH N) (h : Mx N 151 150 f T) (h1 : ∀ a, a < nA N → f a ≤ nC N' a) (h2 : ∀ a, a < nA N → f a < nC N' a → T (nT N a) = true → T (nH N a) = true) : Mx N' 151 150 f T ∧ ex N' f 150 = ex N f 150 := by
  have e : ∀ w, ex N' f w = ex N f w := by
    intro w
    unfold ex dl
    rw [hA, hT, hH]
  refine ⟨⟨⟨fun a ha => h1 a (by rw [← hA]; exact ha), fun w a b => by rw [e]; exact h.1.2 w a b⟩, ⟨h.2.1.1, fun a ha => ?_⟩, h.2.2⟩, e 150⟩
  rw [hA] at ha
  rw [hT, hH]
  exact ⟨h2 a ha, (h.2.1.2 a ha).2⟩
/-- from where goods can still come, whatever the flow -/
def BrV (N : NW) (B : Nat → Bool) : Prop := ∃ f T, Mx N 151 150 f T ∧ BCl N 150 f B ∧ B 151 = false ∧ ∀ B2, BCl N 150 f B2 → ∀ w, B w = true → B2 w = true
theorem clo_bcl {N : NW} {f : Nat → Nat} {T : Nat → Bool} (h : Clo N 151 f T) (h0 : T 150 = false) : BCl N 150 f (fun w => !T w) := by
  refine ⟨by show (!T 150) = true; rw [h0]; rfl, fun a ha => ?_⟩
  have := h.2 a ha
  cases q1 : T (nH N a) <;> cases q2 : T (nT N a) <;> simp [q1, q2] at this ⊢ <;> omega
theorem bcl_clo {N : NW} {f : Nat → Nat} {B : Nat → Bool} (h : BCl N 150 f B) (h0 : B 151 = false) : Clo N 151 f (fun w => !B w) := by
  refine ⟨by show (!B 151) = true; rw [h0]; rfl, fun a ha => ?_⟩
  have := h.2 a ha
  cases q1 : B (nH N a) <;> cases q2 : B (nT N a) <;> simp [q1, q2] at this ⊢ <;> omega
theorem br_uniq {N : NW} {B B' : Nat → Bool} (hN : NB N 152) (h : BrV N B) (h' : BrV N B') : ∀ w, B w = B' w := by
  obtain ⟨f, T, m1, b1, b2, b3⟩ := h
  obtain ⟨f', T', m1', b1', b2', b3'⟩ := h'
  have e := mx_eq hN (by omega) (by omega) (by omega) m1 m1'
  have key : ∀ (f f' : Nat → Nat) (B' : Nat → Bool), Flw N 151 150 f → Flw N 151 150 f' → ex N f 150 = ex N f' 150 → BCl N 150 f' B' → B' 151 = false → BCl N 150 f B' := by
    intro f f' B' hf hf' he hb h0
    have c1 := bcl_clo hb h0
    have t0 : (fun w => !B' w) 150 = false := by show (!B' 150) = false; rw [hb.1]; rfl
    have v1 := cut_eq hN (by omega) (by omega) (by omega) hf' c1 t0
    have c2 := clo_of hN (by omega) (by omega) (by omega) hf c1.1 t0 (by rw [he, v1])
    have := clo_bcl c2 t0
    have e2 : (fun w => !(fun w => !B' w) w) = B' := by funext w; show (!!B' w) = B' w; cases B' w <;> rfl
    rw [e2] at this
    exact this
  intro w
  have a1 := b3 B' (key f f' B' m1.1 m1'.1 e b1' b2') w
  have a2 := b3' B (key f' f B m1'.1 m1.1 e.symm b1 b2) w
  cases q1 : B w <;> cases q2 : B' w <;> simp [q1, q2] at a1 a2 ⊢
theorem br_ex {N : NW} {f : Nat → Nat} {T : Nat → Bool} (h : Mx N 151 150 f T) : ∃ B, BrV N B ∧ BCl N 150 f B ∧ B 151 = false ∧ ∀ B2, BCl N 150 f B2 → ∀ w, B w = true → B2 w = true := by
  classical
  have b0 := clo_bcl h.2.1 h.2.2
  have hb : BCl N 150 f (fun w => decide (∀ B2, BCl N 150 f B2 → B2 w = true)) := by
    refine ⟨by rw [decide_eq_true_iff]; exact fun B2 hB => hB.1, fun a ha => ⟨fun q1 q2 => ?_, fun q1 q2 => ?_⟩⟩
    · rw [decide_eq_true_iff] at q2 ⊢
      exact fun B2 hB => (hB.2 a ha).1 q1 (q2 B2 hB)
    · rw [decide_eq_true_iff] at q2 ⊢
      exact fun B2 hB => (hB.2 a ha).2 q1 (q2 B2 hB)
  have hs : (fun w => decide (∀ B2, BCl N 150 f B2 → B2 w = true)) 151 = false := by
    rw [decide_eq_false_iff_not]
    intro q
    have := q _ b0
    have t : (!T 151) = true := this
    rw [h.2.1.1] at t
    cases t
  have hl : ∀ B2, BCl N 150 f B2 → ∀ w, (fun w => decide (∀ B2, BCl N 150 f B2 → B2 w = true)) w = true → B2 w = true := by
    intro B2 hB w hw
    have hw' : decide (∀ B2, BCl N 150 f B2 → B2 w = true) = true := hw
    rw [decide_eq_true_iff] at hw'
    exact hw' B2 hB
  exact ⟨_, ⟨f, T, h, hb, hs, hl⟩, hb, hs, hl⟩
noncomputable def brF (N : NW) : Nat → Bool := Classical.epsilon (fun B => BrV N B)
theorem brF_eq {N : NW} {B : Nat → Bool} (hN : NB N 152) (h : BrV N B) : ∀ w, brF N w = B w := br_uniq hN (Classical.epsilon_spec (p := fun B => BrV N B) ⟨B, h⟩) h
section Pr
variable {v : WV} {g n m B : Nat}
theorem setL_setL {l k x y : Nat} : setL (setL v l k x) l k y = setL v l k y := by
  unfold setL
  congr 2
  congr 1
  funext l' k'
  by_cases z : l' = l ∧ k' = k
  · simp only [if_pos z]
  · simp only [if_neg z]
theorem WF_setL0 {l k : Nat} (hF : WF m B v) (hk : k < 6) : WF m B (setL v l 0 k) := by
  obtain ⟨h1, h2, h3, h4, h5, h6⟩ := hF
  refine ⟨h1, h2, fun l' hl' => ?_, h4, h5, h6⟩
  obtain ⟨a0, a1, a2, a3, a4, a5, a6, a7, a8, a9, a10⟩ := h3 l' hl'
  have e : ∀ j, j ≠ 0 → vl (setL v l 0 k) l' j = vl v l' j := fun j hj => by rw [vl_setL, if_neg (fun z => hj z.2)]
  rw [e 1 (by omega), e 2 (by omega), e 3 (by omega), e 4 (by omega), e 5 (by omega), e 6 (by omega), e 7 (by omega), e 8 (by omega)]
  refine ⟨?_, a1, a2, a3, a4, a5, a6, a7, a8, a9, a10⟩
  rw [vl_setL]
  split
  · exact hk
  · exact a0
/-- a wider line -/
def widV (v : WV) (l : Nat) : WV := setL (setL v l 3 (vl v l 3 + 1)) l 6 (vl v l 6 + 1)
theorem vl_wid {l l' k : Nat} : vl (widV v l) l' k = if l' = l ∧ (k = 3 ∨ k = 6) then vl v l' k + 1 else vl v l' k := by
  unfold widV
  rw [vl_setL, vl_setL]
  by_cases z : l' = l
  · subst z
    by_cases z1 : k = 6
    · subst z1; simp
    · by_cases z2 : k = 3
      · subst z2; simp
      · rw [if_neg (by omega), if_neg (by omega), if_neg (by omega)]
  · rw [if_neg (by omega), if_neg (by omega), if_neg (by omega)]
theorem WF_wid {l : Nat} (hF : WF 99 B v) : WF 100 B (widV v l) := by
  obtain ⟨h1, h2, h3, h4, h5, h6⟩ := hF
  refine ⟨h1, h2, fun l' hl' => ?_, h4, by omega, h6⟩
  obtain ⟨a0, a1, a2, a3, a4, a5, a6, a7, a8, a9, a10⟩ := h3 l' hl'
  have e : ∀ j, j ≠ 3 → j ≠ 6 → vl (widV v l) l' j = vl v l' j := fun j h1 h2 => by rw [vl_wid, if_neg (by omega)]
  rw [e 0 (by omega) (by omega), e 1 (by omega) (by omega), e 2 (by omega) (by omega), e 4 (by omega) (by omega), e 5 (by omega) (by omega), e 7 (by omega) (by omega), e 8 (by omega) (by omega)]
  refine ⟨a0, a1, a2, a3, ?_, a5, a6, a7, ?_, a9, a10⟩
  · rw [vl_wid]; split <;> omega
  · rw [vl_wid]; split <;> omega
theorem roomV_more {kind width length tide later shift t : Nat} : roomV kind (width + 1) length tide (later + 1) shift t 0 = roomV kind width length tide later shift t 1 := by
  unfold roomV
  have e : (0 + if shift ≤ t then later + 1 else width + 1) = 1 + if shift ≤ t then later else width := by
    split <;> omega
  rw [e]
theorem nI_nei {a b : Nat} (ha : a < 2 ^ 31) (hb : b < 2 ^ 31) : (nI a = nI b) = (a = b) := propext (nI_eq ha hb)
theorem tn_wid {l : Nat} (hF : WF 99 B v) (hl : l < vL v) : tn (widV v l) (R0 (widV v l)) g n = tn v (rmB v (-1) (nI l) (-1) 0) g n := by
  have h6 := hF.1
  have e : ∀ l' j, j ≠ 3 → j ≠ 6 → vl (widV v l) l' j = vl v l' j := fun l' j h1 h2 => by rw [vl_wid, if_neg (by omega)]
  have vSe : vS (widV v l) = vS v := rfl
  have vLe : vL (widV v l) = vL v := rfl
  refine tn_congr vSe vLe (fun s hs i hi => ?_) (fun s hs i hi => rfl) (fun l' => ?_) (fun l' => e l' 1 (by omega) (by omega)) (fun l' => e l' 2 (by omega) (by omega)) (fun l' hl' i hi => ?_)
  · unfold cmV
    rw [show vs (widV v l) s 1 = vs v s 1 from rfl, vLe, show vT (widV v l) = vT v from rfl]
    split
    · rfl
    · split
      · apply sm_congr
        intro l' _
        rw [e l' 2 (by omega) (by omega)]
        rfl
      · rfl
  · show takesV (vl (widV v l) l' 0) (vl (widV v l) l' 4) (vl (widV v l) l' 5) = _
    rw [e l' 0 (by omega) (by omega), e l' 4 (by omega) (by omega), e l' 5 (by omega) (by omega)]
  · rw [vLe] at hl'
    show rmB (widV v l) (-1) (-1) (-1) 0 l' i = rmB v (-1) (nI l) (-1) 0 l' i
    unfold rmB
    rw [vLe, if_pos hl', if_pos hl']
    unfold rmR
    rw [if_neg (nI_nm1 (by omega)), if_neg (nI_nm1 (by omega)), if_neg (nI_nm1 (by omega)), e l' 8 (by omega) (by omega)]
    have er : roomL (widV v l) l' (vT (widV v l) + i) 0 = roomL v l' (vT v + i) (if nI l' = nI l then 1 else 0) := by
      show roomV (vl (widV v l) l' 0) (vl (widV v l) l' 3) (vl (widV v l) l' 4) (vl (widV v l) l' 5) (vl (widV v l) l' 6) (vl (widV v l) l' 7) (vT v + i) 0 = _
      rw [e l' 0 (by omega) (by omega), e l' 4 (by omega) (by omega), e l' 5 (by omega) (by omega), e l' 7 (by omega) (by omega), vl_wid, vl_wid]
      have en : (if nI l' = nI l then 1 else 0) = (if l' = l then 1 else 0) := by
        by_cases z : l' = l
        · rw [if_pos z, if_pos (by rw [z])]
        · rw [if_neg z, if_neg (fun q => z (nI_inj (by omega) (by omega) q))]
      rw [en]
      by_cases z : l' = l
      · rw [if_pos ⟨z, Or.inl rfl⟩, if_pos ⟨z, Or.inr rfl⟩, if_pos z]
        exact roomV_more
      · rw [if_neg (fun q => z q.1), if_neg (fun q => z q.1), if_neg z]
    rw [er]
theorem own_wid {l : Nat} : own (widV v l) g n = own v g n := by
  have e : ∀ l' j, j ≠ 3 → j ≠ 6 → vl (widV v l) l' j = vl v l' j := fun l' j h1 h2 => by rw [vl_wid, if_neg (by omega)]
  unfold own
  apply sm_congr
  intro i _
  unfold cmV
  rw [show vs (widV v l) g 1 = vs v g 1 from rfl, show vL (widV v l) = vL v from rfl, show vT (widV v l) = vT v from rfl]
  split
  · rfl
  · split
    · apply sm_congr
      intro l' _
      rw [e l' 2 (by omega) (by omega)]
      rfl
    · rfl
theorem roomV_up {kind width length tide later shift t : Nat} : roomV kind width length tide later shift t 0 ≤ roomV kind width length tide later shift t 1 := by
  unfold roomV
  simp only []
  generalize (if shift ≤ t then later else width) = r
  repeat' split
  all_goals omega
theorem rm_wi {l l' i : Nat} (hl' : l' < 2 ^ 31) (hl : l < 2 ^ 31) : (l' ≠ l → rmB v (-1) (nI l) (-1) 0 l' i = R0 v l' i) ∧ R0 v l' i ≤ rmB v (-1) (nI l) (-1) 0 l' i := by
  show (l' ≠ l → rmB v (-1) (nI l) (-1) 0 l' i = rmB v (-1) (-1) (-1) 0 l' i) ∧ rmB v (-1) (-1) (-1) 0 l' i ≤ rmB v (-1) (nI l) (-1) 0 l' i
  unfold rmB rmR
  rw [if_neg (nI_nm1 hl'), if_neg (nI_nm1 hl'), if_neg (nI_nm1 hl')]
  simp only [nI_eq hl' hl]
  refine ⟨fun z => by rw [if_neg z], ?_⟩
  by_cases z : l' = l
  · rw [if_pos z]
    have up : roomL v l' (vT v + i) 0 ≤ roomL v l' (vT v + i) 1 := roomV_up
    have q : ∀ r : Nat, (if nI l' = (-1 : Int32) ∧ 0 < r then 0 else r) = r := fun r => if_neg (fun q => nI_nm1 hl' q.1)
    split
    · show (if i = 0 then (if nI l' = (-1 : Int32) ∧ 0 < roomL v l' (vT v + i) 0 then 0 else roomL v l' (vT v + i) 0) - vl v l' 8 else (if nI l' = (-1 : Int32) ∧ 0 < roomL v l' (vT v + i) 0 then 0 else roomL v l' (vT v + i) 0)) ≤ (if i = 0 then (if nI l' = (-1 : Int32) ∧ 0 < roomL v l' (vT v + i) 1 then 0 else roomL v l' (vT v + i) 1) - vl v l' 8 else (if nI l' = (-1 : Int32) ∧ 0 < roomL v l' (vT v + i) 1 then 0 else roomL v l' (vT v + i) 1))
      rw [q, q]
      split <;> omega
    · exact Nat.le_refl _
  · rw [if_neg z]; exact Nat.le_refl _
/-- closed is held to nothing -/
theorem rm_cl {l l' i : Nat} (hl' : l' < 2 ^ 31) (hl : l < 2 ^ 31) : rmB v (nI l) (-1) (-1) 0 l' i = rmB v (-1) (-1) (nI l) 0 l' i := by
  unfold rmB rmR
  rw [if_neg (nI_nm1 hl'), if_neg (nI_nm1 hl')]
  simp only [nI_eq hl' hl]
  split
  · by_cases z : l' = l
    · have q : ∀ r : Nat, (if nI l' = (-1 : Int32) ∧ 0 < r then 0 else r) = r := fun r => if_neg (fun q => nI_nm1 hl' q.1)
      have q2 : ∀ r : Nat, (if l' = l ∧ 0 < r then 0 else r) = 0 := fun r => by
        by_cases q : 0 < r
        · rw [if_pos ⟨z, q⟩]
        · rw [if_neg (fun q2 => q q2.2)]; omega
      show (if i = 0 then (if nI l' = (-1 : Int32) ∧ 0 < (if l' = l then 0 else roomL v l' (vT v + i) 0) then 0 else (if l' = l then 0 else roomL v l' (vT v + i) 0)) - vl v l' 8 else (if nI l' = (-1 : Int32) ∧ 0 < (if l' = l then 0 else roomL v l' (vT v + i) 0) then 0 else (if l' = l then 0 else roomL v l' (vT v + i) 0))) = (if i = 0 then (if l' = l ∧ 0 < roomL v l' (vT v + i) 0 then 0 else roomL v l' (vT v + i) 0) - vl v l' 8 else (if l' = l ∧ 0 < roomL v l' (vT v + i) 0 then 0 else roomL v l' (vT v + i) 0))
      rw [q, q2, if_pos z]
    · have q : ∀ r : Nat, (if nI l' = (-1 : Int32) ∧ 0 < r then 0 else r) = r := fun r => if_neg (fun q => nI_nm1 hl' q.1)
      have q2 : ∀ r : Nat, (if l' = l ∧ 0 < r then 0 else r) = r := fun r => if_neg (fun q => z q.1)
      show (if i = 0 then (if nI l' = (-1 : Int32) ∧ 0 < (if l' = l then 0 else roomL v l' (vT v + i) 0) then 0 else (if l' = l then 0 else roomL v l' (vT v + i) 0)) - vl v l' 8 else (if nI l' = (-1 : Int32) ∧ 0 < (if l' = l then 0 else roomL v l' (vT v + i) 0) then 0 else (if l' = l then 0 else roomL v l' (vT v + i) 0))) = (if i = 0 then (if l' = l ∧ 0 < roomL v l' (vT v + i) 0 then 0 else roomL v l' (vT v + i) 0) - vl v l' 8 else (if l' = l ∧ 0 < roomL v l' (vT v + i) 0 then 0 else roomL v l' (vT v + i) 0))
      rw [q, q2, if_neg z]
  · rfl
/-- held rooms: no more than without; as without where it isn't held; min and sent -/
theorem rm_hl {l l' i x : Nat} (hl' : l' < 2 ^ 31) (hl : l < 2 ^ 31) : rmB v (-1) (-1) (nI l) x l' i ≤ R0 v l' i ∧ (l' ≠ l → rmB v (-1) (-1) (nI l) x l' i = R0 v l' i) ∧ (∀ y, y ≤ R0 v l' i → y + sxV v l' i ≤ x ∨ y = 0 → y ≤ rmB v (-1) (-1) (nI l) x l' i) ∧ ∀ x', x ≤ x' → rmB v (-1) (-1) (nI l) x l' i ≤ rmB v (-1) (-1) (nI l) x' l' i := by
  have e0 : R0 v l' i = rmB v (-1) (-1) (-1) 0 l' i := rfl
  rw [e0]
  unfold rmB rmR sxV
  rw [if_neg (nI_nm1 hl'), if_neg (nI_nm1 hl')]
  simp only [nI_eq hl' hl]
  have q : ∀ r : Nat, (if nI l' = (-1 : Int32) ∧ 0 < r then 0 else r) = r := fun r => if_neg (fun q => nI_nm1 hl' q.1)
  by_cases z0 : l' < vL v
  · simp only [if_pos z0]
    rw [q]
    generalize roomL v l' (vT v + i) 0 = r
    by_cases z : l' = l
    · simp only [z, true_and]
      refine ⟨?_, fun q => absurd rfl q, fun y h1 h2 => ?_, fun x' hx => ?_⟩
      · split <;> split <;> omega
      · by_cases zi : i = 0
        · simp only [zi, if_pos] at h1 h2 ⊢
          split <;> omega
        · simp only [if_neg zi] at h1 h2 ⊢
          split <;> omega
      · split <;> split <;> split <;> omega
    · simp only [z, false_and, if_false]
      exact ⟨Nat.le_refl _, fun _ => True.intro, fun y h1 _ => h1, fun _ _ => Nat.le_refl _⟩
  · simp only [if_neg z0]
    exact ⟨Nat.le_refl _, fun _ => True.intro, fun y h1 _ => h1, fun _ _ => Nat.le_refl _⟩
end Pr
