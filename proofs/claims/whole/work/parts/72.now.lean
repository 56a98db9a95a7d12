/-! now, feed -/
section Ops
variable {c : Nat} {σ : ST} {h : HP} {Q : Int32 → HP → Prop}
theorem or0 {T : Nat → Bool} {k : Nat} (hk : k ≤ 31) : btF T k ||| 0 = btF T k := by
  rw [btF_bn hk]
  show nI _ ||| nI 0 = _
  rw [nI_or, Nat.or_zero]
def losT (v : WV) (s : Nat) : Bool := decide (holdsS v s (vT v) < vs v s 1)
def opnT (v : WV) (l : Nat) : Bool := decide (l < vL v ∧ 1 ≤ vs v (vl v l 1) 1 ∧ vl v l 8 + 1 ≤ roomL v l (vT v) 0)
theorem c_losing {m B : Nat} {v : WV} (hF : WF m B v) (hC : HC 1 v h) (hQ : Q (btF (losT v) (vS v)) h) : f_X6_losingStations 1 h Q := by
  have h6 := hF.1
  unfold f_X6_losingStations
  refine loop_up (L := fun c s => f_X6_losingStations_L4 1 Q c (btF (losT v) s) (nI s) h) (vS v) 0 (by omega) (fun c => ?_) (fun s c _ hs ih => ?_)
  · unfold f_X6_losingStations_L4
    rw [hC.1.2.2.1]
    exact br_le (by omega) (by omega) (fun _ => hQ) (fun z => by omega)
  · unfold f_X6_losingStations_L4
    rw [hC.1.2.2.1, ix_nI (by omega), hC.1.1, show 1 + 1 + 2 + s = 1 + 3 + s by omega, hC.2.1 s hs 1 (by omega)]
    refine br_le (by omega) (by omega) (fun z => by omega) (fun _ => ⟨vp_in_nI (by omega) (by decide), vp_in_nI (by omega) (by decide), ?_⟩)
    refine c_holds hF hC hs (by omega) ?_
    have st := hF.stock hs
    have hh : holdsS v s (vT v) ≤ 99999 := holdsV_le (hF.2.1 s hs).2
    unfold btF at ih
    refine br_le (by omega) (by omega) (fun z x ex => ?_) (fun z x ex y ey => ?_)
    · rw [ex, nI_1]
      rw [if_neg (by unfold losT; rw [decide_eq_true_iff]; omega)] at ih
      exact ih
    · rw [ex, ey, nI_1]
      rw [if_pos (by unfold losT; rw [decide_eq_true_iff]; exact z)] at ih
      exact ih
theorem m_losing {m B : Nat} {v : WV} (hF : WF m B v) (hM : HM v h) (hQ : Q (btF (losT v) (vS v)) h) : f_X8_losing h Q := by
  have h6 := hF.1
  unfold f_X8_losing
  refine loop_up (L := fun c s => f_X8_losing_L4 Q c (btF (losT v) s) (nI s) h) (vS v) 0 (by omega) (fun c => ?_) (fun s c _ hs ih => ?_)
  · unfold f_X8_losing_L4
    rw [hM.1.2.2.1]
    exact br_le (by omega) (by omega) (fun _ => hQ) (fun z => by omega)
  · unfold f_X8_losing_L4
    rw [hM.1.2.2.1, hM.1.1, ix_nI (by omega), (hM.2.1 s hs).2.1]
    refine br_le (by omega) (by omega) (fun z => by omega) (fun _ => ⟨vp_in_nI (by omega) (by decide), ?_⟩)
    refine m_holds hF hM hs (by omega) ?_
    have st := hF.stock hs
    have hh : holdsS v s (vT v) ≤ 99999 := holdsV_le (hF.2.1 s hs).2
    intro x ex y ey
    rw [ey, nI_1]
    unfold btF at ih
    by_cases z : vs v s 1 ≤ holdsS v s (vT v)
    · rw [if_pos (nI_le z (by omega)), or0 (by omega)] at ex
      rw [if_neg (by unfold losT; rw [decide_eq_true_iff]; omega)] at ih
      rw [ex]; exact ih
    · rw [if_neg (fun q => z ((nI_leI (by omega) (by omega)).mp q))] at ex
      rw [if_pos (by unfold losT; rw [decide_eq_true_iff]; omega)] at ih
      rw [ex]; exact ih
theorem opn_iff {v : WV} {l : Nat} (hl : l < vL v) : opnT v l = true ↔ 1 ≤ vs v (vl v l 1) 1 ∧ vl v l 8 + 1 ≤ roomL v l (vT v) 0 := by
  unfold opnT
  rw [decide_eq_true_iff]
  exact ⟨fun q => q.2, fun q => ⟨hl, q⟩⟩
theorem c_openLines {m B : Nat} {v : WV} (hF : WF m B v) (hC : HC 1 v h) (hQ : Q (btF (opnT v) (vL v)) h) : f_X6_openLines 1 h Q := by
  have h6 := hF.1
  unfold f_X6_openLines
  refine loop_up (L := fun c l => f_X6_openLines_L4 1 Q c (btF (opnT v) l) (nI l) h) (vL v) 0 (by omega) (fun c => ?_) (fun l c _ hl ih => ?_)
  · unfold f_X6_openLines_L4
    rw [hC.1.2.2.2]
    exact br_le (by omega) (by omega) (fun _ => hQ) (fun z => by omega)
  · unfold f_X6_openLines_L4
    obtain ⟨a0, a1, a2, a3, a4, a5, a6, a7, a8, a9, a10⟩ := hF.2.2.1 l hl
    have hm := hF.2.2.2.2.1
    have hr : roomL v l (vT v) 0 ≤ 3 * (m + 0) := roomV_le a4 a8
    have st := hF.stock a1
    have oi := opn_iff hl
    rw [hC.1.2.2.2, ix_nI (by omega), show 1 + 2 + 7 + 2 * l = 1 + 9 + 2 * l by omega, hC.2.2.1 l hl 1 (by omega), hC.2.2.1 l hl 8 (by omega), ix_nI (by omega), show 1 + 1 + 2 + vl v l 1 = 1 + 3 + vl v l 1 by omega, hC.2.1 _ a1 1 (by omega), hC.1.1]
    refine br_le (by omega) (by omega) (fun z => by omega) (fun _ => ⟨vp_in_nI (by omega) (by decide), vp_in_nI (by omega) (by decide), ?_⟩)
    unfold btF at ih
    refine br_lt (b := 1) (by omega) (by omega) (fun z x ex => ?_) (fun z => ?_)
    · rw [ex, nI_1]
      rw [if_neg (by rw [oi]; omega)] at ih
      exact ih
    · refine c_room hF hC hl (by omega) ?_
      rw [nI_1]
      refine br_lt (by omega) (by omega) (fun z2 x ex => ?_) (fun z2 x ex y ey => ?_)
      · rw [ex, nI_1]
        rw [if_neg (by rw [oi]; omega)] at ih
        exact ih
      · rw [ex, ey, nI_1]
        rw [if_pos (by rw [oi]; omega)] at ih
        exact ih
theorem m_openLines {m B : Nat} {v : WV} (hF : WF m B v) (hM : HM v h) (hQ : Q (btF (opnT v) (vL v)) h) : f_X8_openLines h Q := by
  have h6 := hF.1
  unfold f_X8_openLines
  refine loop_up (L := fun c l => f_X8_openLines_L4 Q c (btF (opnT v) l) (nI l) h) (vL v) 0 (by omega) (fun c => ?_) (fun l c _ hl ih => ?_)
  · unfold f_X8_openLines_L4
    rw [hM.1.2.2.2]
    exact br_le (by omega) (by omega) (fun _ => hQ) (fun z => by omega)
  · unfold f_X8_openLines_L4
    rw [hM.1.2.2.2]
    refine br_le (by omega) (by omega) (fun z => by omega) (fun _ => ?_)
    unfold btF at ih
    refine m_canSend hF hM hl (lN 1) (fun q => ?_) (fun a ea q => ?_)
    · intro x ex y ey
      rw [if_pos rfl, or0 (by omega)] at ex
      rw [ey, nI_1, ex]
      rw [if_neg (by unfold opnT; rw [decide_eq_true_iff]; exact fun q2 => q ⟨l, 1, rfl, rfl, q2⟩)] at ih
      exact ih
    · have b := can_b hF l a q
      have := lN_inj (by omega) b.2 ea
      subst this
      intro x ex y ey
      rw [if_neg n10] at ex
      rw [ey, nI_1, ex]
      rw [if_pos (by unfold opnT; rw [decide_eq_true_iff]; exact q)] at ih
      exact ih
def o_now (σ : ST) (x : Int32) : Int32 × ST :=
  if x = 0 then (nI (vT (sV σ)), σ) else if x = 1 then (nI (stk (sV σ)), σ) else if x = 2 then (nI (wya (sV σ)), σ) else if x = 3 then (nI (vLo (sV σ)), σ) else if x = 4 then (nI (sm (fun l => vl (sV σ) l 8) (vL (sV σ))), σ) else if x = 5 then (nI (sm (fun l => roomL (sV σ) l (vT (sV σ)) 0) (vL (sV σ))), σ) else if x = 6 then (btF (losT (sV σ)) (vS (sV σ)), σ) else if x = 7 then (btF (opnT (sV σ)) (vL (sV σ)), σ) else (fnd 0, uF σ 0)
theorem WS_now {x : Int32} (hW : WS c σ) (hc : c < 512) : WS (c + 1) (o_now σ x).2 := by
  have h' := hW.up (Nat.le_succ c) hc
  unfold o_now
  repeat' split
  all_goals first | exact h' | exact WS_F hW hc
theorem c_now {x : Int32} (hW : WS c σ) (hI : CI σ h) (hQ : ∀ h', CI (o_now σ x).2 h' → LoF h h' → Q (o_now σ x).1 h') : f_X7_now x h Q := by
  unfold f_X7_now
  unfold o_now at hQ
  refine ⟨fun q => ?_, fun q => ?_⟩
  · rw [if_pos q] at hQ; rw [hI.1.1.1]; exact hQ h hI LoF.rf
  rw [if_neg q] at hQ
  refine ⟨fun q => ?_, fun q => ?_⟩
  · rw [if_pos q] at hQ; exact c_allStock hW.2.1.1 hI.1 (hQ h hI LoF.rf)
  rw [if_neg q] at hQ
  refine ⟨fun q => ?_, fun q => ?_⟩
  · rw [if_pos q] at hQ; exact c_allUnderWay hW.2.1.1 hI.1 (hQ h hI LoF.rf)
  rw [if_neg q] at hQ
  refine ⟨fun q => ?_, fun q => ?_⟩
  · rw [if_pos q] at hQ; rw [hI.1.1.2.1]; exact hQ h hI LoF.rf
  rw [if_neg q] at hQ
  refine ⟨fun q => ?_, fun q => ?_⟩
  · rw [if_pos q] at hQ; exact c_allSent hW.2.1.1 hI.1 (hQ h hI LoF.rf)
  rw [if_neg q] at hQ
  refine ⟨fun q => ?_, fun q => ?_⟩
  · rw [if_pos q] at hQ; exact c_allRoom hW.2.1.1 hI.1 (hQ h hI LoF.rf)
  rw [if_neg q] at hQ
  refine ⟨fun q => ?_, fun q => ?_⟩
  · rw [if_pos q] at hQ; exact c_losing hW.2.1.1 hI.1 (hQ h hI LoF.rf)
  rw [if_neg q] at hQ
  refine ⟨fun q => ?_, fun q => ?_⟩
  · rw [if_pos q] at hQ; exact c_openLines hW.2.1.1 hI.1 (hQ h hI LoF.rf)
  rw [if_neg q] at hQ
  exact c_found (by omega) hI hQ fnd0 hW.small
theorem m_now {x : Int32} (hW : WS c σ) (hI : MI σ h) (hQ : ∀ h', MI (o_now σ x).2 h' → HiF h h' → Q (o_now σ x).1 h') : f_X8_now x h Q := by
  unfold f_X8_now
  unfold o_now at hQ
  refine ⟨fun q => ?_, fun q => ?_⟩
  · rw [if_pos q] at hQ; rw [hI.1.1.1]; exact hQ h hI HiF.rf
  rw [if_neg q] at hQ
  refine ⟨fun q => ?_, fun q => ?_⟩
  · rw [if_pos q] at hQ; exact m_stk hW.2.1.1 hI.1 (hQ h hI HiF.rf)
  rw [if_neg q] at hQ
  refine ⟨fun q => ?_, fun q => ?_⟩
  · rw [if_pos q] at hQ; exact m_allOnWay hW.2.1.1 hI.1 (hQ h hI HiF.rf)
  rw [if_neg q] at hQ
  refine ⟨fun q => ?_, fun q => ?_⟩
  · rw [if_pos q] at hQ; rw [hI.1.1.2.1]; exact hQ h hI HiF.rf
  rw [if_neg q] at hQ
  refine ⟨fun q => ?_, fun q => ?_⟩
  · rw [if_pos q] at hQ; exact m_allSent hW.2.1.1 hI.1 (hQ h hI HiF.rf)
  rw [if_neg q] at hQ
  refine ⟨fun q => ?_, fun q => ?_⟩
  · rw [if_pos q] at hQ; exact m_roomOfAll hW.2.1.1 hI.1 (hQ h hI HiF.rf)
  rw [if_neg q] at hQ
  refine ⟨fun q => ?_, fun q => ?_⟩
  · rw [if_pos q] at hQ; exact m_losing hW.2.1.1 hI.1 (hQ h hI HiF.rf)
  rw [if_neg q] at hQ
  refine ⟨fun q => ?_, fun q => ?_⟩
  · rw [if_pos q] at hQ; exact m_openLines hW.2.1.1 hI.1 (hQ h hI HiF.rf)
  rw [if_neg q] at hQ
  exact m_finds (by omega) hI hQ fnd0
/-- the byte of x that is k from its end -/
def byX (x : Int32) (k : Nat) : Int32 := (x >>> ((8 * nI k) &&& 31)) &&& 255
theorem byX_b (x : Int32) (k : Nat) : 0 ≤ (byX x k).toInt ∧ (byX x k).toInt < 256 := by
  unfold byX
  generalize x >>> ((8 * nI k) &&& 31) = y
  have e : (y &&& 255).toInt = ((y.toBitVec.toNat &&& 255 : Nat) : Int) := by
    have : (y &&& 255).toBitVec.toNat = y.toBitVec.toNat &&& 255 := by
      rw [Int32.toBitVec_and, BitVec.toNat_and]; rfl
    have lt : (y &&& 255).toBitVec.toNat < 256 := by
      rw [this]
      have := Nat.and_le_right (n := y.toBitVec.toNat) (m := 255)
      omega
    rw [← this]
    show (y &&& 255).toBitVec.toInt = _
    rw [BitVec.toInt_eq_toNat_of_lt (by omega)]
  rw [e]
  have := Nat.and_le_right (n := y.toBitVec.toNat) (m := 255)
  omega
/-- k bytes of x more: from the k-th from its end on -/
def fdB (x : Int32) : Nat → Nat × (Nat → Int32) → Nat × (Nat → Int32)
  | 0, p => p
  | k + 1, p => fdB x k (p.1 + 1, fun i => if i = p.1 then byX x k else p.2 i)
def o_feed (σ : ST) (x1 x2 : Int32) : Int32 × ST := if InR x2 1 4 then (if sTn σ + nt x2 ≤ 120 then (nI (sTn σ + nt x2), uT σ (fdB x1 (nt x2) (sTn σ, sTb σ)).1 (fdB x1 (nt x2) (sTn σ, sTb σ)).2) else (fnd 1, uF σ 1)) else (fnd 0, uF σ 0)
theorem fdB_1 {x : Int32} : ∀ k (p : Nat × (Nat → Int32)), (fdB x k p).1 = p.1 + k
  | 0, _ => rfl
  | k + 1, p => by rw [fdB, fdB_1 k]; show p.1 + 1 + k = p.1 + (k + 1); omega
theorem fdB_b {x : Int32} : ∀ k (p : Nat × (Nat → Int32)), (∀ i, i < p.1 → 0 ≤ (p.2 i).toInt ∧ (p.2 i).toInt < 256) → ∀ i, i < (fdB x k p).1 → 0 ≤ ((fdB x k p).2 i).toInt ∧ ((fdB x k p).2 i).toInt < 256
  | 0, p, h => h
  | k + 1, p, h => by
    rw [fdB]
    apply fdB_b k
    intro i hi
    have hi' : i < p.1 + 1 := hi
    show 0 ≤ (if i = p.1 then byX x k else p.2 i).toInt ∧ (if i = p.1 then byX x k else p.2 i).toInt < 256
    split
    · exact byX_b x k
    · exact h i (by omega)
theorem WS_feed {x1 x2 : Int32} (hW : WS c σ) (hc : c < 512) : WS (c + 1) (o_feed σ x1 x2).2 := by
  have h' := hW.up (Nat.le_succ c) hc
  unfold o_feed
  split
  · split
    · rename_i q
      refine ⟨h'.1, h'.2.1, h'.2.2.1, h'.2.2.2.1, ⟨?_, ?_⟩, h'.2.2.2.2.2⟩
      · show (fdB x1 (nt x2) (sTn σ, sTb σ)).1 ≤ 120
        rw [fdB_1]; exact q
      · exact fdB_b _ _ hW.2.2.2.2.1.2
    · exact WS_F hW hc
  · exact WS_F hW hc
theorem c_feed {x1 x2 : Int32} (hW : WS c σ) (hI : CI σ h) (hQ : ∀ h', CI (o_feed σ x1 x2).2 h' → LoF h h' → Q (o_feed σ x1 x2).1 h') : f_X7_feed x1 x2 h Q := by
  have hs := hW.small
  have tn := hW.2.2.2.2.1.1
  unfold f_X7_feed
  unfold o_feed at hQ
  refine c_in (a := 1) (b := 4) rfl rfl (fun p => br1 ?_) (fun p => br0 ?_)
  · rw [if_pos p] at hQ
    have e2 := nt_nI (x := x2) (by omega)
    have l2 : 1 ≤ nt x2 ∧ nt x2 ≤ 4 := by unfold nt; omega
    generalize nt x2 = n at *
    rw [e2, hI.2.2.2.1.1, nI_add]
    refine br_le (b := 120) (by omega) (by omega) (fun z => ?_) (fun z => ?_)
    · rw [if_pos z] at hQ
      have key : ∀ k (q : Nat × (Nat → Int32)) h1, fdB x1 k q = fdB x1 n (sTn σ, sTb σ) → q.1 + k = sTn σ + n → gi h1 105 1 = nI q.1 → (∀ i, i < q.1 → gi h1 106 i = q.2 i) → FrI (fun a k => a = 106 ∨ (a = 105 ∧ k = 1)) h h1 → f_X7_feed_L41 x1 Q (k + 1) (cd k) h1 := by
        intro k
        induction k with
        | zero =>
          intro q h1 k1 k2 k3 k4 k5
          unfold f_X7_feed_L41
          refine ⟨fun _ => ?_, fun z => absurd (by decide +kernel) z⟩
          have eq1 : q = fdB x1 n (sTn σ, sTb σ) := k1
          rw [k3, show q.1 = sTn σ + n by omega]
          refine hQ h1 ?_ (k5.lo (by intro a k; omega))
          rw [← eq1]
          obtain ⟨a, ⟨b1, b2⟩, c', ⟨d1, d2⟩, e⟩ := hI
          refine ⟨a.frame k5 (by intro a k h1 h2; omega) hs.1 hs.2.1, ⟨by rw [k5.1 _ _ (by omega)]; exact b1, fun q => (b2 q).frame k5 (by intro a k h1 h2; omega) (hs.2.2 q).1 (hs.2.2 q).2⟩, fun j hj => by rw [k5.1 _ _ (by omega)]; exact c' j hj, ⟨k3, k4⟩, fun s hs => ?_⟩
          rw [k5.1 _ _ (by omega), k5.1 _ _ (by omega)]
          exact ⟨(e s hs).1, (e s hs).2.1, fun i hi => by rw [k5.2.1]; exact (e s hs).2.2 i hi⟩
        | succ k ih =>
          intro q h1 k1 k2 k3 k4 k5
          unfold f_X7_feed_L41
          rw [cd_s]
          refine br_lt (b := 0) (by omega) (by omega) (fun z => by omega) (fun _ => ?_)
          unfold f_X5_add
          rw [k3, ix_nI (by omega)]
          refine ⟨vp_in_nI (by omega) (by decide), ?_⟩
          intro h2 e2 h3 e3
          have g2 : gi h2 105 1 = nI q.1 := by rw [e2, gi_si, if_neg (by omega)]; exact k3
          rw [g2, nI_1] at e3
          have f2 : FrI (fun a k => a = 106 ∨ (a = 105 ∧ k = 1)) h1 h2 := by rw [e2]; exact FrI.si (Or.inl rfl)
          have f3 : FrI (fun a k => a = 106 ∨ (a = 105 ∧ k = 1)) h2 h3 := by rw [e3]; exact FrI.si (Or.inr ⟨rfl, rfl⟩)
          intro x ex
          have ex' : x = cd k := by rw [ex]; unfold cd; rw [Int32.sub_eq_add_neg]
          rw [ex']
          refine ih (q.1 + 1, fun i => if i = q.1 then byX x1 k else q.2 i) h3 k1 (by show q.1 + 1 + k = _; omega) (by rw [e3, gi_si, if_pos ⟨rfl, rfl⟩]) (fun i hi => ?_) ((k5.trans f2).trans f3)
          have hi' : i < q.1 + 1 := hi
          rw [e3, gi_si, if_neg (by omega), e2, gi_si]
          show _ = if i = q.1 then byX x1 k else q.2 i
          by_cases z : i = q.1
          · rw [if_pos ⟨rfl, z⟩, if_pos z]; rfl
          · rw [if_neg (fun q2 => z q2.2), if_neg z]; exact k4 i (by omega)
      intro x3 e3
      rw [show (nI n - 1 : Int32) = cd n from rfl] at e3
      rw [e3]
      exact ⟨n + 1, key n (sTn σ, sTb σ) h rfl rfl hI.2.2.2.1.1 hI.2.2.2.1.2 FrI.rf⟩
    · rw [if_neg (by omega)] at hQ
      exact c_found (by omega) hI hQ fnd1 hs
  · rw [if_neg p] at hQ
    exact c_found (by omega) hI hQ fnd0 hs
theorem m_feed {x1 x2 : Int32} (hW : WS c σ) (hI : MI σ h) (hQ : ∀ h', MI (o_feed σ x1 x2).2 h' → HiF h h' → Q (o_feed σ x1 x2).1 h') : f_X8_feed x1 x2 h Q := by
  have tn := hW.2.2.2.2.1.1
  unfold f_X8_feed
  unfold o_feed at hQ
  refine m_in (a := 1) (b := 4) rfl rfl (fun p => br1 ?_) (fun p => br0 ?_)
  · rw [if_pos p] at hQ
    have e2 := nt_nI (x := x2) (by omega)
    have l2 : 1 ≤ nt x2 ∧ nt x2 ≤ 4 := by unfold nt; omega
    generalize nt x2 = n at *
    rw [e2, hI.2.2.2.1.1, nI_add]
    refine br_le (b := 120) (by omega) (by omega) (fun z => ?_) (fun z => ?_)
    · rw [if_pos z] at hQ
      have key : ∀ k (q : Nat × (Nat → Int32)) h1, fdB x1 k q = fdB x1 n (sTn σ, sTb σ) → q.1 + k = sTn σ + n → gi h1 117 26 = nI q.1 → (∀ i, i < q.1 → gi h1 138 i = q.2 i) → FrI (fun a k => a = 138 ∨ (a = 117 ∧ k = 26)) h h1 → f_X8_feed_L41 x1 Q (k + 1) (cd k) h1 := by
        intro k
        induction k with
        | zero =>
          intro q h1 k1 k2 k3 k4 k5
          unfold f_X8_feed_L41
          refine ⟨fun _ => ?_, fun z => absurd (by decide +kernel) z⟩
          have eq1 : q = fdB x1 n (sTn σ, sTb σ) := k1
          rw [k3, show q.1 = sTn σ + n by omega]
          refine hQ h1 ?_ (k5.hi (by intro a k; omega))
          rw [← eq1]
          obtain ⟨a, ⟨b1, b2⟩, c', ⟨d1, d2⟩, e⟩ := hI
          refine ⟨a.frame k5 (by intro a k h1; simp only [cellsM] at h1; omega), ⟨by rw [k5.1 _ _ (by omega)]; exact b1, fun q => (b2 q).frame k5 (by intro k; omega)⟩, fun j hj => by rw [k5.1 _ _ (by omega)]; exact c' j hj, ⟨k3, k4⟩, fun s hs => ?_⟩
          rw [k5.1 _ _ (by omega), k5.1 _ _ (by omega)]
          exact ⟨(e s hs).1, (e s hs).2.1, fun i hi => by rw [k5.2.1]; exact (e s hs).2.2 i hi⟩
        | succ k ih =>
          intro q h1 k1 k2 k3 k4 k5
          unfold f_X8_feed_L41
          rw [cd_s]
          refine br_lt (b := 0) (by omega) (by omega) (fun z => by omega) (fun _ => ?_)
          rw [k3, ix_nI (by omega)]
          refine ⟨vp_in_nI (by omega) (by decide), ?_⟩
          intro h2 e2 h3 e3
          have g2 : gi h2 117 26 = nI q.1 := by rw [e2, gi_si, if_neg (by omega)]; exact k3
          rw [g2, nI_1] at e3
          have f2 : FrI (fun a k => a = 138 ∨ (a = 117 ∧ k = 26)) h1 h2 := by rw [e2]; exact FrI.si (Or.inl rfl)
          have f3 : FrI (fun a k => a = 138 ∨ (a = 117 ∧ k = 26)) h2 h3 := by rw [e3]; exact FrI.si (Or.inr ⟨rfl, rfl⟩)
          intro x ex
          have ex' : x = cd k := by rw [ex]; unfold cd; rw [Int32.sub_eq_add_neg]
          rw [ex']
          refine ih (q.1 + 1, fun i => if i = q.1 then byX x1 k else q.2 i) h3 k1 (by show q.1 + 1 + k = _; omega) (by rw [e3, gi_si, if_pos ⟨rfl, rfl⟩]) (fun i hi => ?_) ((k5.trans f2).trans f3)
          have hi' : i < q.1 + 1 := hi
          rw [e3, gi_si, if_neg (by omega), e2, gi_si]
          show _ = if i = q.1 then byX x1 k else q.2 i
          by_cases z : i = q.1
          · rw [if_pos ⟨rfl, z⟩, if_pos z]; rfl
          · rw [if_neg (fun q2 => z q2.2), if_neg z]; exact k4 i (by omega)
      intro x3 e3
      rw [show (nI n - 1 : Int32) = cd n from rfl] at e3
      rw [e3]
      exact ⟨n + 1, key n (sTn σ, sTb σ) h rfl rfl hI.2.2.2.1.1 hI.2.2.2.1.2 FrI.rf⟩
    · rw [if_neg (by omega)] at hQ
      exact m_finds (by omega) hI hQ fnd1
  · rw [if_neg p] at hQ
    exact m_finds (by omega) hI hQ fnd0
end Ops
