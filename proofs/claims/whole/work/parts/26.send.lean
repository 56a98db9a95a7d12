/-! goods are sent -/
theorem lN_of {x : Int64} {n : Nat} (h : x.toInt = n) (hn : n < 2 ^ 31) : x = lN n := by
  apply Int64.toInt_inj.mp
  rw [lN_toInt hn]
  exact h
theorem nI_of_toInt {x : Int32} {n : Nat} (h : x.toInt = n) (hn : n < 2 ^ 31) : x = nI n := by
  apply Int32.toInt_inj.mp
  rw [nI_toInt hn]
  exact h
theorem i64_0 : (0 : Int64).toInt = 0 := rfl
def sendV (v : WV) (l a : Nat) : WV :=
  setY (setL (setS v (vl v l 1) 1 (vs v (vl v l 1) 1 - a)) l 8 (vl v l 8 + a)) l ((vT v + takesL v l) % 16) (vy v l ((vT v + takesL v l) % 16) + a)
/-- a goods on line l can be sent now -/
def CanV (v : WV) (l a : Nat) : Prop := l < vL v ∧ a ≤ vs v (vl v l 1) 1 ∧ vl v l 8 + a ≤ roomL v l (vT v) 0
def Can (v : WV) (N A : Int64) : Prop := ∃ l a, N = lN l ∧ A = lN a ∧ CanV v l a
theorem WF_send {m B : Nat} {v : WV} (hF : WF m B v) {l a : Nat} (hc : CanV v l a) : WF m B (sendV v l a) := by
  obtain ⟨hl, ha, hr⟩ := hc
  have hh := hF.2.2.1 l hl
  have hm := hF.2.2.2.2.1
  have hfr := hh.2.1
  have hp : (vT v + takesL v l) % 16 < 16 := by omega
  have hroom : roomL v l (vT v) 0 ≤ 3 * (m + 0) := roomV_le hh.2.2.2.2.1 hh.2.2.2.2.2.2.2.2.1
  refine ⟨hF.1, fun s' hs' => ?_, fun l' hl' => ?_, ?_, hF.2.2.2.2⟩
  · have h1 := hF.2.1 s' hs'
    have e0 : vs (sendV v l a) s' 0 = vs v s' 0 := by
      show vs (setS v (vl v l 1) 1 _) s' 0 = _
      rw [vs_setS, if_neg (by omega)]
    have e2 : vs (sendV v l a) s' 2 = vs v s' 2 := by
      show vs (setS v (vl v l 1) 1 _) s' 2 = _
      rw [vs_setS, if_neg (by omega)]
    rw [e0, e2]
    exact h1
  · have h1 := hF.2.2.1 l' hl'
    have e : ∀ k, k < 8 → vl (sendV v l a) l' k = vl v l' k := fun k hk => by
      show vl (setL (setS v _ _ _) l 8 _) l' k = _
      rw [vl_setL, if_neg (by omega)]; rfl
    have e8 : vl (sendV v l a) l' 8 ≤ 300 := by
      show vl (setL (setS v _ _ _) l 8 _) l' 8 ≤ 300
      rw [vl_setL]
      split
      · omega
      · exact h1.2.2.2.2.2.2.2.2.2.2
    rw [e 0 (by omega), e 1 (by omega), e 2 (by omega), e 3 (by omega), e 4 (by omega), e 5 (by omega), e 6 (by omega), e 7 (by omega)]
    exact ⟨h1.1, h1.2.1, h1.2.2.1, h1.2.2.2.1, h1.2.2.2.2.1, h1.2.2.2.2.2.1, h1.2.2.2.2.2.2.1, h1.2.2.2.2.2.2.2.1, h1.2.2.2.2.2.2.2.2.1, h1.2.2.2.2.2.2.2.2.2.1, e8⟩
  · have h1 := stk_setS (v := v) (x := vs v (vl v l 1) 1 - a) hfr
    have h2 := wya_setY (v := setL (setS v (vl v l 1) 1 (vs v (vl v l 1) 1 - a)) l 8 (vl v l 8 + a)) (x := vy v l ((vT v + takesL v l) % 16) + a) hl hp
    have e1 : stk (sendV v l a) = stk (setS v (vl v l 1) 1 (vs v (vl v l 1) 1 - a)) := rfl
    have e4 : wya (setL (setS v (vl v l 1) 1 (vs v (vl v l 1) 1 - a)) l 8 (vl v l 8 + a)) = wya v := rfl
    have e5 : vy (setL (setS v (vl v l 1) 1 (vs v (vl v l 1) 1 - a)) l 8 (vl v l 8 + a)) l ((vT v + takesL v l) % 16) = vy v l ((vT v + takesL v l) % 16) := rfl
    have e6 : vLo (sendV v l a) = vLo v := rfl
    have e7 : wya (sendV v l a) = wya (setY (setL (setS v (vl v l 1) 1 (vs v (vl v l 1) 1 - a)) l 8 (vl v l 8 + a)) l ((vT v + takesL v l) % 16) (vy v l ((vT v + takesL v l) % 16) + a)) := rfl
    have h6 := hF.2.2.2.1
    rw [e4, e5, ← e7] at h2
    rw [← e1] at h1
    rw [e6]
    omega
theorem lN_inj {a b : Nat} (ha : a < 2 ^ 31) (hb : b < 2 ^ 31) (h : lN a = lN b) : a = b := (lN_eq ha hb).mp h
theorem c_dispatch {m B w : Nat} {v : WV} {h : HP} {Q : Int32 → HP → Prop} (hF : WF m B v) (hC : HC w v h) (N A : Int64) (hQ0 : ¬ Can v N A → Q 0 h) (hQ1 : ∀ l a, N = lN l → A = lN a → CanV v l a → ∀ h', HC w (sendV v l a) h' → FrI (cellsC w) h h' → Q 1 h') : f_X6_dispatch w N A h Q := by
  have hn := hF.1
  have hm := hF.2.2.2.2.1
  unfold f_X6_dispatch
  simp only [cmp_lt, cmp_gt, lg_cmp_ge, lg_cmp_le, hC.1.2.2.2, nI_l (show vL v < 2 ^ 31 by omega)]
  have big : ∀ {l a : Nat}, CanV v l a → l < 2 ^ 31 ∧ a < 2 ^ 31 := fun {l a} hc => by
    have h1 := hF.stock (hF.2.2.1 l hc.1).2.1
    have h2 := hc.1
    have h3 := hc.2.1
    omega
  refine ⟨fun c => hQ0 ?_, fun c => ⟨fun c2 => hQ0 ?_, fun c2 => ⟨fun c3 => ?_, fun c3 => hQ0 ?_⟩⟩⟩
  · rintro ⟨l, a, rfl, rfl, hc⟩
    rw [i64_lt, lN_toInt (big hc).1, i64_0] at c
    omega
  · rintro ⟨l, a, rfl, rfl, hc⟩
    have := (lN_le (by omega) (big hc).1).mp c2
    have := hc.1
    omega
  · have hN0 : 0 ≤ N.toInt := by
      rw [i64_lt, i64_0] at c
      omega
    have hN1 : N.toInt < vL v := by
      rw [i64_le, lN_toInt (by omega)] at c2
      omega
    obtain ⟨l, hl⟩ : ∃ l : Nat, N.toInt = l := ⟨N.toInt.toNat, by omega⟩
    have hlL : l < vL v := by omega
    have eN : N = lN l := lN_of hl (by omega)
    have hA0 : 0 ≤ A.toInt := by
      rw [i64_le, i64_0] at c3
      exact c3
    have hln := hF.2.2.1 l hlL
    have hst := hF.stock hln.2.1
    have hS6 : vS v ≤ 6 := hn.2.1
    rw [eN, lN_i, ix_nI (by omega), show w + 2 + 7 + 2 * l = w + 9 + 2 * l by omega, hC.2.2.1 l hlL 1 (by omega), ix_nI (by omega), show w + 1 + 2 + vl v l 1 = w + 3 + vl v l 1 by omega, hC.2.1 _ hln.2.1 1 (by omega), hC.2.2.1 l hlL 8 (by omega), hC.1.1, nI_l (show vs v (vl v l 1) 1 < 2 ^ 31 by omega), nI_l (show vl v l 8 < 2 ^ 31 by omega)]
    refine ⟨vp_in_nI (by omega) (by decide), vp_in_nI (by omega) (by decide), fun c4 => hQ0 ?_, fun c4 => ?_⟩
    · rintro ⟨l', a, e1, rfl, hc⟩
      have := lN_inj (by omega) (big hc).1 (eN.symm.trans e1)
      subst this
      have h1 := (lN_lt (by omega) (big hc).2).mp c4
      have := hc.2.1
      omega
    · have hA1 : A.toInt ≤ vs v (vl v l 1) 1 := by
        rw [i64_lt, lN_toInt (by omega)] at c4
        omega
      obtain ⟨a, ha⟩ : ∃ a : Nat, A.toInt = a := ⟨A.toInt.toNat, by omega⟩
      have haS : a ≤ vs v (vl v l 1) 1 := by omega
      have eA : A = lN a := lN_of ha (by omega)
      have hroom : roomL v l (vT v) 0 ≤ 3 * (m + 0) := roomV_le hln.2.2.2.2.1 hln.2.2.2.2.2.2.2.2.1
      have htk := takesV_le (kind := vl v l 0) hln.2.2.2.2.2.1 hln.2.2.2.2.2.2.1 hln.2.2.2.2.2.2.2.1
      refine c_room hF hC hlL (by omega) ?_
      rw [eA, lN_add, nI_l (show roomL v l (vT v) 0 < 2 ^ 31 by omega), lN_i]
      refine ⟨fun c5 => ?_, fun c5 => hQ0 ?_⟩
      · have hr : vl v l 8 + a ≤ roomL v l (vT v) 0 := (lN_le (by omega) (by omega)).mp c5
        have hcan : CanV v l a := ⟨hlL, haS, hr⟩
        intro h10 e10 h11 e11
        have g1 : gi h (w + 3 + vl v l 1) 1 = nI (vs v (vl v l 1) 1) := hC.2.1 _ hln.2.1 1 (by omega)
        rw [g1, nI_sub haS] at e10
        have hC2 : HC w (setS v (vl v l 1) 1 (vs v (vl v l 1) 1 - a)) h10 := by rw [e10]; exact hc_setS hC hS6 hn.2.2 hln.2.1 (by omega)
        have hf2 : FrI (cellsC w) h h10 := by rw [e10]; exact FrI.si (by show w ≤ _ ∧ _ < w + 29; omega)
        have g2 : gi h10 (w + 9 + 2 * l) 8 = nI (vl v l 8) := hC2.2.2.1 l hlL 8 (by omega)
        rw [g2, nI_add] at e11
        have hC3 : HC w (setL (setS v (vl v l 1) 1 (vs v (vl v l 1) 1 - a)) l 8 (vl v l 8 + a)) h11 := by rw [e11]; exact hc_setL hC2 hS6 hn.2.2 hlL (by omega)
        have hf3 : FrI (cellsC w) h h11 := hf2.trans (by rw [e11]; exact FrI.si (by show w ≤ _ ∧ _ < w + 29; omega))
        have e0 : vl (setL (setS v (vl v l 1) 1 (vs v (vl v l 1) 1 - a)) l 8 (vl v l 8 + a)) l 0 = vl v l 0 := by rw [vl_setL, if_neg (by omega)]; rfl
        have e4 : vl (setL (setS v (vl v l 1) 1 (vs v (vl v l 1) 1 - a)) l 8 (vl v l 8 + a)) l 4 = vl v l 4 := by rw [vl_setL, if_neg (by omega)]; rfl
        have e5 : vl (setL (setS v (vl v l 1) 1 (vs v (vl v l 1) 1 - a)) l 8 (vl v l 8 + a)) l 5 = vl v l 5 := by rw [vl_setL, if_neg (by omega)]; rfl
        have k0 := hC3.2.2.1 l hlL 0 (by omega)
        have k4 := hC3.2.2.1 l hlL 4 (by omega)
        have k5 := hC3.2.2.1 l hlL 5 (by omega)
        rw [e0] at k0
        rw [e4] at k4
        rw [e5] at k5
        refine t_takesC k0 k4 k5 hln.1 (by omega) (by omega) ?_
        have g3 : gi h11 w 0 = nI (vT v) := hC3.1.1
        have hp : (vT v + takesL v l) % 16 < 16 := by omega
        rw [g3, nI_add, lit 16, nI_rem (by omega) (by omega) (by omega), ix_nI (by omega), show w + 9 + 2 * l + 1 = w + 10 + 2 * l by omega]
        refine ⟨vp_in_nI hp (by decide), vp_in_nI hp (by decide), ?_⟩
        intro h16 e16
        have g4 : gi h11 (w + 10 + 2 * l) ((vT v + takesL v l) % 16) = nI (vy v l ((vT v + takesL v l) % 16)) := hC3.2.2.2 l hlL _ hp
        rw [g4, nI_add] at e16
        refine hQ1 l a eN eA hcan h16 ?_ (hf3.trans (by rw [e16]; exact FrI.si (by show w ≤ _ ∧ _ < w + 29; omega)))
        rw [e16]
        exact hc_setY hC3 hS6 hn.2.2 hlL hp
      · rintro ⟨l', a', e1, e2, hc⟩
        have q1 := lN_inj (by omega) (big hc).1 (eN.symm.trans e1)
        have q2 := lN_inj (by omega) (big hc).2 (eA.symm.trans e2)
        subst q1
        subst q2
        exact c5 ((lN_le (by omega) (by omega)).mpr hc.2.2)
  · rintro ⟨l, a, rfl, rfl, hc⟩
    rw [i64_le, lN_toInt (big hc).2, i64_0] at c3
    omega
theorem m_canSend {m B : Nat} {v : WV} {h : HP} {Q : Int32 → HP → Prop} (hF : WF m B v) (hM : HM v h) {l : Nat} (hl : l < vL v) (A : Int64) (hQ0 : ¬ Can v (lN l) A → Q 0 h) (hQ1 : ∀ a, A = lN a → CanV v l a → Q 1 h) : f_X8_canSend (nI l) A h Q := by
  have hn := hF.1
  have hm := hF.2.2.2.2.1
  have hln := hF.2.2.1 l hl
  have hst := hF.stock hln.2.1
  have big : ∀ {l a : Nat}, CanV v l a → l < 2 ^ 31 ∧ a < 2 ^ 31 := fun {l a} hc => by
    have h1 := hF.stock (hF.2.2.1 l hc.1).2.1
    have h2 := hc.1
    have h3 := hc.2.1
    omega
  unfold f_X8_canSend
  rw [lit 1, m_at hF hM hl (by omega), ix_nI (by omega), (hM.2.1 _ hln.2.1).2.1, ix_nI (by omega), nI_l (show vs v (vl v l 1) 1 < 2 ^ 31 by omega)]
  refine ⟨vp_in_nI (by omega) (by decide), ?_⟩
  apply t_in
  by_cases c : (0 : Int64) ≤ A ∧ A ≤ lN (vs v (vl v l 1) 1)
  · rw [if_pos c]
    refine ⟨fun q => absurd q (by decide +kernel), fun _ => ⟨vp_in_nI (by omega) (by decide), ?_⟩⟩
    have hA0 : 0 ≤ A.toInt := by have := (i64_le _ _).mp c.1; rw [i64_0] at this; exact this
    have hA1 : A.toInt ≤ vs v (vl v l 1) 1 := by have := (i64_le _ _).mp c.2; rw [lN_toInt (by omega)] at this; exact this
    obtain ⟨a, ha⟩ : ∃ a : Nat, A.toInt = a := ⟨A.toInt.toNat, by omega⟩
    have eA : A = lN a := lN_of ha (by omega)
    have hroom : roomL v l (vT v) 0 ≤ 3 * (m + 0) := roomV_le hln.2.2.2.2.1 hln.2.2.2.2.2.2.2.2.1
    rw [hM.1.1]
    refine m_room hF hM hl (by omega) ?_
    rw [hM.2.2.2.1 l hl, nI_l (show vl v l 8 < 2 ^ 31 by omega), nI_l (show roomL v l (vT v) 0 < 2 ^ 31 by omega), eA, lN_add]
    simp only [cmp_gt]
    refine ⟨fun c5 => ?_, fun c5 => ?_⟩
    · refine hQ0 ?_
      rintro ⟨l', a', e1, e2, hc⟩
      have q1 := lN_inj (by omega) (big hc).1 e1
      have q2 := lN_inj (by omega) (big hc).2 (eA.symm.trans e2)
      subst q1
      subst q2
      have := (lN_lt (by omega) (by omega)).mp c5
      have := hc.2.2
      omega
    · refine hQ1 a eA ⟨hl, by omega, ?_⟩
      apply Decidable.byContradiction
      intro q
      exact c5 ((lN_lt (by omega) (by omega)).mpr (by omega))
  · rw [if_neg c]
    refine ⟨fun _ => hQ0 ?_, fun q => absurd rfl q⟩
    rintro ⟨l', a', e1, e2, hc⟩
    have q1 := lN_inj (by omega) (big hc).1 e1
    subst q1
    apply c
    rw [e2]
    have := hc.2.1
    have hb := (big hc).2
    exact ⟨by rw [i64_le, i64_0, lN_toInt hb]; omega, (lN_le hb (by omega)).mpr this⟩
theorem m_sends {m B : Nat} {v : WV} {h : HP} {Q : HP → Prop} (hF : WF m B v) (hM : HM v h) {l a : Nat} (hc : CanV v l a) (hQ : ∀ h', HM (sendV v l a) h' → FrI cellsM h h' → Q h') : f_X8_sends (nI l) (nI a) h Q := by
  have hn := hF.1
  have hm := hF.2.2.2.2.1
  have hl := hc.1
  have hln := hF.2.2.1 l hl
  have hst := hF.stock hln.2.1
  have haS := hc.2.1
  unfold f_X8_sends
  rw [lit 1, m_at hF hM hl (by omega), ix_nI (by omega), ix_nI (by omega), (hM.2.1 _ hln.2.1).2.1, nI_sub haS]
  refine ⟨vp_in_nI (by omega) (by decide), vp_in_nI (by omega) (by decide), ?_⟩
  intro h5 e5
  have hM2 : HM (setS v (vl v l 1) 1 (vs v (vl v l 1) 1 - a)) h5 := by rw [e5]; exact hm_setS hM (k := 1) (by omega)
  have hf2 : FrI cellsM h h5 := by rw [e5]; exact FrI.si (by simp [cellsM])
  refine ⟨vp_in_nI (by omega) (by decide), vp_in_nI (by omega) (by decide), ?_⟩
  intro h8 e8
  have g2 : gi h5 123 l = nI (vl v l 8) := hM2.2.2.2.1 l hl
  rw [g2, nI_add] at e8
  have hM3 : HM (setL (setS v (vl v l 1) 1 (vs v (vl v l 1) 1 - a)) l 8 (vl v l 8 + a)) h8 := by rw [e8]; exact hm_setSent hM2
  have hf3 : FrI cellsM h h8 := hf2.trans (by rw [e8]; exact FrI.si (by simp [cellsM]))
  have e0 : vl (setL (setS v (vl v l 1) 1 (vs v (vl v l 1) 1 - a)) l 8 (vl v l 8 + a)) l 0 = vl v l 0 := by rw [vl_setL, if_neg (by omega)]; rfl
  have e4 : vl (setL (setS v (vl v l 1) 1 (vs v (vl v l 1) 1 - a)) l 8 (vl v l 8 + a)) l 4 = vl v l 4 := by rw [vl_setL, if_neg (by omega)]; rfl
  have e5' : vl (setL (setS v (vl v l 1) 1 (vs v (vl v l 1) 1 - a)) l 8 (vl v l 8 + a)) l 5 = vl v l 5 := by rw [vl_setL, if_neg (by omega)]; rfl
  have k0 := hM3.2.2.1 l hl 0 (by omega)
  have k4 := hM3.2.2.1 l hl 4 (by omega)
  have k5 := hM3.2.2.1 l hl 5 (by omega)
  rw [e0] at k0
  rw [e4] at k4
  rw [e5'] at k5
  have htk := takesV_le (kind := vl v l 0) hln.2.2.2.2.2.1 hln.2.2.2.2.2.2.1 hln.2.2.2.2.2.2.2.1
  refine t_takesM (by omega) k0 k4 k5 hln.1 (by omega) (by omega) ?_
  have g3 : gi h8 117 1 = nI (vT v) := hM3.1.1
  have hp : (vT v + takesL v l) % 16 < 16 := by omega
  rw [g3, nI_add, lit 16, nI_rem (by omega) (by omega) (by omega), nI_mul, nI_add, ix_nI (by omega)]
  refine ⟨vp_in_nI (by omega) (by decide), vp_in_nI (by omega) (by decide), ?_⟩
  intro h13 e13
  have g4 : gi h8 124 (16 * l + (vT v + takesL v l) % 16) = nI (vy v l ((vT v + takesL v l) % 16)) := hM3.2.2.2.2.1 l hl _ hp
  rw [g4, nI_add] at e13
  refine hQ h13 ?_ (hf3.trans (by rw [e13]; exact FrI.si (by simp [cellsM])))
  rw [e13]
  exact hm_setY hM3 hl hp
