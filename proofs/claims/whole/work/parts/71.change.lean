/-! change, send, go, now -/
section Ops
variable {c : Nat} {σ : ST} {h : HP} {Q : Int32 → HP → Prop}
def loL (k : Nat) : Int := if k = 4 then 1 else 0
def hiL (k : Nat) : Int := if k = 0 then 5 else if k = 4 then 9 else if k = 5 then 5 else if k = 7 then 99999 else 99
/-- a setting may be so -/
def chP (σ : ST) (l k : Nat) (x3 : Int32) : Prop := if k = 1 then isS σ x3 ∧ x3 ≠ nI (vl (sV σ) l 2) else if k = 2 then isS σ x3 ∧ x3 ≠ nI (vl (sV σ) l 1) else InR x3 (loL k) (hiL k)
noncomputable def o_change (σ : ST) (x1 x2 x3 : Int32) : Int32 × ST := by
  classical exact if isL σ x1 ∧ InR x2 0 7 ∧ chP σ (nt x1) (nt x2) x3 then (nI (vl (sV σ) (nt x1) (nt x2)), uV σ (setL (sV σ) (nt x1) (nt x2) (nt x3))) else (fnd 0, uF σ 0)
theorem chP_ok {l k : Nat} {x3 : Int32} (hk : k < 8) (hp : chP σ l k x3) : 0 ≤ x3.toInt ∧ okL (sV σ) 99 l k (nt x3) := by
  unfold chP at hp
  by_cases z1 : k = 1
  · rw [if_pos z1] at hp
    have e := isS_lt hp.1
    refine ⟨hp.1.1, hk, by omega, fun _ => ⟨e.2, fun q => hp.2 (by rw [← q]; exact e.1)⟩, by omega, by omega, by omega, by omega, by omega, by omega⟩
  · rw [if_neg z1] at hp
    by_cases z2 : k = 2
    · rw [if_pos z2] at hp
      have e := isS_lt hp.1
      refine ⟨hp.1.1, hk, by omega, by omega, fun _ => ⟨e.2, fun q => hp.2 (by rw [← q]; exact e.1)⟩, by omega, by omega, by omega, by omega, by omega⟩
    · rw [if_neg z2] at hp
      have hk' : k = 0 ∨ k = 3 ∨ k = 4 ∨ k = 5 ∨ k = 6 ∨ k = 7 := by omega
      have h1 := hp.1
      have h2 := hp.2
      rcases hk' with rfl | rfl | rfl | rfl | rfl | rfl <;> simp [loL, hiL] at h1 h2 <;> (refine ⟨by omega, hk, ?_⟩; unfold nt; omega)
theorem WS_change {x1 x2 x3 : Int32} (hW : WS c σ) (hc : c < 512) : WS (c + 1) (o_change σ x1 x2 x3).2 := by
  unfold o_change
  split
  · rename_i p
    have o := chP_ok (by unfold nt; omega) p.2.2
    exact WS_V hW hc (WF_up (WF_setL hW.2.1.1 o.2) (by omega) (by omega)) hW.2.1.2
  · exact WS_F hW hc
theorem t_replace {a k old : Nat} {x : Int32} (hk : k < 8) (hg : gi h a k = nI old) (hQ : ∀ h', h' = si h a k x → Q (nI old) h') : f_X0_replace a (nI k) x h Q := by
  unfold f_X0_replace
  refine t_setting (f := fun _ => old) hk hg ?_
  have hk' : k = 0 ∨ k = 1 ∨ k = 2 ∨ k = 3 ∨ k = 4 ∨ k = 5 ∨ k = 6 ∨ k = 7 := by omega
  refine br_eq (b := 0) (by omega) (by omega) (fun z h' e => hQ h' (by rw [z]; exact e)) (fun z => ?_)
  refine br_eq (b := 1) (by omega) (by omega) (fun z h' e => hQ h' (by rw [z]; exact e)) (fun z => ?_)
  refine br_eq (b := 2) (by omega) (by omega) (fun z h' e => hQ h' (by rw [z]; exact e)) (fun z => ?_)
  refine br_eq (b := 3) (by omega) (by omega) (fun z h' e => hQ h' (by rw [z]; exact e)) (fun z => ?_)
  refine br_eq (b := 4) (by omega) (by omega) (fun z h' e => hQ h' (by rw [z]; exact e)) (fun z => ?_)
  refine br_eq (b := 5) (by omega) (by omega) (fun z h' e => hQ h' (by rw [z]; exact e)) (fun z => ?_)
  refine br_eq (b := 6) (by omega) (by omega) (fun z h' e => hQ h' (by rw [z]; exact e)) (fun z => ?_)
  intro h' e
  exact hQ h' (by rw [show k = 7 by omega]; exact e)
theorem c_change {x1 x2 x3 : Int32} (hW : WS c σ) (hI : CI σ h) (hQ : ∀ h', CI (o_change σ x1 x2 x3).2 h' → LoF h h' → Q (o_change σ x1 x2 x3).1 h') : f_X7_change x1 x2 x3 h Q := by
  have hs := hW.small
  have hF := hW.2.1.1
  unfold f_X7_change
  unfold o_change at hQ
  refine c_hasL hI.1 hs.2.1 (fun p => br1 ?_) (fun p => br0 ?_)
  · refine c_in (a := 0) (b := 7) rfl rfl (fun p2 => br1 ?_) (fun p2 => br0 ?_)
    · have e1 := isL_lt (σ := σ) p
      have e2 := nt_nI p2.1
      have l2 : nt x2 < 8 := by unfold nt; omega
      generalize nt x1 = l at *
      generalize nt x2 = k at *
      subst e2
      have hll := hF.2.2.1 l e1.2
      rw [e1.1, ix_nI (by omega), show 3 + 7 + 2 * l = 1 + 9 + 2 * l by omega]
      have yes : chP σ l k x3 → f_X7_change_J99 (nI k) x3 (1 + 9 + 2 * l) 1 Q h := by
        intro q
        rw [if_pos ⟨p, p2, q⟩] at hQ
        have o := chP_ok l2 q
        unfold f_X7_change_J99
        refine br1 (t_replace l2 (hI.1.2.2.1 l e1.2 k (by omega)) (fun h' e' => ?_))
        have C := hc_setL hI.1 hs.1 hs.2.1 (l := l) (k := k) (x := nt x3) e1.2 (by omega)
        rw [← nt_nI o.1, ← e'] at C
        have f : FrI (cellsC 1) h h' := by rw [e']; exact FrI.si ⟨by omega, by omega⟩
        exact hQ h' (hI.world hW C f) (f.lo (by intro a k; simp only [cellsC]; omega))
      have no : ¬ chP σ l k x3 → f_X7_change_J99 (nI k) x3 (1 + 9 + 2 * l) 0 Q h := by
        intro q
        rw [if_neg (fun z => q z.2.2)] at hQ
        unfold f_X7_change_J99
        exact br0 (c_found (by omega) hI hQ fnd0 hs)
      refine ⟨vp_in_nI (by omega) (by decide), ?_⟩
      refine br_eq (b := 1) (by omega) (by omega) (fun z => ?_) (fun z => ?_)
      · have t : InR (nI (vl (sV σ) l 2)) 0 ((vS (sV σ) : Int) - 1) := by unfold InR; rw [nI_toInt (by omega)]; omega
        have ep : chP σ l k x3 ↔ (isS σ x3 ∧ x3 ≠ nI (vl (sV σ) l 2)) := by unfold chP; rw [if_pos z]
        rw [hI.1.2.2.1 l e1.2 2 (by omega)]
        exact c_areTwo hI.1 hs.1 (fun q => yes (ep.mpr ⟨q.1, q.2.2⟩)) (fun q => no (fun q2 => q ⟨(ep.mp q2).1, t, (ep.mp q2).2⟩))
      · refine br_eq (b := 2) (by omega) (by omega) (fun z2 => ?_) (fun z2 => ?_)
        · have t : InR (nI (vl (sV σ) l 1)) 0 ((vS (sV σ) : Int) - 1) := by unfold InR; rw [nI_toInt (by omega)]; omega
          have ep : chP σ l k x3 ↔ (isS σ x3 ∧ x3 ≠ nI (vl (sV σ) l 1)) := by unfold chP; rw [if_neg z, if_pos z2]
          rw [hI.1.2.2.1 l e1.2 1 (by omega)]
          exact c_areTwo hI.1 hs.1 (fun q => yes (ep.mpr ⟨q.2.1, fun q2 => q.2.2 q2.symm⟩)) (fun q => no (fun q2 => q ⟨t, (ep.mp q2).1, fun q3 => (ep.mp q2).2 q3.symm⟩))
        · have ep : chP σ l k x3 ↔ InR x3 (loL k) (hiL k) := by unfold chP; rw [if_neg z, if_neg z2]
          unfold f_X0_least f_X0_greatest
          have lo1 : (if nI k = 4 then (1 : Int32) else 0).toInt = loL k := by
            unfold loL
            by_cases q : k = 4
            · rw [if_pos q, if_pos (show nI k = 4 by rw [q]; rfl)]; rfl
            · have n4 : ¬ nI k = (4 : Int32) := fun q2 => q (nI_inj (b := 4) (by omega) (by omega) q2)
              rw [if_neg q, if_neg n4]; rfl
          have go : ∀ hi : Int32, hi.toInt = hiL k → f_X7_isIn x3 (if nI k = 4 then (1 : Int32) else 0) hi h (fun v17 h16 => f_X7_change_J99 (nI k) x3 (1 + 9 + 2 * l) v17 Q h16) := by
            intro hi eh
            exact c_in lo1 eh (fun q => yes (ep.mpr q)) (fun q => no (fun q2 => q (ep.mp q2)))
          refine br_eq (b := 0) (by omega) (by omega) (fun y => go 5 (by unfold hiL; rw [if_pos y]; rfl)) (fun y0 => ?_)
          refine br_eq (b := 1) (by omega) (by omega) (fun y => absurd y z) (fun _ => ?_)
          refine br_eq (b := 2) (by omega) (by omega) (fun y => absurd y z2) (fun _ => ?_)
          refine br_eq (b := 3) (by omega) (by omega) (fun y => go 99 (by rw [y]; rfl)) (fun y3 => ?_)
          refine br_eq (b := 4) (by omega) (by omega) (fun y => go 9 (by rw [y]; rfl)) (fun y4 => ?_)
          refine br_eq (b := 5) (by omega) (by omega) (fun y => go 5 (by rw [y]; rfl)) (fun y5 => ?_)
          refine br_eq (b := 6) (by omega) (by omega) (fun y => go 99 (by rw [y]; rfl)) (fun y6 => ?_)
          exact br_eq (b := 7) (by omega) (by omega) (fun y => go 99999 (by rw [y]; rfl)) (fun y7 => by omega)
    · rw [if_neg (fun z => p2 z.2.1)] at hQ
      exact c_found (by omega) hI hQ fnd0 hs
  · rw [if_neg (fun z => p z.1)] at hQ
    exact c_found (by omega) hI hQ fnd0 hs
theorem m_change {x1 x2 x3 : Int32} (hW : WS c σ) (hI : MI σ h) (hQ : ∀ h', MI (o_change σ x1 x2 x3).2 h' → HiF h h' → Q (o_change σ x1 x2 x3).1 h') : f_X8_change x1 x2 x3 h Q := by
  have hs := hW.small
  have hF := hW.2.1.1
  unfold f_X8_change
  unfold o_change at hQ
  refine m_isL hI.1 hs.2.1 (fun p => br1 ?_) (fun p => br0 ?_)
  · have e1 := isL_lt (σ := σ) p
    have no : ¬ (InR x2 0 7 ∧ chP σ (nt x1) (nt x2) x3) → f_X8_finds (-1000000001 : Int32) h (fun v14 h13 => Q v14 h13) := by
      intro q
      rw [if_neg (fun z => q z.2)] at hQ
      exact m_finds (by omega) hI hQ fnd0
    have yes : InR x2 0 7 → chP σ (nt x1) (nt x2) x3 → f_X8_at x1 x2 h (fun v10 h9 => vp_in ((8 * x1) + x2) 80 ∧ ∀ h12 : HP, h12 = si h9 122 (ix ((8 * x1) + x2)) x3 → Q v10 h12) := by
      intro p2 q
      rw [if_pos ⟨p, p2, q⟩] at hQ
      have e2 := nt_nI p2.1
      have l2 : nt x2 < 8 := by unfold nt; omega
      have o := chP_ok l2 q
      generalize nt x1 = l at *
      generalize nt x2 = k at *
      rw [e1.1, e2, m_at hF hI.1 e1.2 l2, lit 8, nI_mul, nI_add, ix_nI (by omega)]
      refine ⟨vp_in_nI (by omega) (by decide), ?_⟩
      intro h' e'
      have C := hm_setL hI.1 (l := l) (k := k) (x := nt x3) l2
      rw [← nt_nI o.1, ← e'] at C
      have f : FrI cellsM h h' := by rw [e']; exact FrI.si (by simp [cellsM])
      exact hQ h' (hI.world C f) (f.hi (by intro a k; simp only [cellsM]; omega))
    unfold f_X8_mayBe
    have lits : ∀ k : Nat, k < 8 → x2 = nI k → InR x2 0 7 ∧ nt x2 = k := fun k hk e => by
      refine ⟨?_, by rw [e, nt_of k (by omega)]⟩
      unfold InR; rw [e, nI_toInt (by omega)]; omega
    have inn : ∀ k : Nat, k < 8 → k ≠ 1 → k ≠ 2 → x2 = nI k → ∀ lo hi : Int64, lo.toInt = loL k → hi.toInt = hiL k → f_X8_in x3.toInt64 lo hi h (fun v7 h6 => (((v7 = 0) → f_X8_finds (-1000000001 : Int32) h6 (fun v14 h13 => Q v14 h13)) ∧ (¬ (v7 = 0) → f_X8_at x1 x2 h6 (fun v10 h9 => vp_in ((8 * x1) + x2) 80 ∧ ∀ h12 : HP, h12 = si h9 122 (ix ((8 * x1) + x2)) x3 → Q v10 h12)))) := by
      intro k hk k1 k2 ek lo hi e3 e4
      have l := lits k hk ek
      have ep : chP σ (nt x1) (nt x2) x3 ↔ InR x3 (loL k) (hiL k) := by unfold chP; rw [l.2, if_neg k1, if_neg k2]
      exact m_in e3 e4 (fun q => br1 (yes l.1 (ep.mpr q))) (fun q => br0 (no (fun q2 => q (ep.mp q2.2))))
    refine ⟨fun z => inn 0 (by omega) (by omega) (by omega) z 0 5 rfl rfl, fun z0 => ?_⟩
    have hll := hF.2.2.1 (nt x1) e1.2
    refine ⟨fun z => ?_, fun z1 => ?_⟩
    · have l := lits 1 (by omega) z
      have ep : chP σ (nt x1) (nt x2) x3 ↔ (isS σ x3 ∧ x3 ≠ nI (vl (sV σ) (nt x1) 2)) := by unfold chP; rw [l.2, if_pos rfl]
      refine m_isS hI.1 hs.1 (fun q => br1 ?_) (fun q => br0 (br0 (no (fun q2 => q (ep.mp q2.2).1))))
      have e1' := e1.1
      rw [show f_X8_at x1 2 h = f_X8_at (nI (nt x1)) (nI 2) h by rw [← e1']; rfl, m_at hF hI.1 e1.2 (by omega)]
      exact ⟨fun q2 => br0 (no (fun q3 => (ep.mp q3.2).2 q2)), fun q2 => br1 (yes l.1 (ep.mpr ⟨q, q2⟩))⟩
    refine ⟨fun z => ?_, fun z2 => ?_⟩
    · have l := lits 2 (by omega) z
      have ep : chP σ (nt x1) (nt x2) x3 ↔ (isS σ x3 ∧ x3 ≠ nI (vl (sV σ) (nt x1) 1)) := by unfold chP; rw [l.2, if_neg (by omega), if_pos rfl]
      refine m_isS hI.1 hs.1 (fun q => br1 ?_) (fun q => br0 (br0 (no (fun q2 => q (ep.mp q2.2).1))))
      have e1' := e1.1
      rw [show f_X8_at x1 1 h = f_X8_at (nI (nt x1)) (nI 1) h by rw [← e1']; rfl, m_at hF hI.1 e1.2 (by omega)]
      exact ⟨fun q2 => br0 (no (fun q3 => (ep.mp q3.2).2 q2)), fun q2 => br1 (yes l.1 (ep.mpr ⟨q, q2⟩))⟩
    refine ⟨fun z => inn 3 (by omega) (by omega) (by omega) z 0 99 rfl rfl, fun z3 => ?_⟩
    refine ⟨fun z => inn 4 (by omega) (by omega) (by omega) z 1 9 rfl rfl, fun z4 => ?_⟩
    refine ⟨fun z => inn 5 (by omega) (by omega) (by omega) z 0 5 rfl rfl, fun z5 => ?_⟩
    refine ⟨fun z => inn 6 (by omega) (by omega) (by omega) z 0 99 rfl rfl, fun z6 => ?_⟩
    refine ⟨fun z => inn 7 (by omega) (by omega) (by omega) z 0 99999 rfl rfl, fun z7 => br0 (no (fun q => ?_))⟩
    have e2 := nt_nI q.1.1
    have : nt x2 = 0 ∨ nt x2 = 1 ∨ nt x2 = 2 ∨ nt x2 = 3 ∨ nt x2 = 4 ∨ nt x2 = 5 ∨ nt x2 = 6 ∨ nt x2 = 7 := by unfold nt; omega
    rcases this with y | y | y | y | y | y | y | y <;> rw [y] at e2
    · exact z0 e2
    · exact z1 e2
    · exact z2 e2
    · exact z3 e2
    · exact z4 e2
    · exact z5 e2
    · exact z6 e2
    · exact z7 e2
  · rw [if_neg (fun z => p z.1)] at hQ
    exact m_finds (by omega) hI hQ fnd0
noncomputable def o_send (σ : ST) (x1 x2 : Int32) : Int32 × ST := by
  classical exact if isL σ x1 ∧ InR x2 0 9999 then (if CanV (sV σ) (nt x1) (nt x2) then (nI (vs (sendV (sV σ) (nt x1) (nt x2)) (vl (sV σ) (nt x1) 1) 1), uV σ (sendV (sV σ) (nt x1) (nt x2))) else (fnd 4, uF σ 4)) else (fnd 0, uF σ 0)
theorem WS_send {x1 x2 : Int32} (hW : WS c σ) (hc : c < 512) : WS (c + 1) (o_send σ x1 x2).2 := by
  unfold o_send
  split
  · split
    · rename_i q
      exact WS_V hW hc (WF_up (WF_send hW.2.1.1 q) (by omega) (by omega)) hW.2.1.2
    · exact WS_F hW hc
  · exact WS_F hW hc
theorem can_iff {v : WV} {l a : Nat} (hl : l < 2 ^ 31) (ha : a < 2 ^ 31) (hB : ∀ l' a', CanV v l' a' → l' < 2 ^ 31 ∧ a' < 2 ^ 31) : Can v (lN l) (lN a) ↔ CanV v l a := by
  constructor
  · rintro ⟨l', a', e1, e2, q⟩
    have b := hB l' a' q
    have q1 := lN_inj hl b.1 e1
    have q2 := lN_inj ha b.2 e2
    rw [q1, q2]; exact q
  · intro q
    exact ⟨l, a, rfl, rfl, q⟩
theorem can_b {m B : Nat} {v : WV} (hF : WF m B v) : ∀ l' a', CanV v l' a' → l' < 2 ^ 31 ∧ a' < 2 ^ 31 := fun l' a' q => by
  have h1 := hF.stock (hF.2.2.1 l' q.1).2.1
  have h2 := q.2.1
  have h3 := q.1
  have := hF.1
  omega
theorem vl_send {v : WV} {l a l' : Nat} : vl (sendV v l a) l' 1 = vl v l' 1 := by
  show vl (setL (setS v (vl v l 1) 1 (vs v (vl v l 1) 1 - a)) l 8 (vl v l 8 + a)) l' 1 = _
  rw [vl_setL, if_neg (by omega)]; rfl
theorem c_send {x1 x2 : Int32} (hW : WS c σ) (hI : CI σ h) (hQ : ∀ h', CI (o_send σ x1 x2).2 h' → LoF h h' → Q (o_send σ x1 x2).1 h') : f_X7_send x1 x2 h Q := by
  have hs := hW.small
  have hF := hW.2.1.1
  unfold f_X7_send
  unfold o_send at hQ
  refine c_hasL hI.1 hs.2.1 (fun p => br1 ?_) (fun p => br0 ?_)
  · refine c_in (a := 0) (b := 9999) rfl rfl (fun p2 => br1 ?_) (fun p2 => br0 ?_)
    · rw [if_pos ⟨p, p2⟩] at hQ
      have e1 := isL_lt (σ := σ) p
      have e2 := nt_nI p2.1
      have l2 : nt x2 ≤ 9999 := by unfold nt; omega
      generalize nt x1 = l at *
      generalize nt x2 = a at *
      have hll := hF.2.2.1 l e1.2
      rw [e1.1, e2, nI_l (by omega), nI_l (by omega)]
      refine c_dispatch hF hI.1 (lN l) (lN a) (fun q => br0 ?_) (fun l' a' el ea q h' C f => br1 ?_)
      · rw [if_neg (fun z => q ((can_iff (by omega) (by omega) (can_b hF)).mpr z))] at hQ
        exact c_found (by omega) hI hQ fnd4 hs
      · have b := can_b hF l' a' q
        have q1 := lN_inj (by omega) b.1 el
        have q2 := lN_inj (by omega) b.2 ea
        subst q1
        subst q2
        rw [if_pos q] at hQ
        have F' := WF_send hF q
        have g1 := C.2.2.1 l e1.2 1 (by omega)
        rw [vl_send] at g1
        rw [ix_nI (by omega), show 3 + 7 + 2 * l = 1 + 9 + 2 * l by omega, g1, ix_nI (by omega), show 2 + 2 + vl (sV σ) l 1 = 1 + 3 + vl (sV σ) l 1 by omega, C.2.1 _ hll.2.1 1 (by omega)]
        exact ⟨vp_in_nI (by omega) (by decide), vp_in_nI (by omega) (by decide), hQ h' (hI.world hW C f) (f.lo (by intro a k; simp only [cellsC]; omega))⟩
    · rw [if_neg (fun z => p2 z.2)] at hQ
      exact c_found (by omega) hI hQ fnd0 hs
  · rw [if_neg (fun z => p z.1)] at hQ
    exact c_found (by omega) hI hQ fnd0 hs
theorem m_send {x1 x2 : Int32} (hW : WS c σ) (hI : MI σ h) (hQ : ∀ h', MI (o_send σ x1 x2).2 h' → HiF h h' → Q (o_send σ x1 x2).1 h') : f_X8_send x1 x2 h Q := by
  have hs := hW.small
  have hF := hW.2.1.1
  unfold f_X8_send
  unfold o_send at hQ
  refine m_isL hI.1 hs.2.1 (fun p => br1 ?_) (fun p => br0 ?_)
  · refine m_in (a := 0) (b := 9999) rfl rfl (fun p2 => br1 ?_) (fun p2 => br0 ?_)
    · rw [if_pos ⟨p, p2⟩] at hQ
      have e1 := isL_lt (σ := σ) p
      have e2 := nt_nI p2.1
      have l2 : nt x2 ≤ 9999 := by unfold nt; omega
      generalize nt x1 = l at *
      generalize nt x2 = a at *
      have hll := hF.2.2.1 l e1.2
      rw [e1.1, e2, nI_l (show a < 2 ^ 31 by omega)]
      refine m_canSend hF hI.1 e1.2 (lN a) (fun q => br0 ?_) (fun a' ea q => br1 ?_)
      · rw [if_neg (fun z => q ((can_iff (by omega) (by omega) (can_b hF)).mpr z))] at hQ
        exact m_finds (by omega) hI hQ fnd4
      · have b := can_b hF l a' q
        have q2 := lN_inj (by omega) b.2 ea
        subst q2
        rw [if_pos q] at hQ
        refine m_sends hF hI.1 q (fun h' C f => ?_)
        have F' := WF_send hF q
        show f_X8_at (nI l) (nI 1) h' _
        rw [m_at F' C e1.2 (by omega), vl_send, ix_nI (by omega), (C.2.1 _ hll.2.1).2.1]
        exact ⟨vp_in_nI (by omega) (by decide), hQ h' (hI.world C f) (f.hi (by intro a k; simp only [cellsM]; omega))⟩
    · rw [if_neg (fun z => p2 z.2)] at hQ
      exact m_finds (by omega) hI hQ fnd0
  · rw [if_neg (fun z => p z.1)] at hQ
    exact m_finds (by omega) hI hQ fnd0
def itT (v : WV) : Nat → WV
  | 0 => v
  | k + 1 => tickV (itT v k)
theorem vT_tick (v : WV) : vT (tickV v) = vT v + 1 := (itB_1 _ _).1
theorem vT_it (v : WV) : ∀ k, vT (itT v k) = vT v + k
  | 0 => rfl
  | k + 1 => by rw [itT, vT_tick, vT_it v k]; omega
theorem WF_it {m B : Nat} {v : WV} (hF : WF m B v) : ∀ k, vT v + k ≤ 100100 → WF m B (itT v k)
  | 0, _ => hF
  | k + 1, h => WF_tick (WF_it hF k (by omega)) (by rw [vT_it]; omega)
def o_go (σ : ST) (x1 : Int32) : Int32 × ST := if InR x1 1 60 then (if vT (sV σ) + nt x1 ≤ 99999 then (nI (vLo (itT (sV σ) (nt x1))), uV σ (itT (sV σ) (nt x1))) else (fnd 4, uF σ 4)) else (fnd 0, uF σ 0)
theorem WS_go {x1 : Int32} (hW : WS c σ) (hc : c < 512) : WS (c + 1) (o_go σ x1).2 := by
  unfold o_go
  split
  · split
    · rename_i q
      exact WS_V hW hc (WF_up (WF_it hW.2.1.1 _ (by omega)) (by omega) (by omega)) (by rw [vT_it]; exact q)
    · exact WS_F hW hc
  · exact WS_F hW hc
theorem c_go {x1 : Int32} (hW : WS c σ) (hI : CI σ h) (hQ : ∀ h', CI (o_go σ x1).2 h' → LoF h h' → Q (o_go σ x1).1 h') : f_X7_go x1 h Q := by
  have hs := hW.small
  have hF := hW.2.1.1
  have hT := hW.2.1.2
  unfold f_X7_go
  unfold o_go at hQ
  refine c_in (a := 1) (b := 60) rfl rfl (fun p => br1 ?_) (fun p => br0 ?_)
  · rw [if_pos p] at hQ
    have e2 := nt_nI (x := x1) (by omega)
    have l2 : nt x1 ≤ 60 := by unfold nt; omega
    generalize nt x1 = n at *
    rw [e2, hI.1.1.1, nI_add]
    refine br_le (b := 99999) (by omega) (by omega) (fun z => ?_) (fun z => ?_)
    · rw [if_pos z] at hQ
      have key := loop_up (L := fun c k => ∀ h1, HC 1 (itT (sV σ) k) h1 → FrI (cellsC 1) h h1 → f_X7_go_L40 (nI n) Q c (nI k) h1) n 0 (by omega) (fun c h1 k1 k2 => ?_) (fun k c _ hk ih h1 k1 k2 => ?_)
      · obtain ⟨c, hc⟩ := key
        exact ⟨c, hc h hI.1 FrI.rf⟩
      · unfold f_X7_go_L40
        rw [k1.1.2.1]
        exact br_le (by omega) (by omega) (fun _ => hQ h1 (hI.world hW k1 k2) (k2.lo (by intro a k; simp only [cellsC]; omega))) (fun z => by omega)
      · unfold f_X7_go_L40
        refine br_le (by omega) (by omega) (fun z => by omega) (fun _ => ?_)
        refine c_passTick (WF_it hF k (by omega)) k1 (by rw [vT_it]; omega) (fun h2 C f => ?_)
        intro x ex
        rw [ex, nI_1]
        exact ih h2 C (k2.trans f)
    · rw [if_neg (by omega)] at hQ
      exact c_found (by omega) hI hQ fnd4 hs
  · rw [if_neg p] at hQ
    exact c_found (by omega) hI hQ fnd0 hs
theorem m_go {x1 : Int32} (hW : WS c σ) (hI : MI σ h) (hQ : ∀ h', MI (o_go σ x1).2 h' → HiF h h' → Q (o_go σ x1).1 h') : f_X8_go x1 h Q := by
  have hs := hW.small
  have hF := hW.2.1.1
  have hT := hW.2.1.2
  unfold f_X8_go
  unfold o_go at hQ
  refine m_in (a := 1) (b := 60) rfl rfl (fun p => br1 ?_) (fun p => br0 ?_)
  · rw [if_pos p] at hQ
    have e2 := nt_nI (x := x1) (by omega)
    have l2 : nt x1 ≤ 60 := by unfold nt; omega
    generalize nt x1 = n at *
    rw [e2, hI.1.1.1, nI_add]
    refine br_le (b := 99999) (by omega) (by omega) (fun z => ?_) (fun z => ?_)
    · rw [if_pos z] at hQ
      have key := loop_up (L := fun c k => ∀ h1, HM (itT (sV σ) k) h1 → FrI cellsM h h1 → f_X8_go_L39 (nI n) Q c (nI k) h1) n 0 (by omega) (fun c h1 k1 k2 => ?_) (fun k c _ hk ih h1 k1 k2 => ?_)
      · obtain ⟨c, hc⟩ := key
        exact ⟨c, hc h hI.1 FrI.rf⟩
      · unfold f_X8_go_L39
        rw [k1.1.2.1]
        exact br_le (by omega) (by omega) (fun _ => hQ h1 (hI.world k1 k2) (k2.hi (by intro a k; simp only [cellsM]; omega))) (fun z => by omega)
      · unfold f_X8_go_L39
        refine br_le (by omega) (by omega) (fun z => by omega) (fun _ => ?_)
        refine m_oneTick (WF_it hF k (by omega)) k1 (by rw [vT_it]; omega) (fun h2 C f => ?_)
        intro x ex
        rw [ex, nI_1]
        exact ih h2 C (k2.trans f)
    · rw [if_neg (by omega)] at hQ
      exact m_finds (by omega) hI hQ fnd4
  · rw [if_neg p] at hQ
    exact m_finds (by omega) hI hQ fnd0
end Ops
