/-! what an item leaves -/
section Tok
variable {n p : Nat} {b : Nat → Int32} {u : WV}
theorem num_v {lo hx v p' : Nat} (h1 : numF n b lo hx p = .ok (v, p')) : tK n b p = 2 ∧ tV n b p = v := by
  unfold numF at h1
  split at h1
  · rename_i z
    injection h1 with h1
    injection h1 with h1 h2
    exact ⟨z.1, h1⟩
  · exact absurd h1 (by simp)
theorem st_ok {k p' : Nat} {u' : WV} (hp : p ≤ n) (hS : vS u < 6) (hk : k < 4) (e : stF n b k p u = .ok (p', u')) : p ≤ p' ∧ p' ≤ n ∧ vS u' = vS u + 1 ∧ vL u' = vL u ∧ Ext u u' ∧ ∀ B, WF 99 B u → B + 1100 ≤ 4000000 → WF 99 (B + 1100) u' := by
  unfold stF at e
  cases e1 : optF n b 10 0 1000 0 p with
  | error q => simp [e1] at e
  | ok r =>
    obtain ⟨s, p2⟩ := r
    have b1 := opt_ok hp (by omega) e1
    simp only [e1] at e
    cases e2 : optF n b 11 0 100 20 p2 with
    | error q => simp [e2] at e
    | ok r2 =>
      obtain ⟨t, p3⟩ := r2
      have b2 := opt_ok b1.2.2.1 (by omega) e2
      simp only [e2] at e
      injection e with e
      injection e with ea eb
      rw [← ea, ← eb]
      refine ⟨by omega, by omega, rfl, rfl, Ext.rf.addS.setS (Nat.le_refl _), fun B hB hl => ?_⟩
      have w1 := WF_addS hB hS (B' := B + 999) (a := k) (b := s) (c := 20) hk (by omega) (by omega) (by omega)
      exact WF_setS w1 (by show vS u < vS u + 1; omega) ⟨fun q => by omega, fun _ => by omega⟩ (by omega) (by omega)
theorem st_er {k q : Nat} (hp : p ≤ n) (e : stF n b k p u = .error q) : q ≤ n := by
  unfold stF at e
  cases e1 : optF n b 10 0 1000 0 p with
  | error q =>
    have := opt_er hp e1
    simp only [e1] at e
    injection e with e
    omega
  | ok r =>
    obtain ⟨s, p2⟩ := r
    have b1 := opt_ok hp (by omega) e1
    simp only [e1] at e
    cases e2 : optF n b 11 0 100 20 p2 with
    | error q =>
      have := opt_er b1.2.2.1 e2
      simp only [e2] at e
      injection e with e
      omega
    | ok r2 => simp [e2] at e
theorem lx_ok {L p' : Nat} {u' : WV} (hp : p ≤ n) (e : lxF n b u L p = .ok (p', u')) : p ≤ p' ∧ p' ≤ n ∧ vS u' = vS u ∧ vL u' = vL u ∧ (∀ v, Ext v u → vL v ≤ L → Ext v u') ∧ ∀ B, WF 99 B u → WF 99 B u' := by
  have eb := tE_b (b := b) hp
  have tb := tP_b (b := b) hp
  unfold lxF at e
  by_cases z : wmt n b p 15
  · rw [if_pos z] at e
    cases e1 : numF n b 0 100 (tE n b p) with
    | error q => simp [e1] at e
    | ok r =>
      obtain ⟨c, p2⟩ := r
      have b1 := num_ok eb.2.1 e1
      simp only [e1] at e
      cases e2 : numF n b 0 1000 p2 with
      | error q => simp [e2] at e
      | ok r2 =>
        obtain ⟨d, p3⟩ := r2
        have b2 := num_ok b1.2.2.1 e2
        simp only [e2] at e
        injection e with e
        injection e with ea eb
        rw [← ea, ← eb]
        refine ⟨by omega, by omega, rfl, rfl, fun v x hv => (x.setL hv).setL hv, fun B hB => ?_⟩
        have w1 : WF 99 B (setL u L 6 c) := WF_setL hB ⟨by omega, by omega, by omega, by omega, by omega, by omega, by omega, by omega, by omega⟩
        exact WF_setL w1 ⟨by omega, by omega, by omega, by omega, by omega, by omega, by omega, by omega, by omega⟩
  · rw [if_neg z] at e
    injection e with e
    injection e with ea eb
    rw [← ea, ← eb]
    exact ⟨by omega, by omega, rfl, rfl, fun v x _ => x, fun B hB => hB⟩
theorem lx_er {L q : Nat} (hp : p ≤ n) (e : lxF n b u L p = .error q) : q ≤ n := by
  have eb := tE_b (b := b) hp
  unfold lxF at e
  by_cases z : wmt n b p 15
  · rw [if_pos z] at e
    cases e1 : numF n b 0 100 (tE n b p) with
    | error q =>
      have := num_er eb.2.1 e1
      simp only [e1] at e
      injection e with e
      omega
    | ok r =>
      obtain ⟨c, p2⟩ := r
      have b1 := num_ok eb.2.1 e1
      simp only [e1] at e
      cases e2 : numF n b 0 1000 p2 with
      | error q =>
        have := num_er b1.2.2.1 e2
        simp only [e2] at e
        injection e with e
        omega
      | ok r2 => simp [e2] at e
  · rw [if_neg z] at e
    exact absurd e (by simp)
theorem lo_all {k x y : Nat} (hp : p ≤ n) (hL : vL u < 10) (hk : k < 6) (hx : x < vS u) (hy : y < vS u) (hxy : x ≠ y) : (∀ p' u', loF n b k x y p u = .ok (p', u') → p ≤ p' ∧ p' ≤ n ∧ vS u' = vS u ∧ vL u' = vL u + 1 ∧ Ext u u' ∧ ∀ B, WF 99 B u → WF 99 B u') ∧ ∀ q, loF n b k x y p u = .error q → q ≤ n := by
  unfold loF
  cases e1 : optF n b 12 0 100 10 p with
  | error q =>
    have := opt_er hp e1
    refine ⟨fun p' u' e => by simp at e, fun q' e => ?_⟩
    injection e with e
    omega
  | ok r =>
    obtain ⟨wd, p2⟩ := r
    have b1 := opt_ok hp (by omega) e1
    cases e2 : optF n b 13 1 10 1 p2 with
    | error q =>
      have := opt_er b1.2.2.1 e2
      refine ⟨fun p' u' e => by simp [e2] at e, fun q' e => ?_⟩
      simp only [e2] at e
      injection e with e
      omega
    | ok r2 =>
      obtain ⟨tk, p3⟩ := r2
      have b2 := opt_ok b1.2.2.1 (by omega) e2
      cases e3 : optF n b 14 0 6 0 p3 with
      | error q =>
        have := opt_er b2.2.2.1 e3
        refine ⟨fun p' u' e => by simp [e2, e3] at e, fun q' e => ?_⟩
        simp only [e2, e3] at e
        injection e with e
        omega
      | ok r3 =>
        obtain ⟨ti, p4⟩ := r3
        have b3 := opt_ok b2.2.2.1 (by omega) e3
        refine ⟨fun p' u' e => ?_, fun q e => ?_⟩
        · simp only [e2, e3] at e
          have l := lx_ok b3.2.2.1 e
          refine ⟨by omega, l.2.1, l.2.2.1, l.2.2.2.1, l.2.2.2.2.1 u (Ext.rf.addL.setL (Nat.le_refl _)) (Nat.le_refl _), fun B hB => l.2.2.2.2.2 B ?_⟩
          have w1 := WF_addL hB hL (a := k) (b := x) (c := y) (d := wd) (e := tk) hk hx hy hxy (by omega) (by omega)
          exact WF_setL w1 ⟨by omega, by omega, by omega, by omega, by omega, by omega, by omega, by omega, by omega⟩
        · simp only [e2, e3] at e
          exact lx_er b3.2.2.1 e
theorem ln_all {k : Nat} (hp : p ≤ n) (hL : vL u < 10) (hk : k < 6) : (∀ p' u', lnF n b k p u = .ok (p', u') → p ≤ p' ∧ p' ≤ n ∧ vS u' = vS u ∧ vL u' = vL u + 1 ∧ Ext u u' ∧ ∀ B, WF 99 B u → WF 99 B u') ∧ ∀ q, lnF n b k p u = .error q → q ≤ n := by
  unfold lnF
  cases e1 : numF n b 0 (vS u) p with
  | error q =>
    have := num_er hp e1
    refine ⟨fun p' u' e => by simp at e, fun q' e => ?_⟩
    injection e with e
    omega
  | ok r =>
    obtain ⟨x, p1⟩ := r
    have b1 := num_ok hp e1
    have tb := tP_b (b := b) b1.2.2.1
    by_cases z : tK n b p1 = 2 ∧ tV n b p1 = x
    · refine ⟨fun p' u' e => by simp [z] at e, fun q' e => ?_⟩
      simp only [if_pos z] at e
      injection e with e
      omega
    · cases e2 : numF n b 0 (vS u) p1 with
      | error q =>
        have := num_er b1.2.2.1 e2
        refine ⟨fun p' u' e => by simp [z, e2] at e, fun q' e => ?_⟩
        simp only [if_neg z, e2] at e
        injection e with e
        omega
      | ok r2 =>
        obtain ⟨y, p2⟩ := r2
        have b2 := num_ok b1.2.2.1 e2
        have v2 := num_v e2
        have a := lo_all (b := b) (u := u) (k := k) (x := x) (y := y) b2.2.2.1 hL hk b1.2.1 b2.2.1 (fun q => z ⟨v2.1, by omega⟩)
        refine ⟨fun p' u' e => ?_, fun q' e => ?_⟩
        · simp only [if_neg z, e2] at e
          have c := a.1 p' u' e
          exact ⟨by omega, c.2⟩
        · simp only [if_neg z, e2] at e
          exact a.2 q' e
theorem it_all (hp : p ≤ n) (hS : vS u ≤ 6) (hL : vL u ≤ 10) : (∀ p' u', itF n b p u = .ok (p', u') → p < p' ∧ p' ≤ n ∧ vS u' ≤ 6 ∧ vL u' ≤ 10 ∧ vS u ≤ vS u' ∧ Ext u u' ∧ ∀ B, WF 99 B u → B + 1100 ≤ 4000000 → WF 99 (B + 1100 * (vS u' - vS u)) u') ∧ ∀ q, itF n b p u = .error q → q ≤ n := by
  have eb := tE_b (b := b) hp
  have tb := tP_b (b := b) hp
  by_cases z : ∃ w, w < 10 ∧ wmt n b p w
  · obtain ⟨w, hw, z⟩ := z
    rw [it_w hw z]
    have lt := eb.2.2 (by have := z.1; omega)
    unfold itW
    by_cases l4 : w < 4
    · rw [if_pos l4]
      by_cases s6 : vS u < 6
      · rw [if_pos s6]
        refine ⟨fun p' u' e => ?_, fun q e => st_er eb.2.1 e⟩
        have c := st_ok eb.2.1 s6 l4 e
        refine ⟨by omega, c.2.1, by omega, by omega, by omega, c.2.2.2.2.1, fun B hB hl => ?_⟩
        rw [show vS u' - vS u = 1 by omega]
        exact c.2.2.2.2.2 B hB hl
      · rw [if_neg s6]
        refine ⟨fun p' u' e => absurd e (by simp), fun q e => ?_⟩
        injection e with e
        omega
    · rw [if_neg l4]
      by_cases l10 : vL u < 10
      · rw [if_pos l10]
        have a := ln_all (b := b) (u := u) (k := w - 4) eb.2.1 l10 (by omega)
        refine ⟨fun p' u' e => ?_, a.2⟩
        have c := a.1 p' u' e
        refine ⟨by omega, c.2.1, by omega, by omega, by omega, c.2.2.2.2.1, fun B hB hl => ?_⟩
        rw [show vS u' - vS u = 0 by omega]
        exact c.2.2.2.2.2 B hB
      · rw [if_neg l10]
        refine ⟨fun p' u' e => absurd e (by simp), fun q e => ?_⟩
        injection e with e
        omega
  · rw [it_no (fun w hw q => z ⟨w, hw, q⟩)]
    refine ⟨fun p' u' e => absurd e (by simp), fun q e => ?_⟩
    injection e with e
    omega
end Tok
