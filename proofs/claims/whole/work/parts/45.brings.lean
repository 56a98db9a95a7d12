/-! the reference's way by way -/
section Br
variable {v : WV} {R : Nat → Nat → Nat} {g n m B : Nat} {f : Nat → Nat} {σ : SB} {h : HP}
theorem val_le (hF : WF m B v) (hn : n ≤ 24) (hfl : Flw (tn v R g n) 151 150 f) : ex (tn v R g n) f 150 ≤ 600000000 := by
  have hN : NB (tn v R g n) 152 := tn_B hF hn
  have h6 := hF.1
  have c1 := cut_le (T := fun w => decide (w = 151)) hN (by omega) (by omega) (by omega) hfl (by simp) (by simp)
  refine Int.le_trans c1 ?_
  unfold cutV
  have c2 : sI (fun a => if a < 150 then (4000000 : Int) else 0) 550 = 600000000 := by decide +kernel
  rw [← c2, tn_A]
  apply sI_le
  intro a ha
  by_cases q : 0 < nC (tn v R g n) a
  · rcases arc3 ha with ⟨s, i, hs, hi, rfl⟩ | ⟨s, i, hs, hi, rfl⟩ | ⟨l, i, hl, hi, rfl⟩
    · obtain ⟨e1, e2, e3⟩ := tn_s (v := v) (R := R) (g := g) (n := n) hs hi
      rw [if_pos (show 25 * s + i < 150 by omega), e3]
      have : (if s < vS v ∧ s ≠ g ∧ i ≤ n then cmV v s i else 0) ≤ 4000000 := by
        split
        · rename_i z; exact cmV_le hF z.1
        · omega
      split <;> omega
    · obtain ⟨e1, e2, e3⟩ := tn_y (v := v) (R := R) (g := g) (n := n) hs hi
      have := nd_lt (g := g) hs hi
      rw [e1, if_neg (by simp; omega)]
      split <;> omega
    · obtain ⟨e1, e2, e3⟩ := tn_l (v := v) (R := R) (g := g) (n := n) (l := l) hi
      rw [e3] at q
      have hv : l < vL v ∧ vl v l 1 ≠ g ∧ i + takesL v l ≤ n := by
        apply Decidable.byContradiction
        intro z; rw [if_neg z] at q; omega
      have := hF.2.2.1 l hv.1
      have := nd_lt (g := g) (s := vl v l 1) (i := i) (by omega) hi
      rw [e1, if_neg (by simp; omega)]
      split <;> omega
  · have : nC (tn v R g n) a = 0 := by omega
    rw [this]
    split <;> split <;> omega
theorem RS.setU (h6 : vS v ≤ 6) {p x : Nat} (hp : p < 150) (hR : RS v R f h) : RS v R (upN f p x) (si h 128 p (nI x)) := by
  obtain ⟨a, b, c⟩ := hR
  refine ⟨fun l hl => ?_, fun l hl i hi => ⟨?_, ?_⟩, fun s hs i hi => ⟨?_, ?_, ?_, ?_⟩⟩
  · rw [gi_si, if_neg (by omega)]; exact a l hl
  · rw [gi_si, if_neg (by omega)]; exact (b l hl i hi).1
  · rw [gi_si, if_neg (by omega), upN_ne (by omega)]; exact (b l hl i hi).2
  · rw [gi_si, if_neg (by omega)]; exact (c s hs i hi).1
  · rw [gi_si, if_neg (by omega)]; exact (c s hs i hi).2.1
  · rw [gi_si]
    by_cases e : 25 * s + i = p
    · rw [if_pos ⟨rfl, e⟩, e, upN_eq]
    · rw [if_neg (fun z => e z.2), upN_ne e]; exact (c s hs i hi).2.2.1
  · rw [gi_si, if_neg (by omega), upN_ne (by omega)]; exact (c s hs i hi).2.2.2
theorem RS.setY (h6 : vS v ≤ 6) {p x : Nat} (hp : p < 150) (hR : RS v R f h) : RS v R (upN f (150 + p) x) (si h 129 p (nI x)) := by
  obtain ⟨a, b, c⟩ := hR
  refine ⟨fun l hl => ?_, fun l hl i hi => ⟨?_, ?_⟩, fun s hs i hi => ⟨?_, ?_, ?_, ?_⟩⟩
  · rw [gi_si, if_neg (by omega)]; exact a l hl
  · rw [gi_si, if_neg (by omega)]; exact (b l hl i hi).1
  · rw [gi_si, if_neg (by omega), upN_ne (by omega)]; exact (b l hl i hi).2
  · rw [gi_si, if_neg (by omega)]; exact (c s hs i hi).1
  · rw [gi_si, if_neg (by omega)]; exact (c s hs i hi).2.1
  · rw [gi_si, if_neg (by omega), upN_ne (by omega)]; exact (c s hs i hi).2.2.1
  · rw [gi_si]
    by_cases e : 25 * s + i = p
    · rw [if_pos ⟨rfl, e⟩, e, upN_eq]
    · rw [if_neg (fun z => e z.2), upN_ne (by omega)]; exact (c s hs i hi).2.2.2
theorem RS.setG (h6 : vS v ≤ 6) {p x : Nat} (hR : RS v R f h) : RS v R (upN f (300 + p) x) (si h 130 p (nI x)) := by
  obtain ⟨a, b, c⟩ := hR
  refine ⟨fun l hl => ?_, fun l hl i hi => ⟨?_, ?_⟩, fun s hs i hi => ⟨?_, ?_, ?_, ?_⟩⟩
  · rw [gi_si, if_neg (by omega)]; exact a l hl
  · rw [gi_si, if_neg (by omega)]; exact (b l hl i hi).1
  · rw [gi_si]
    by_cases e : 25 * l + i = p
    · rw [if_pos ⟨rfl, e⟩, e, upN_eq]
    · rw [if_neg (fun z => e z.2), upN_ne (by omega)]; exact (b l hl i hi).2
  · rw [gi_si, if_neg (by omega)]; exact (c s hs i hi).1
  · rw [gi_si, if_neg (by omega)]; exact (c s hs i hi).2.1
  · rw [gi_si, if_neg (by omega), upN_ne (by omega)]; exact (c s hs i hi).2.2.1
  · rw [gi_si, if_neg (by omega), upN_ne (by omega)]; exact (c s hs i hi).2.2.2
/-- what a step can still carry -/
def lfO (v : WV) (R : Nat → Nat → Nat) (g n : Nat) (f : Nat → Nat) (how p p' : Nat) : Nat := if how = 3 ∨ 30 ≤ how then f (arO how p p') else nC (tn v R g n) (arO how p p') - f (arO how p p')
/-- the flow behind a step's moving -/
def mvO (f : Nat → Nat) (how p p' x : Nat) : Nat → Nat := if how = 3 ∨ 30 ≤ how then upN f (arO how p p') (f (arO how p p') - x) else upN f (arO how p p') (f (arO how p p') + x)
theorem m_behind {Q : Int32 → HP → Prop} {p p' how : Nat} {f0 : Nat → Nat} (hF : WF m B v) (hn : n ≤ 24) (hM : HM v h) (hR : RS v R f h) (hp : p < 25 * vS v) (hb : gi h 132 p = nI how) (hs : StpR v R g n f0 how p p') (hQ : Q (nI p') h) : f_X8_behind (nI p) h Q := by
  have h6 := hF.1
  unfold f_X8_behind
  refine ⟨vp_in_nI (by omega) (by decide), ?_⟩
  intro x2 e2
  rw [ix_nI (by omega), hb] at e2
  rw [e2]
  rcases hs with ⟨rfl, s2, s3, s4⟩ | ⟨rfl, s2, s3, s4⟩ | ⟨l, i, hl, rfl, e1, e3, s3, s4, s5, s6⟩ | ⟨l, i, hl, rfl, e1, e3, s3, s4, s5, s6⟩
  · refine br_eq (a := 2) (b := 2) (by omega) (by omega) (fun _ => ?_) (fun z => absurd rfl z)
    rw [lit 1, nI_sub (by omega), show p - 1 = p' by omega]; exact hQ
  · refine br_eq (a := 3) (b := 2) (by omega) (by omega) (fun z => by omega) (fun _ => ?_)
    refine br_eq (a := 3) (b := 3) (by omega) (by omega) (fun _ => ?_) (fun z => absurd rfl z)
    rw [nI_1, ← s2]; exact hQ
  · have hl' := hF.2.2.1 l hl
    refine br_eq (b := 2) (by omega) (by omega) (fun z => by omega) (fun _ => ?_)
    refine br_eq (b := 3) (by omega) (by omega) (fun z => by omega) (fun _ => ?_)
    intro x3 e3' x4 e4
    rw [lit 30, if_neg (fun z => absurd ((nI_leI (by omega) (by omega)).mp z) (by omega)), lit 10, nI_sub (by omega), Nat.add_sub_cancel_left] at e3'
    rw [lit 25, nI_rem (by omega) (by omega) (by omega)] at e4
    refine br_le (a := 30) (by omega) (by omega) (fun z => by omega) (fun _ => ?_)
    rw [e3', e4, lit 1, m_at hF hM hl (by omega)]
    refine ⟨vp_in_nI (by omega) (by decide), ?_⟩
    rw [ix_nI (by omega), hR.1 l hl, lit 25, nI_mul, nI_add, nI_sub (by omega), show 25 * vl v l 1 + p % 25 - takesL v l = p' by omega]
    exact hQ
  · have hl' := hF.2.2.1 l hl
    refine br_eq (b := 2) (by omega) (by omega) (fun z => by omega) (fun _ => ?_)
    refine br_eq (b := 3) (by omega) (by omega) (fun z => by omega) (fun _ => ?_)
    intro x3 e3' x4 e4
    rw [lit 30, if_pos ((nI_leI (by omega) (by omega)).mpr (by omega)), nI_sub (by omega), Nat.add_sub_cancel_left] at e3'
    rw [lit 25, nI_rem (by omega) (by omega) (by omega)] at e4
    refine br_le (a := 30) (by omega) (by omega) (fun _ => ?_) (fun z => by omega)
    rw [e3', e4, lit 2, m_at hF hM hl (by omega)]
    refine ⟨vp_in_nI (by omega) (by decide), ?_⟩
    rw [ix_nI (by omega), hR.1 l hl, lit 25, nI_mul, nI_add, nI_add, show 25 * vl v l 2 + p % 25 + takesL v l = p' by omega]
    exact hQ
theorem m_leftFor {Q : Int32 → HP → Prop} {p p' how : Nat} (hF : WF m B v) (hn : n ≤ 24) (hR : RS v R f h) (hp : p < 25 * vS v) (hp' : p' < 25 * vS v) (hg : p / 25 ≠ g) (hg' : p' / 25 ≠ g) (hin : p % 25 ≤ n) (hin' : p' % 25 ≤ n) (hb : gi h 132 p = nI how) (hs : StpR v R g n f how p p') (hQ : Q (nI (lfO v R g n f how p p')) h) : f_X8_leftFor (nI p) (nI p') h Q := by
  have h6 := hF.1
  have ha := stp_arc hF hn hp hp' hg hg' hin hin' hs
  unfold lfO at hQ
  unfold f_X8_leftFor
  refine ⟨vp_in_nI (by omega) (by decide), ?_⟩
  intro x2 e2
  rw [ix_nI (by omega), hb] at e2
  rw [e2]
  rcases hs with ⟨rfl, s2, s3, s4⟩ | ⟨rfl, s2, s3, s4⟩ | ⟨l, i, hl, rfl, e1, e3, s3, s4, s5, s6⟩ | ⟨l, i, hl, rfl, e1, e3, s3, s4, s5, s6⟩
  · refine br_eq (a := 2) (b := 2) (by omega) (by omega) (fun _ => ?_) (fun z => absurd rfl z)
    refine ⟨vp_in_nI (by omega) (by decide), vp_in_nI (by omega) (by decide), ?_⟩
    rw [if_neg (by omega)] at hQ
    have ea : arO 2 p p' = 150 + p' := by unfold arO; rw [if_pos rfl]
    rw [ea] at hQ
    obtain ⟨a1, a2, a3⟩ := tn_y (v := v) (R := R) (g := g) (n := n) (s := p' / 25) (i := p' % 25) (by omega) (by omega)
    rw [show 25 * (p' / 25) + p' % 25 = p' by omega] at a3
    rw [a3, if_pos ⟨by omega, by omega, by omega⟩] at hQ
    have q1 := hR.2.2 (p' / 25) (by omega) (p' % 25) (by omega)
    rw [show 25 * (p' / 25) + p' % 25 = p' by omega] at q1
    have w1 : p' / 25 = p / 25 := by omega
    have w2 : p' % 25 = p % 25 - 1 := by omega
    rw [ix_nI (by omega), q1.1, q1.2.2.2, nI_sub (by rw [w1, w2]; omega)]
    exact hQ
  · refine br_eq (a := 3) (b := 2) (by omega) (by omega) (fun z => by omega) (fun _ => ?_)
    refine br_eq (a := 3) (b := 3) (by omega) (by omega) (fun _ => ?_) (fun z => absurd rfl z)
    refine ⟨vp_in_nI (by omega) (by decide), ?_⟩
    rw [if_pos (by omega)] at hQ
    have ea : arO 3 p p' = 150 + p := by unfold arO; rw [if_neg (by omega), if_pos rfl]
    rw [ea] at hQ
    have q1 := hR.2.2 (p / 25) (by omega) (p % 25) (by omega)
    rw [show 25 * (p / 25) + p % 25 = p by omega] at q1
    rw [ix_nI (by omega), q1.2.2.2]
    exact hQ
  · have hl' := hF.2.2.1 l hl
    refine br_eq (b := 2) (by omega) (by omega) (fun z => by omega) (fun _ => ?_)
    refine br_eq (b := 3) (by omega) (by omega) (fun z => by omega) (fun _ => ?_)
    refine br_le (a := 30) (by omega) (by omega) (fun z => by omega) (fun _ => ?_)
    intro x4 e4
    rw [lit 25, lit 10, nI_rem (by omega) (by omega) (by omega), nI_sub (by omega), Nat.add_sub_cancel_left, nI_mul, nI_add, show p' % 25 = i by omega] at e4
    rw [e4]
    refine ⟨vp_in_nI (by omega) (by decide), vp_in_nI (by omega) (by decide), ?_⟩
    rw [if_neg (by omega)] at hQ
    have ea : arO (10 + l) p p' = 300 + (25 * l + i) := by unfold arO; rw [if_neg (by omega), if_neg (by omega), if_pos (by omega), Nat.add_sub_cancel_left, show p' % 25 = i by omega]
    rw [ea, (tn_l (v := v) (R := R) (g := g) (n := n) (l := l) (i := i) (by omega)).2.2, if_pos ⟨hl, s4, s3⟩] at hQ
    have q1 := hR.2.1 l hl i (by omega)
    rw [ix_nI (by omega), q1.1, q1.2, nI_sub (by omega)]
    exact hQ
  · have hl' := hF.2.2.1 l hl
    refine br_eq (b := 2) (by omega) (by omega) (fun z => by omega) (fun _ => ?_)
    refine br_eq (b := 3) (by omega) (by omega) (fun z => by omega) (fun _ => ?_)
    refine br_le (a := 30) (by omega) (by omega) (fun _ => ?_) (fun z => by omega)
    rw [if_pos (by omega)] at hQ
    have ea : arO (30 + l) p p' = 300 + (25 * l + i) := by unfold arO; rw [if_neg (by omega), if_neg (by omega), if_neg (by omega), Nat.add_sub_cancel_left, show p % 25 = i by omega]
    rw [ea] at hQ
    have q1 := hR.2.1 l hl i (by omega)
    rw [lit 25, lit 30, nI_rem (by omega) (by omega) (by omega), nI_sub (by omega), Nat.add_sub_cancel_left, nI_mul, nI_add, show p % 25 = i by omega, ix_nI (by omega), q1.2]
    exact ⟨vp_in_nI (by omega) (by decide), hQ⟩
abbrev cellsG : Nat → Nat → Prop := fun a k => (128 ≤ a ∧ a ≤ 130) ∨ cellsB a k
theorem m_moves {Q : HP → Prop} {p p' how x : Nat} {f0 : Nat → Nat} (hF : WF m B v) (hn : n ≤ 24) (hR : RS v R f h) (hp : p < 25 * vS v) (hp' : p' < 25 * vS v) (hb : gi h 132 p = nI how) (hs : StpR v R g n f0 how p p') (hx : how = 3 ∨ 30 ≤ how → x ≤ f (arO how p p')) (hQ : ∀ h', RS v R (mvO f how p p' x) h' → FrI (fun a _ => a = 129 ∨ a = 130) h h' → Q h') : f_X8_moves (nI p) (nI p') (nI x) h Q := by
  have h6 := hF.1
  unfold mvO at hQ
  unfold f_X8_moves
  refine ⟨vp_in_nI (by omega) (by decide), ?_⟩
  intro x2 e2
  rw [ix_nI (by omega), hb] at e2
  rw [e2]
  rcases hs with ⟨rfl, s2, s3, s4⟩ | ⟨rfl, s2, s3, s4⟩ | ⟨l, i, hl, rfl, e1, e3, s3, s4, s5, s6⟩ | ⟨l, i, hl, rfl, e1, e3, s3, s4, s5, s6⟩
  · refine br_eq (a := 2) (b := 2) (by omega) (by omega) (fun _ => ?_) (fun z => absurd rfl z)
    refine ⟨vp_in_nI (by omega) (by decide), vp_in_nI (by omega) (by decide), ?_⟩
    rw [if_neg (by omega)] at hQ
    have ea : arO 2 p p' = 150 + p' := by unfold arO; rw [if_pos rfl]
    rw [ea] at hQ
    have q1 := hR.2.2 (p' / 25) (by omega) (p' % 25) (by omega)
    rw [show 25 * (p' / 25) + p' % 25 = p' by omega] at q1
    intro h17 e17
    rw [ix_nI (by omega), q1.2.2.2, nI_add] at e17
    exact hQ h17 (by rw [e17]; exact hR.setY h6.2.1 (by omega)) (by rw [e17]; exact FrI.si (Or.inl rfl))
  · refine br_eq (a := 3) (b := 2) (by omega) (by omega) (fun z => by omega) (fun _ => ?_)
    refine br_eq (a := 3) (b := 3) (by omega) (by omega) (fun _ => ?_) (fun z => absurd rfl z)
    refine ⟨vp_in_nI (by omega) (by decide), vp_in_nI (by omega) (by decide), ?_⟩
    rw [if_pos (by omega)] at hQ
    have ea : arO 3 p p' = 150 + p := by unfold arO; rw [if_neg (by omega), if_pos rfl]
    rw [ea] at hQ hx
    have q1 := hR.2.2 (p / 25) (by omega) (p % 25) (by omega)
    rw [show 25 * (p / 25) + p % 25 = p by omega] at q1
    intro h17 e17
    rw [ix_nI (by omega), q1.2.2.2, nI_sub (hx (by omega))] at e17
    exact hQ h17 (by rw [e17]; exact hR.setY h6.2.1 (by omega)) (by rw [e17]; exact FrI.si (Or.inl rfl))
  · have hl' := hF.2.2.1 l hl
    refine br_eq (b := 2) (by omega) (by omega) (fun z => by omega) (fun _ => ?_)
    refine br_eq (b := 3) (by omega) (by omega) (fun z => by omega) (fun _ => ?_)
    refine br_le (a := 30) (by omega) (by omega) (fun z => by omega) (fun _ => ?_)
    rw [lit 25, lit 10, nI_rem (by omega) (by omega) (by omega), nI_sub (by omega), Nat.add_sub_cancel_left, nI_mul, nI_add, show p' % 25 = i by omega]
    refine ⟨vp_in_nI (by omega) (by decide), vp_in_nI (by omega) (by decide), ?_⟩
    rw [if_neg (by omega)] at hQ
    have ea : arO (10 + l) p p' = 300 + (25 * l + i) := by unfold arO; rw [if_neg (by omega), if_neg (by omega), if_pos (by omega), Nat.add_sub_cancel_left, show p' % 25 = i by omega]
    rw [ea] at hQ
    have q1 := hR.2.1 l hl i (by omega)
    intro h17 e17
    rw [ix_nI (by omega), q1.2, nI_add] at e17
    exact hQ h17 (by rw [e17]; exact hR.setG h6.2.1) (by rw [e17]; exact FrI.si (Or.inr rfl))
  · have hl' := hF.2.2.1 l hl
    refine br_eq (b := 2) (by omega) (by omega) (fun z => by omega) (fun _ => ?_)
    refine br_eq (b := 3) (by omega) (by omega) (fun z => by omega) (fun _ => ?_)
    refine br_le (a := 30) (by omega) (by omega) (fun _ => ?_) (fun z => by omega)
    rw [lit 25, lit 30, nI_rem (by omega) (by omega) (by omega), nI_sub (by omega), Nat.add_sub_cancel_left, nI_mul, nI_add, show p % 25 = i by omega]
    refine ⟨vp_in_nI (by omega) (by decide), vp_in_nI (by omega) (by decide), ?_⟩
    rw [if_pos (by omega)] at hQ
    have ea : arO (30 + l) p p' = 300 + (25 * l + i) := by unfold arO; rw [if_neg (by omega), if_neg (by omega), if_neg (by omega), Nat.add_sub_cancel_left, show p % 25 = i by omega]
    rw [ea] at hQ hx
    have q1 := hR.2.1 l hl i (by omega)
    intro h17 e17
    rw [ix_nI (by omega), q1.2, nI_sub (hx (by omega))] at e17
    exact hQ h17 (by rw [e17]; exact hR.setG h6.2.1) (by rw [e17]; exact FrI.si (Or.inr rfl))
end Br
