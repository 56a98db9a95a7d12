/-! relaxing, pure: D, by, the time of the last change -/
def xt (v : WV) (e : Nat) : Nat := if e % 2 = 0 then vl v (e / 2) 1 else vl v (e / 2) 2
def xh (v : WV) (e : Nat) : Nat := if e % 2 = 0 then vl v (e / 2) 2 else vl v (e / 2) 1
def xro (v : WV) (l : Nat) : Nat := roomL v l (vT v) 0
def xrs (v : WV) (F : Nat → Nat) (e : Nat) : Prop := if e % 2 = 0 then F (e / 2) < xro v (e / 2) else 0 < F (e / 2)
abbrev RX : Type := (Nat → Nat) × (Nat → Nat) × (Nat → Nat)
def xnw (v : WV) (D : Nat → Nat) (e : Nat) : Nat := if e % 2 = 0 then D (xt v e) + takesL v (e / 2) else D (xt v e) - takesL v (e / 2)
def ximp (v : WV) (F : Nat → Nat) (D : Nat → Nat) (e : Nat) : Prop := D (xt v e) ≠ 1000000 ∧ xrs v F e ∧ xnw v D e < D (xh v e)
def xup (f : Nat → Nat) (s x : Nat) : Nat → Nat := fun s' => if s' = s then x else f s'
noncomputable def rlx (v : WV) (F : Nat → Nat) (i e : Nat) (x : RX) : RX := by
  classical exact if ximp v F x.1 e then (xup x.1 (xh v e) (xnw v x.1 e), xup x.2.1 (xh v e) e, xup x.2.2 (xh v e) (i + 1)) else x
/-- a closed set with potentials -/
def Pot (v : WV) (F : Nat → Nat) (a : Nat) (T : Nat → Prop) (π : Nat → Nat) : Prop := (T a ∧ π a = 0) ∧ ∀ e, e < 2 * vL v → xrs v F e → T (xt v e) → T (xh v e) ∧ (if e % 2 = 0 then π (xh v e) ≤ π (xt v e) + takesL v (e / 2) else π (xh v e) + takesL v (e / 2) ≤ π (xt v e))
def RI (v : WV) (F : Nat → Nat) (a : Nat) (T : Nat → Prop) (π : Nat → Nat) (i : Nat) (x : RX) : Prop :=
  (x.1 a = 0 ∧ x.2.2 a = 0) ∧ (∀ s, x.1 s ≤ 1000000 ∧ x.2.2 s ≤ i ∧ (x.1 s ≠ 1000000 → T s ∧ π s ≤ x.1 s)) ∧
  ∀ s, s ≠ a → x.1 s ≠ 1000000 → x.2.1 s < 2 * vL v ∧ xh v (x.2.1 s) = s ∧ xrs v F (x.2.1 s) ∧ x.1 (xt v (x.2.1 s)) ≠ 1000000 ∧ xnw v x.1 (x.2.1 s) ≤ x.1 s ∧ (xnw v x.1 (x.2.1 s) = x.1 s → x.2.2 (xt v (x.2.1 s)) < x.2.2 s)
section Rx
variable {v : WV} {F : Nat → Nat} {a i e : Nat} {T : Nat → Prop} {π : Nat → Nat} {x : RX}
theorem xt_ne {m B : Nat} (hF : WF m B v) (he : e < 2 * vL v) : xt v e ≠ xh v e := by
  have q := (hF.2.2.1 (e / 2) (by omega)).2.2.2.1
  unfold xt xh
  split
  · exact q
  · exact fun z => q z.symm
theorem xnw_c {D D' : Nat → Nat} (h : D (xt v e) = D' (xt v e)) : xnw v D e = xnw v D' e := by unfold xnw; rw [h]
theorem xnw_lt {D D' : Nat → Nat} (h : D (xt v e) < D' (xt v e)) (ht : e % 2 = 0 ∨ takesL v (e / 2) ≤ D (xt v e)) : xnw v D e < xnw v D' e := by
  unfold xnw
  split
  · omega
  · omega
theorem RI.rlx {m B : Nat} (hF : WF m B v) (hP : Pot v F a T π) (he : e < 2 * vL v) (hI : RI v F a T π i x) : RI v F a T π (i + 1) (rlx v F i e x) := by
  obtain ⟨⟨a1, a2⟩, r2, r4⟩ := hI
  unfold Jvm.Pilot.CGoodsUnderWayLaw_law_r2379_0ca203.rlx
  by_cases z : ximp v F x.1 e
  · rw [if_pos z]
    obtain ⟨z1, z2, z3⟩ := z
    have ne := xt_ne hF he
    have wa : xh v e ≠ a := fun q => by rw [q, a1] at z3; omega
    have pu := (r2 (xt v e)).2.2 z1
    have pe := hP.2 e he z2 pu.1
    have ln : xnw v x.1 e < 1000000 := Nat.lt_of_lt_of_le z3 (r2 _).1
    have pw : π (xh v e) ≤ xnw v x.1 e := by
      have q := pe.2
      unfold xnw
      split
      · rename_i k; rw [if_pos k] at q; omega
      · rename_i k; rw [if_neg k] at q; omega
    refine ⟨⟨?_, ?_⟩, fun s => ?_, fun s hs hf => ?_⟩
    · show xup x.1 (xh v e) (xnw v x.1 e) a = 0
      unfold xup; rw [if_neg (fun q => wa q.symm)]; exact a1
    · show xup x.2.2 (xh v e) (i + 1) a = 0
      unfold xup; rw [if_neg (fun q => wa q.symm)]; exact a2
    · show xup x.1 (xh v e) (xnw v x.1 e) s ≤ 1000000 ∧ xup x.2.2 (xh v e) (i + 1) s ≤ i + 1 ∧ (xup x.1 (xh v e) (xnw v x.1 e) s ≠ 1000000 → T s ∧ π s ≤ xup x.1 (xh v e) (xnw v x.1 e) s)
      unfold xup
      by_cases q : s = xh v e
      · rw [if_pos q, if_pos q]
        exact ⟨by omega, Nat.le_refl _, fun _ => ⟨by rw [q]; exact pe.1, by rw [q]; exact pw⟩⟩
      · rw [if_neg q, if_neg q]
        exact ⟨(r2 s).1, Nat.le_succ_of_le (r2 s).2.1, (r2 s).2.2⟩
    · have hf' : xup x.1 (xh v e) (xnw v x.1 e) s ≠ 1000000 := hf
      show xup x.2.1 (xh v e) e s < 2 * vL v ∧ xh v (xup x.2.1 (xh v e) e s) = s ∧ xrs v F (xup x.2.1 (xh v e) e s) ∧ xup x.1 (xh v e) (xnw v x.1 e) (xt v (xup x.2.1 (xh v e) e s)) ≠ 1000000 ∧ xnw v (xup x.1 (xh v e) (xnw v x.1 e)) (xup x.2.1 (xh v e) e s) ≤ xup x.1 (xh v e) (xnw v x.1 e) s ∧ (xnw v (xup x.1 (xh v e) (xnw v x.1 e)) (xup x.2.1 (xh v e) e s) = xup x.1 (xh v e) (xnw v x.1 e) s → xup x.2.2 (xh v e) (i + 1) (xt v (xup x.2.1 (xh v e) e s)) < xup x.2.2 (xh v e) (i + 1) s)
      by_cases q : s = xh v e
      · have e1 : xup x.2.1 (xh v e) e s = e := if_pos q
        have e2 : xup x.1 (xh v e) (xnw v x.1 e) s = xnw v x.1 e := if_pos q
        have e3 : xup x.2.2 (xh v e) (i + 1) s = i + 1 := if_pos q
        have e4 : xup x.1 (xh v e) (xnw v x.1 e) (xt v e) = x.1 (xt v e) := if_neg ne
        have e5 : xup x.2.2 (xh v e) (i + 1) (xt v e) = x.2.2 (xt v e) := if_neg ne
        have e6 : xnw v (xup x.1 (xh v e) (xnw v x.1 e)) e = xnw v x.1 e := xnw_c e4
        rw [e1, e2, e3, e4, e5, e6]
        exact ⟨he, q.symm, z2, z1, Nat.le_refl _, fun _ => Nat.lt_succ_of_le (r2 _).2.1⟩
      · have e1 : xup x.2.1 (xh v e) e s = x.2.1 s := if_neg q
        have e2 : xup x.1 (xh v e) (xnw v x.1 e) s = x.1 s := if_neg q
        have e3 : xup x.2.2 (xh v e) (i + 1) s = x.2.2 s := if_neg q
        rw [e1, e2, e3]
        rw [e2] at hf'
        obtain ⟨b1, b2, b3, b4, b5, b6⟩ := r4 s hs hf'
        by_cases k : xt v (x.2.1 s) = xh v e
        · have e4 : xup x.1 (xh v e) (xnw v x.1 e) (xt v (x.2.1 s)) = xnw v x.1 e := if_pos k
          have pt := hP.2 _ b1 b3 (by rw [k]; exact pe.1)
          have lt : xnw v (xup x.1 (xh v e) (xnw v x.1 e)) (x.2.1 s) < xnw v x.1 (x.2.1 s) := by
            have pq := pt.2
            rw [k] at pq
            refine xnw_lt (by rw [e4, k]; exact z3) ?_
            by_cases k2 : x.2.1 s % 2 = 0
            · exact Or.inl k2
            · rw [if_neg k2] at pq
              rw [e4]
              exact Or.inr (by omega)
          rw [e4]
          exact ⟨b1, b2, b3, by omega, by omega, fun z => by omega⟩
        · have e4 : xup x.1 (xh v e) (xnw v x.1 e) (xt v (x.2.1 s)) = x.1 (xt v (x.2.1 s)) := if_neg k
          have e5 : xup x.2.2 (xh v e) (i + 1) (xt v (x.2.1 s)) = x.2.2 (xt v (x.2.1 s)) := if_neg k
          have e6 : xnw v (xup x.1 (xh v e) (xnw v x.1 e)) (x.2.1 s) = xnw v x.1 (x.2.1 s) := xnw_c e4
          rw [e4, e5, e6]
          exact ⟨b1, b2, b3, b4, b5, b6⟩
  · rw [if_neg z]
    exact ⟨⟨a1, a2⟩, fun s => ⟨(r2 s).1, Nat.le_succ_of_le (r2 s).2.1, (r2 s).2.2⟩, r4⟩
end Rx
