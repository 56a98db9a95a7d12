/-! a path is filled -/
def pnd (en P : Nat → Nat) : Nat → Nat
  | 0 => 151
  | j + 1 => en (P j)
/-- a path of D arcs down the levels -/
def PTH (A : Nat) (en lf lev P : Nat → Nat) (d D : Nat) : Prop := (∀ j, j < D → P j < 2 * A ∧ en (xr (P j)) = pnd en P j ∧ 0 < lf (P j)) ∧ (∀ j, j ≤ D → pnd en P j < 152 ∧ lev (pnd en P j) + j = d ∧ 1 ≤ lev (pnd en P j))
section Pu
variable {A : Nat} {en lf lev P : Nat → Nat} {d D : Nat} {h : HP} {Q : Int32 → HP → Prop}
theorem PTH.ne (hp : PTH A en lf lev P d D) {i j : Nat} (hij : i < j) (hj : j < D) : P i ≠ P j := by
  intro e
  have h1 := (hp.1 i (by omega)).2.1
  have h2 := (hp.1 j hj).2.1
  rw [e, h2] at h1
  have h3 := hp.2 i (by omega)
  have h4 := hp.2 j (by omega)
  rw [h1] at h4
  omega
theorem PTH.nx (hp : PTH A en lf lev P d D) {i j : Nat} (hi : i < D) (hj : j < D) : P i ≠ xr (P j) := by
  intro e
  have h1 := (hp.1 i hi).2.1
  have h2 := (hp.1 j hj).2.1
  have e1 : pnd en P i = pnd en P (j + 1) := by rw [← h1, e, xr_xr]; rfl
  have e2 : pnd en P (i + 1) = pnd en P j := by rw [← h2, ← e]; rfl
  have h3 := hp.2 i (by omega)
  have h4 := hp.2 j (by omega)
  have h5 := hp.2 (i + 1) (by omega)
  have h6 := hp.2 (j + 1) (by omega)
  rw [e1] at h3
  rw [e2] at h5
  omega
/-- an arc carries x more -/
def shf (lf : Nat → Nat) (e x : Nat) : Nat → Nat := upN (upN lf e (lf e - x)) (xr e) (lf (xr e) + x)
theorem shf_e {e x : Nat} : shf lf e x e = lf e - x := by unfold shf; rw [upN_ne (fun z => xr_ne e z.symm), upN_eq]
theorem shf_x {e x : Nat} : shf lf e x (xr e) = lf (xr e) + x := by unfold shf; rw [upN_eq]
theorem shf_o {e x i : Nat} (h1 : i ≠ e) (h2 : i ≠ xr e) : shf lf e x i = lf i := by unfold shf; rw [upN_ne h2, upN_ne h1]
theorem ex_shf {e x w : Nat} (he : e < 2 * A) (hx : x ≤ lf e) : ex (NP A en (shf lf e x)) (fP (shf lf e x)) w = ex (NP A en lf) (fP lf) w + (x : Int) * (bi (en e) w - bi (en (xr e)) w) := by
  have hj : e / 2 < A := by omega
  unfold ex
  show sI (fun j => ((shf lf e x (2 * j + 1) : Nat) : Int) * dl (NP A en lf) j w) A = sI (fun j => ((lf (2 * j + 1) : Nat) : Int) * dl (NP A en lf) j w) A + _
  rw [sI_up (G := fun j => ((lf (2 * j + 1) : Nat) : Int) * dl (NP A en lf) j w) hj (fun i hi hn => ?_)]
  · congr 1
    rw [← Int.sub_mul]
    show _ * (bi (en (2 * (e / 2))) w - bi (en (2 * (e / 2) + 1)) w) = _
    by_cases z : e % 2 = 0
    · have e1 : xr e = 2 * (e / 2) + 1 := by unfold xr; rw [if_pos z]; omega
      have e2 : e = 2 * (e / 2) := by omega
      rw [← e1, shf_x, ← e2, show ((lf (xr e) + x : Nat) : Int) - (lf (xr e) : Int) = (x : Int) by omega]
    · have e1 : xr e = 2 * (e / 2) := by unfold xr; rw [if_neg z]; omega
      have e2 : e = 2 * (e / 2) + 1 := by omega
      rw [← e2, ← e1, shf_e, show ((lf e - x : Nat) : Int) - (lf e : Int) = -(x : Int) by omega, Int.neg_mul, ← Int.mul_neg]
      congr 1
      omega
  · show ((shf lf e x (2 * i + 1) : Nat) : Int) * _ = _
    rw [shf_o (by omega) (fun z => hn (by have := xr_div e; omega))]
abbrev cellsP : Nat → Nat → Prop := fun a k => a = 92 ∨ (a = 88 ∧ k = 5)
theorem AR.shf {e x : Nat} {h1 : HP} {t : Nat → Nat} (hA : AR (2 * A) t en lf h) (he : e < 2 * A) (e1 : h1 = si (si h 92 e (nI (lf e - x))) 92 (xr e) (nI (lf (xr e) + x))) : AR (2 * A) t en (shf lf e x) h1 := by
  obtain ⟨⟨a1, a2⟩, b, c⟩ := hA
  have up : ∀ a k, ¬ a = 92 → gi h1 a k = gi h a k := fun a k z => by rw [e1, gi_si, if_neg (fun q => z q.1), gi_si, if_neg (fun q => z q.1)]
  refine ⟨⟨a1, by rw [up _ _ (by omega)]; exact a2⟩, fun i hi => ⟨(b i hi).1, (b i hi).2.1, ?_, ?_, ?_⟩, fun w hw => ?_⟩
  · rw [up _ _ (by omega)]; exact (b i hi).2.2.1
  · rw [e1, gi_si, gi_si]
    by_cases z : i = xr e
    · rw [if_pos ⟨rfl, z⟩, z, shf_x]
    · rw [if_neg (fun q => z q.2)]
      by_cases z2 : i = e
      · rw [if_pos ⟨rfl, z2⟩, z2, shf_e]
      · rw [if_neg (fun q => z2 q.2), shf_o z2 z]; exact (b i hi).2.2.2.1
  · rw [up _ _ (by omega)]; exact (b i hi).2.2.2.2
  · rw [up _ _ (by omega)]; exact c w hw
/-- what a push has done: lf2 behind it, g goods, full the first arc that is full -/
def PSH (A : Nat) (en lf lf2 P : Nat → Nat) (D g fu : Nat) : Prop := 1 ≤ g ∧ fu < D ∧ lf (P fu) = g ∧ (∀ j, j < fu → g < lf (P j)) ∧ (∀ j, j < D → lf2 (P j) = lf (P j) - g ∧ g ≤ lf (P j) ∧ lf2 (xr (P j)) = lf (xr (P j)) + g) ∧ (∀ e, (∀ j, j < D → e ≠ P j ∧ e ≠ xr (P j)) → lf2 e = lf e) ∧ ∀ w, ex (NP A en lf2) (fP lf2) w = ex (NP A en lf) (fP lf) w + (g : Int) * (bi 150 w - bi 151 w)
theorem c_push {F : Nat} (hA : AR (2 * A) (fun e => en (xr e)) en lf h) (hlb : ∀ e, e < 2 * A → lf e + lf (xr e) ≤ 4000000) (hp : PTH A en lf lev P d D) (hD : 0 < D) (hD2 : D ≤ 151) (hs : pnd en P D = 150) (hpa : ∀ j, j < D → gi h 96 j = nI (P j)) (hfl : gi h 88 5 = nI F)
    (hQ : ∀ lf2 g fu h', PSH A en lf lf2 P D g fu → AR (2 * A) (fun e => en (xr e)) en lf2 h' → gi h' 88 5 = nI (F + g) → FrI cellsP h h' → Q (nI fu) h') : f_X1_push (nI D) h Q := by
  have hA1 := hA.1.1
  unfold f_X1_push
  have l0 : ∀ j, j < D → lf (P j) ≤ 4000000 := fun j hj => by have := hlb (P j) (hp.1 j hj).1; omega
  have second : ∀ g, 1 ≤ g → (∀ j, j < D → g ≤ lf (P j)) → (∃ j, j < D ∧ lf (P j) = g) → ∀ x4 : Int32, x4 = nI D - 1 → ∃ c, f_X1_push_L39 (nI g) Q c 0 x4 h := by
    intro g g1 g2 g3 x4 e4
    -- i arcs are still to go: the machine's counter is i - 1
    have key : ∀ i, i ≤ D → ∀ cur fu h1, AR (2 * A) (fun e => en (xr e)) en cur h1 → FrI (fun a _ => a = 92) h h1 → (∀ j, j < i → cur (P j) = lf (P j) ∧ cur (xr (P j)) = lf (xr (P j))) → (∀ j, i ≤ j → j < D → cur (P j) = lf (P j) - g ∧ cur (xr (P j)) = lf (xr (P j)) + g) → (∀ e, (∀ j, j < D → e ≠ P j ∧ e ≠ xr (P j)) → cur e = lf e) → ((∃ j, i ≤ j ∧ j < D ∧ lf (P j) = g) → i ≤ fu ∧ fu < D ∧ lf (P fu) = g ∧ ∀ j, i ≤ j → j < fu → lf (P j) ≠ g) → fu < 152 → (∀ w, ex (NP A en cur) (fP cur) w = ex (NP A en lf) (fP lf) w + (g : Int) * (bi 150 w - bi (pnd en P i) w)) → f_X1_push_L39 (nI g) Q (i + 1) (nI fu) (cd i) h1 := by
      intro i
      induction i with
      | zero =>
        intro _ cur fu h1 k1 k2 k3 k4 k5 k6 k6b k7
        unfold f_X1_push_L39
        refine ⟨fun _ => ?_, fun z => absurd (by decide +kernel) z⟩
        intro h10 e10
        have g10 : gi h1 88 5 = nI F := by rw [k2.1 _ _ (by omega)]; exact hfl
        rw [g10, nI_add] at e10
        obtain ⟨j, j1, j2⟩ := g3
        have k6' := k6 ⟨j, by omega, j1, j2⟩
        have f10 : FrI (fun a k => a = 88 ∧ k = 5) h1 h10 := by rw [e10]; exact FrI.si ⟨rfl, rfl⟩
        refine hQ cur g fu h10 ⟨g1, k6'.2.1, k6'.2.2.1, fun j hj => ?_, fun j hj => ⟨(k4 j (by omega) hj).1, g2 j hj, (k4 j (by omega) hj).2⟩, k5, k7⟩ (k1.frame f10 (by intro x k; omega)) (by rw [e10, gi_si, if_pos ⟨rfl, rfl⟩]) ((k2.mono (fun _ _ z => Or.inl z)).trans (f10.mono (fun _ _ z => Or.inr z)))
        have a1 := g2 j (by omega)
        have a2 := k6'.2.2.2 j (by omega) hj
        omega
      | succ i ih =>
        intro hi cur fu h1 k1 k2 k3 k4 k5 k6 k6b k7
        have pi := hp.1 i (by omega)
        have xl := xr_lt pi.1
        unfold f_X1_push_L39
        rw [cd_s]
        refine br_lt (b := 0) (by omega) (by omega) (fun z => by omega) (fun _ => ?_)
        have pg : ∀ h', FrI (fun a _ => a = 92) h h' → gi h' 96 i = nI (P i) := fun h' f => by rw [f.1 _ _ (by omega)]; exact hpa i (by omega)
        have ci := k3 i (by omega)
        have gi2 := g2 i (by omega)
        have li0 := l0 i (by omega)
        rw [ix_nI (by omega), pg h1 k2, ix_nI (by omega), (k1.2.1 _ pi.1).2.2.2.1, nI_sub (by omega)]
        have vi : vp_in (nI i) 152 := vp_in_nI (by omega) (by decide)
        have vP : vp_in (nI (P i)) 1068 := vp_in_nI (by omega) (by decide)
        refine ⟨vi, vP, vP, ?_⟩
        intro h14 e14
        have f14 : FrI (fun a _ => a = 92) h1 h14 := by rw [e14]; exact FrI.si rfl
        have x14 : gi h14 92 (xr (P i)) = nI (cur (xr (P i))) := by
          rw [e14, gi_si, if_neg (fun z => xr_ne _ z.2)]; exact (k1.2.1 _ xl).2.2.2.1
        rw [pg h14 (k2.trans f14), nI_xor (by omega), ix_nI (by omega), x14, nI_add]
        have vX : vp_in (nI (xr (P i))) 1068 := vp_in_nI (by omega) (by decide)
        refine ⟨vi, vX, vX, ?_⟩
        intro h18 e18
        have f18 : FrI (fun a _ => a = 92) h14 h18 := by rw [e18]; exact FrI.si rfl
        have A18 : AR (2 * A) (fun e => en (xr e)) en (shf cur (P i) g) h18 := k1.shf pi.1 (by rw [e18, e14])
        rw [pg h18 ((k2.trans f14).trans f18), ix_nI (by omega), (A18.2.1 _ pi.1).2.2.2.1, shf_e]
        refine ⟨vi, vP, ?_⟩
        have o1 : ∀ j, j < D → j ≠ i → P j ≠ P i ∧ P j ≠ xr (P i) ∧ xr (P j) ≠ P i ∧ xr (P j) ≠ xr (P i) := by
          intro j hj hji
          have n1 : P j ≠ P i := by
            by_cases z : j < i
            · exact hp.ne z (by omega)
            · exact fun q => hp.ne (i := i) (j := j) (by omega) hj q.symm
          refine ⟨n1, hp.nx hj (by omega), fun q => hp.nx (i := i) (j := j) (by omega) hj q.symm, fun q => n1 ?_⟩
          rw [← xr_xr (P j), q, xr_xr]
        have st : ∀ fu2, fu2 < 152 → ((∃ j, i ≤ j ∧ j < D ∧ lf (P j) = g) → i ≤ fu2 ∧ fu2 < D ∧ lf (P fu2) = g ∧ ∀ j, i ≤ j → j < fu2 → lf (P j) ≠ g) → ∀ x : Int32, x = nI i + (-1) → f_X1_push_L39 (nI g) Q (i + 1) (nI fu2) x h18 := by
          intro fu2 q1 q2 x ex
          have ex' : x = cd i := by rw [ex]; unfold cd; rw [Int32.sub_eq_add_neg]
          rw [ex']
          refine ih (by omega) (shf cur (P i) g) fu2 h18 A18 ((k2.trans f14).trans f18) (fun j hj => ?_) (fun j h1 h2 => ?_) (fun e he => ?_) q2 q1 (fun w => ?_)
          · have o := o1 j (by omega) (by omega)
            rw [shf_o o.1 o.2.1, shf_o o.2.2.1 o.2.2.2]; exact k3 j (by omega)
          · by_cases z : j = i
            · rw [z, shf_e, shf_x, ci.1, ci.2]; exact ⟨rfl, rfl⟩
            · have o := o1 j h2 z
              rw [shf_o o.1 o.2.1, shf_o o.2.2.1 o.2.2.2]; exact k4 j (by omega) h2
          · have := he i (by omega)
            rw [shf_o this.1 this.2]; exact k5 e he
          · rw [ex_shf pi.1 (by omega), k7 w, pi.2.1, Int.add_assoc, ← Int.mul_add]
            congr 2
            show bi 150 w - bi (en (P i)) w + (bi (en (P i)) w - bi (pnd en P i) w) = _
            omega
        refine br_eq (b := 0) (by omega) (by omega) (fun z => st i (by omega) (fun _ => ⟨Nat.le_refl _, by omega, by omega, fun j h1 h2 => by omega⟩)) (fun z => st fu k6b (fun q => ?_))
        obtain ⟨j, j1, j2, j3⟩ := q
        have ji : j ≠ i := fun z2 => by rw [z2] at j3; omega
        have k6' := k6 ⟨j, by omega, j2, j3⟩
        refine ⟨by omega, k6'.2.1, k6'.2.2.1, fun j' h1 h2 => ?_⟩
        by_cases z3 : j' = i
        · rw [z3]; omega
        · exact k6'.2.2.2 j' (by omega) h2
    refine ⟨D + 1, ?_⟩
    rw [e4]
    refine key D (Nat.le_refl _) lf 0 h hA FrI.rf (fun j _ => ⟨rfl, rfl⟩) (fun j h1 h2 => by omega) (fun _ _ => rfl) (fun q => by obtain ⟨j, q1, q2, _⟩ := q; omega) (by omega) (fun w => ?_)
    rw [hs, Int.sub_self, Int.mul_zero, Int.add_zero]
  have first := loop_up (L := fun c i => ∀ g, ((i = 0 ∧ g = 2147483647) ∨ (1 ≤ g ∧ g ≤ 4000000 ∧ (∀ j, j < i → g ≤ lf (P j)) ∧ ∃ j, j < i ∧ lf (P j) = g)) → f_X1_push_L5 (nI D) (fun x2_6 h7 => ∀ x4_8 : Int32, x4_8 = (nI D - 1) → ∃ n24, f_X1_push_L39 x2_6 Q n24 0 x4_8 h7) Q c (nI g) (nI i) h) D 0 (by omega) (fun c g hg => ?_) (fun i c _ hi ih g hg => ?_)
  · obtain ⟨c, hc⟩ := first
    exact ⟨c, hc 2147483647 (Or.inl ⟨rfl, rfl⟩)⟩
  · unfold f_X1_push_L5
    refine br_le (by omega) (by omega) (fun _ => ?_) (fun z => by omega)
    rcases hg with hg | ⟨g1, _, g2, g3⟩
    · omega
    · exact second g g1 g2 g3
  · unfold f_X1_push_L5
    refine br_le (by omega) (by omega) (fun z => by omega) (fun _ => ⟨vp_in_nI (by omega) (by decide), ?_⟩)
    have pi := hp.1 i hi
    have li := l0 i hi
    rw [ix_nI (by omega), hpa i hi, ix_nI (by omega), (hA.2.1 _ pi.1).2.2.2.1]
    refine ⟨vp_in_nI (by omega) (by decide), ?_⟩
    intro x2 e2 x3 e3
    rw [e3, nI_1]
    have hg' : g < 2 ^ 31 := by rcases hg with hg | hg <;> omega
    by_cases z : lf (P i) < g
    · rw [if_pos (nI_lt z hg')] at e2
      rw [e2]
      refine ih _ (Or.inr ⟨by omega, by omega, fun j hj => ?_, i, by omega, rfl⟩)
      by_cases z2 : j = i
      · rw [z2]; exact Nat.le_refl _
      · rcases hg with hg | ⟨g1, g0, g2, g3⟩
        · omega
        · have := g2 j (by omega); omega
    · rw [if_neg (nI_nlt (by omega) (by omega))] at e2
      rw [e2]
      rcases hg with hg | ⟨g1, g0, g2, j0, j1, j2⟩
      · omega
      · refine ih _ (Or.inr ⟨g1, g0, fun j hj => ?_, j0, by omega, j2⟩)
        by_cases z2 : j = i
        · rw [z2]; omega
        · exact g2 j (by omega)
end Pu
