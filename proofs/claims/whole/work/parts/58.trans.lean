/-! the class's flow as a flow of the world's network -/
def fG (A : Nat) (σ lf : Nat → Nat) (a : Nat) : Nat := sm (fun j => if σ j = a then lf (2 * j + 1) else 0) A
theorem sm_pt {x : Nat → Nat} {n k : Nat} (hk : k < n) (h : ∀ i, i < n → i ≠ k → x i = 0) : sm x n = x k := by
  have := sm_up (F := x) (G := fun _ => 0) hk h
  have e : sm (fun _ => 0) n = 0 := by
    have := sm_bound (f := fun _ => 0) (n := n) (b := 0) (fun _ _ => Nat.le_refl _)
    omega
  omega
theorem sm_0 {x : Nat → Nat} {n : Nat} (h : ∀ i, i < n → x i = 0) : sm x n = 0 := by
  have := sm_bound (f := x) (n := n) (b := 0) (fun i hi => by rw [h i hi]; exact Nat.le_refl _)
  omega
theorem sm_sI {F : Nat → Nat} {n : Nat} : ((sm F n : Nat) : Int) = sI (fun i => (F i : Int)) n := by
  induction n with
  | zero => rfl
  | succ n ih => simp only [sm, sI]; rw [← ih]; omega
def ECl (A : Nat) (en lf : Nat → Nat) (T : Nat → Bool) : Prop := T 151 = true ∧ ∀ e, e < 2 * A → 0 < lf e → T (en (xr e)) = true → T (en e) = true
def EBl (A : Nat) (en lf : Nat → Nat) (T : Nat → Bool) : Prop := T 150 = true ∧ ∀ e, e < 2 * A → 0 < lf e → T (en e) = true → T (en (xr e)) = true
section Tr
variable {N : NW} {A : Nat} {σ en lf : Nat → Nat} {h : HP}
theorem fG_at (hS : PS N A σ en lf) {j : Nat} (hj : j < A) : fG A σ lf (σ j) = lf (2 * j + 1) := by
  unfold fG
  rw [sm_pt hj (fun i hi hn => ?_), if_pos rfl]
  rw [if_neg]
  intro e
  by_cases z : i < j
  · exact hS.2 i j z hj e
  · exact hS.2 j i (by omega) hi e.symm
theorem fG_no {a : Nat} (h : ∀ j, j < A → σ j ≠ a) : fG A σ lf a = 0 := sm_0 (fun j hj => if_neg (h j hj))
theorem ex_fG (hA : nA N = 550) (hS : PS N A σ en lf) (w : Nat) : ex N (fG A σ lf) w = ex (NP A en lf) (fP lf) w := by
  unfold ex
  rw [hA]
  have e1 : sI (fun a => (fG A σ lf a : Int) * dl N a w) 550 = sI (fun a => sI (fun j => (if σ j = a then (lf (2 * j + 1) : Int) else 0) * dl N a w) A) 550 := by
    apply sI_congr
    intro a _
    unfold fG
    rw [sm_sI, Int.mul_comm, ← sI_mul]
    apply sI_congr
    intro j _
    rw [Int.mul_comm]
    congr 1
    split <;> rfl
  rw [e1, sI_swap]
  apply sI_congr
  intro j hj
  have hj' : j < A := hj
  have b := hS.1 j hj'
  rw [sI_pt (x := fun a => (if σ j = a then (lf (2 * j + 1) : Int) else 0) * dl N a w) b.1 (fun a _ hn => by rw [if_neg (fun z => hn z.symm)]; simp), if_pos rfl]
  show _ * ((if nH N (σ j) = w then 1 else 0) - (if nT N (σ j) = w then 1 else 0)) = (lf (2 * j + 1) : Int) * ((if en (2 * j) = w then 1 else 0) - (if en (2 * j + 1) = w then 1 else 0))
  rw [b.2.1, b.2.2.1]
theorem fG_le (hA : nA N = 550) (hS : PS N A σ en lf) : ∀ a, a < nA N → fG A σ lf a ≤ nC N a := by
  intro a _
  by_cases z : ∃ j, j < A ∧ σ j = a
  · obtain ⟨j, j1, j2⟩ := z
    rw [← j2, fG_at hS j1, ← (hS.1 j j1).2.2.2.1]
    omega
  · rw [fG_no (fun j hj q => z ⟨j, hj, q⟩)]; exact Nat.zero_le _
theorem xr_2 (j : Nat) : xr (2 * j) = 2 * j + 1 := by unfold xr; rw [if_pos (by omega)]
theorem xr_21 (j : Nat) : xr (2 * j + 1) = 2 * j := by unfold xr; rw [if_neg (by omega)]; omega
/-- what of a pair of arcs is free, in the world's network -/
theorem tr_res (hA : nA N = 550) (hS : PS N A σ en lf) (hC : PC N A σ (fun _ => False)) (P : Nat → Nat → Prop) : (∀ e, e < 2 * A → 0 < lf e → P (en (xr e)) (en e)) ↔ ∀ a, a < nA N → (fG A σ lf a < nC N a → P (nT N a) (nH N a)) ∧ (0 < fG A σ lf a → P (nH N a) (nT N a)) := by
  constructor
  · intro q a ha
    rw [hA] at ha
    by_cases z : ∃ j, j < A ∧ σ j = a
    · obtain ⟨j, j1, j2⟩ := z
      have b := hS.1 j j1
      rw [← j2, fG_at hS j1, ← b.2.1, ← b.2.2.1, ← b.2.2.2.1]
      refine ⟨fun z2 => ?_, fun z2 => ?_⟩
      · have := q (2 * j) (by omega) (by omega)
        rw [xr_2] at this; exact this
      · have := q (2 * j + 1) (by omega) z2
        rw [xr_21] at this; exact this
    · rw [fG_no (fun j hj q => z ⟨j, hj, q⟩)]
      refine ⟨fun z2 => absurd (hC.1 a ha z2 (fun q => q)) z, fun z2 => by omega⟩
  · intro q e he hl
    have b := hS.1 (e / 2) (by omega)
    have c := q (σ (e / 2)) (by rw [hA]; exact b.1)
    rw [fG_at hS (by omega), ← b.2.1, ← b.2.2.1, ← b.2.2.2.1] at c
    by_cases z : e % 2 = 0
    · have e1 : 2 * (e / 2) = e := by omega
      have e2 : xr e = e + 1 := by unfold xr; rw [if_pos z]
      rw [e1] at c
      rw [e2]
      exact c.1 (by omega)
    · have e1 : 2 * (e / 2) = e - 1 := by omega
      have e3 : 2 * (e / 2) + 1 = e := by omega
      have e2 : xr e = e - 1 := by unfold xr; rw [if_neg z]
      rw [e3, e1] at c
      rw [e2]
      exact c.2 hl
theorem tr_clo (hA : nA N = 550) (hS : PS N A σ en lf) (hC : PC N A σ (fun _ => False)) (T : Nat → Bool) : ECl A en lf T ↔ Clo N 151 (fG A σ lf) T := by
  unfold ECl Clo
  rw [tr_res hA hS hC (fun x y => T x = true → T y = true)]
theorem tr_bcl (hA : nA N = 550) (hS : PS N A σ en lf) (hC : PC N A σ (fun _ => False)) (T : Nat → Bool) : EBl A en lf T ↔ BCl N 150 (fG A σ lf) T := by
  unfold EBl BCl
  rw [tr_res hA hS hC (fun x y => T y = true → T x = true)]
theorem tr_flw (hA : nA N = 550) (hS : PS N A σ en lf) (hf : Flw (NP A en lf) 151 150 (fP lf)) : Flw N 151 150 (fG A σ lf) := ⟨fG_le hA hS, fun w h1 h2 => by rw [ex_fG hA hS]; exact hf.2 w h1 h2⟩
/-- from where goods can still come -/
def lvB (lev : Nat → Nat) (w : Nat) : Bool := decide (w < 152 ∧ lev w ≠ 0)
theorem lvs_ebl {lev : Nat → Nat} (hen : ∀ e, e < 2 * A → en e < 152) (hl : LVS A en lf lev) (h0 : lev 151 = 0) : EBl A en lf (lvB lev) ∧ lvB lev 151 = false ∧ ∀ B2, EBl A en lf B2 → ∀ w, lvB lev w = true → B2 w = true := by
  refine ⟨⟨?_, fun e he hlf hb => ?_⟩, ?_, fun B2 hB w hw => ?_⟩
  · unfold lvB; rw [decide_eq_true_iff]; exact ⟨by omega, by rw [hl.1.1]; omega⟩
  · unfold lvB at hb ⊢
    rw [decide_eq_true_iff] at hb ⊢
    exact ⟨hen _ (xr_lt he), hl.2.2.1 h0 e he hlf hb.2⟩
  · unfold lvB; rw [decide_eq_false_iff_not]; intro q; exact q.2 h0
  · have key : ∀ k w, w < 152 → lev w = k + 1 → B2 w = true := by
      intro k
      induction k with
      | zero => intro w hw hk; rw [hl.1.2.1 w hw hk]; exact hB.1
      | succ k ih =>
        intro w hw hk
        obtain ⟨e, e1, e2, e3, e4, e5⟩ := hl.1.2.2 w hw (by omega)
        have := hB.2 e e1 e3 (ih (en e) (hen e e1) (by omega))
        rw [e2] at this; exact this
    unfold lvB at hw
    rw [decide_eq_true_iff] at hw
    exact key (lev w - 1) w hw.1 (by omega)
/-- a closed set from levels -/
theorem ebl_ecl {T : Nat → Bool} (h : EBl A en lf T) (h0 : T 151 = false) : ECl A en lf (fun w => !T w) ∧ (fun w => !T w) 150 = false := by
  refine ⟨⟨by show (!T 151) = true; rw [h0]; rfl, fun e he hl ht => ?_⟩, by show (!T 150) = false; rw [h.1]; rfl⟩
  have := h.2 e he hl
  have ht' : (!T (en (xr e))) = true := ht
  show (!T (en e)) = true
  cases q : T (en e)
  · rfl
  · rw [this q] at ht'; cases ht'
end Tr
/-- the greatest flow of a network -/
noncomputable def mxF (N : NW) : Nat := Classical.epsilon (fun x => MxV N x)
theorem mxF_eq {N : NW} {x : Nat} (hN : NB N 152) (h : MxV N x) : mxF N = x := by
  have : MxV N (mxF N) := Classical.epsilon_spec (p := fun x => MxV N x) ⟨x, h⟩
  exact this.uniq hN h
/-- its near side -/
def NrV (N : NW) (T : Nat → Bool) : Prop := ∃ f, Mx N 151 150 f T ∧ ∀ T2, Clo N 151 f T2 → ∀ w, T w = true → T2 w = true
noncomputable def nrF (N : NW) : Nat → Bool := Classical.epsilon (fun T => NrV N T)
theorem nrF_eq {N : NW} {T : Nat → Bool} (hN : NB N 152) (h : NrV N T) : ∀ w, nrF N w = T w := by
  have : NrV N (nrF N) := Classical.epsilon_spec (p := fun T => NrV N T) ⟨T, h⟩
  obtain ⟨f, a, b⟩ := this
  obtain ⟨f', a', b'⟩ := h
  exact mx_near hN (by omega) (by omega) (by omega) a a' b b'
section Fd
variable {v : WV} {R : Nat → Nat → Nat} {g n m B A V : Nat} {σ en lf lev : Nat → Nat} {h : HP}
theorem FLD.flw (hd : FLD v R g n A V σ en lf lev h) : Flw (tn v R g n) 151 150 (fG A σ lf) ∧ ex (tn v R g n) (fG A σ lf) 150 = (V : Int) := ⟨tr_flw rfl hd.1.2.1 hd.1.2.2.2.1, by rw [ex_fG rfl hd.1.2.1]; exact hd.2.2.2.2.1⟩
theorem FLD.enb (hd : FLD v R g n A V σ en lf lev h) : ∀ e, e < 2 * A → en e < 152 := fun e he => (hd.1.1.2.1 e he).2.1
theorem FLD.bcl (hd : FLD v R g n A V σ en lf lev h) : BCl (tn v R g n) 150 (fG A σ lf) (lvB lev) ∧ lvB lev 151 = false ∧ ∀ B2, BCl (tn v R g n) 150 (fG A σ lf) B2 → ∀ w, lvB lev w = true → B2 w = true := by
  have q := lvs_ebl hd.enb hd.2.2.2.2.2.1 hd.2.2.2.2.2.2.1
  refine ⟨(tr_bcl rfl hd.1.2.1 hd.1.2.2.1 _).mp q.1, q.2.1, fun B2 hB => q.2.2 B2 ((tr_bcl rfl hd.1.2.1 hd.1.2.2.1 _).mpr hB)⟩
theorem FLD.mx (hd : FLD v R g n A V σ en lf lev h) : Mx (tn v R g n) 151 150 (fG A σ lf) (fun w => !lvB lev w) := by
  have q := lvs_ebl hd.enb hd.2.2.2.2.2.1 hd.2.2.2.2.2.2.1
  have c := ebl_ecl q.1 q.2.1
  exact ⟨hd.flw.1, (tr_clo rfl hd.1.2.1 hd.1.2.2.1 _).mp c.1, c.2⟩
theorem FLD.mxv (hd : FLD v R g n A V σ en lf lev h) : MxV (tn v R g n) V := ⟨_, _, hd.mx, hd.flw.2⟩
end Fd
