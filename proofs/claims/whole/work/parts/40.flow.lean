/-! L4: flows and cuts -/
def sI (F : Nat → Int) : Nat → Int
  | 0 => 0
  | n + 1 => sI F n + F n
theorem sI_congr {F G : Nat → Int} {n : Nat} (h : ∀ i, i < n → F i = G i) : sI F n = sI G n := by
  induction n with
  | zero => rfl
  | succ n ih => rw [sI, sI, ih (fun i hi => h i (by omega)), h n (by omega)]
theorem sI_add {F G : Nat → Int} {n : Nat} : sI (fun i => F i + G i) n = sI F n + sI G n := by
  induction n with
  | zero => rfl
  | succ n ih => simp only [sI]; rw [ih]; omega
theorem sI_mul {c : Int} {F : Nat → Int} {n : Nat} : sI (fun i => c * F i) n = c * sI F n := by
  induction n with
  | zero => simp [sI]
  | succ n ih => simp only [sI]; rw [ih, Int.mul_add]
theorem sI_0 {F : Nat → Int} {n : Nat} (h : ∀ i, i < n → F i = 0) : sI F n = 0 := by
  induction n with
  | zero => rfl
  | succ n ih => simp only [sI]; rw [ih (fun i hi => h i (by omega)), h n (by omega)]; rfl
theorem sI_le {F G : Nat → Int} {n : Nat} (h : ∀ i, i < n → F i ≤ G i) : sI F n ≤ sI G n := by
  induction n with
  | zero => exact Int.le_refl _
  | succ n ih =>
    simp only [sI]
    have h1 := ih (fun i hi => h i (by omega))
    have h2 := h n (by omega)
    omega
theorem sI_eq {F G : Nat → Int} {n : Nat} (h : ∀ i, i < n → F i ≤ G i) (e : sI F n = sI G n) : ∀ i, i < n → F i = G i := by
  induction n with
  | zero => intro i hi; omega
  | succ n ih =>
    intro i hi
    simp only [sI] at e
    have h1 := sI_le (F := F) (G := G) (n := n) (fun i hi => h i (by omega))
    have h2 := h n (by omega)
    by_cases q : i = n
    · subst q; omega
    · exact ih (fun i hi => h i (by omega)) (by omega) i (by omega)
theorem sI_up {F G : Nat → Int} {n k : Nat} (hk : k < n) (h : ∀ i, i < n → i ≠ k → F i = G i) : sI F n = sI G n + (F k - G k) := by
  induction n with
  | zero => omega
  | succ n ih =>
    simp only [sI]
    by_cases q : k = n
    · subst q
      rw [sI_congr (F := F) (G := G) (fun i hi => h i (by omega) (by omega))]; omega
    · rw [ih (by omega) (fun i hi hn => h i (by omega) hn), h n (by omega) (by omega)]; omega
theorem sI_swap {F : Nat → Nat → Int} {m n : Nat} : sI (fun i => sI (fun j => F i j) n) m = sI (fun j => sI (fun i => F i j) m) n := by
  induction m with
  | zero => simp only [sI]; exact (sI_0 (fun _ _ => rfl)).symm
  | succ m ih => simp only [sI]; rw [ih, ← sI_add]
theorem sI_pt {x : Nat → Int} {n k : Nat} (hk : k < n) (h : ∀ i, i < n → i ≠ k → x i = 0) : sI x n = x k := by
  rw [sI_up (G := fun _ => 0) hk h, sI_0 (fun _ _ => rfl)]; omega
theorem sI_pt2 {x : Nat → Int} {n k l : Nat} (hk : k < n) (hl : l < n) (hkl : k ≠ l) (h : ∀ i, i < n → i ≠ k → i ≠ l → x i = 0) : sI x n = x k + x l := by
  rw [sI_up (G := fun i => if i = l then x l else 0) hk (fun i hi hn => ?_), sI_pt hl (fun i hi hn => if_neg hn), if_pos rfl, if_neg hkl]
  · omega
  · by_cases q : i = l
    · rw [if_pos q, q]
    · rw [if_neg q]; exact h i hi hn q
/-- a network: how many arcs; their tails, heads, rooms -/
abbrev NW : Type := Nat × (Nat → Nat) × (Nat → Nat) × (Nat → Nat)
def nA (N : NW) : Nat := N.1
def nT (N : NW) : Nat → Nat := N.2.1
def nH (N : NW) : Nat → Nat := N.2.2.1
def nC (N : NW) : Nat → Nat := N.2.2.2
def dl (N : NW) (a v : Nat) : Int := (if nH N a = v then 1 else 0) - (if nT N a = v then 1 else 0)
/-- what more comes to a node than goes from it -/
def ex (N : NW) (f : Nat → Nat) (v : Nat) : Int := sI (fun a => (f a : Int) * dl N a v) (nA N)
def Flw (N : NW) (s t : Nat) (f : Nat → Nat) : Prop := (∀ a, a < nA N → f a ≤ nC N a) ∧ ∀ v, v ≠ s → v ≠ t → ex N f v = 0
def NB (N : NW) (n : Nat) : Prop := ∀ a, a < nA N → 0 < nC N a → nH N a < n ∧ nT N a < n
/-- residual arcs lead from T to T -/
def Clo (N : NW) (s : Nat) (f : Nat → Nat) (T : Nat → Bool) : Prop := T s = true ∧ ∀ a, a < nA N → (f a < nC N a → T (nT N a) = true → T (nH N a) = true) ∧ (0 < f a → T (nH N a) = true → T (nT N a) = true)
def BCl (N : NW) (t : Nat) (f : Nat → Nat) (B : Nat → Bool) : Prop := B t = true ∧ ∀ a, a < nA N → (f a < nC N a → B (nH N a) = true → B (nT N a) = true) ∧ (0 < f a → B (nT N a) = true → B (nH N a) = true)
def cutV (N : NW) (T : Nat → Bool) : Int := sI (fun a => if T (nT N a) = true ∧ T (nH N a) = false then (nC N a : Int) else 0) (nA N)
def Mx (N : NW) (s t : Nat) (f : Nat → Nat) (T : Nat → Bool) : Prop := Flw N s t f ∧ Clo N s f T ∧ T t = false
theorem dl_sum {N : NW} {a n : Nat} {x : Nat → Int} (h1 : nH N a < n) (h2 : nT N a < n) : sI (fun v => x v * dl N a v) n = x (nH N a) - x (nT N a) := by
  have e : sI (fun v => x v * dl N a v) n = sI (fun v => (if v = nH N a then x v else 0) + (-1) * (if v = nT N a then x v else 0)) n := by
    apply sI_congr
    intro v _
    unfold dl
    by_cases q1 : nH N a = v
    · by_cases q2 : nT N a = v
      · rw [if_pos q1, if_pos q2, if_pos q1.symm, if_pos q2.symm]; omega
      · rw [if_pos q1, if_neg q2, if_pos q1.symm, if_neg (fun z => q2 z.symm)]; omega
    · by_cases q2 : nT N a = v
      · rw [if_neg q1, if_pos q2, if_neg (fun z => q1 z.symm), if_pos q2.symm]; omega
      · rw [if_neg q1, if_neg q2, if_neg (fun z => q1 z.symm), if_neg (fun z => q2 z.symm)]; omega
  rw [e, sI_add, sI_mul, sI_pt (x := fun v => if v = nH N a then x v else 0) h1 (fun i _ q => if_neg q), sI_pt (x := fun v => if v = nT N a then x v else 0) h2 (fun i _ q => if_neg q)]
  simp only [if_pos]
  omega
theorem ex_sum {N : NW} {f : Nat → Nat} {n : Nat} (x : Nat → Int) (hb : ∀ a, a < nA N → f a ≠ 0 → nH N a < n ∧ nT N a < n) : sI (fun v => x v * ex N f v) n = sI (fun a => (f a : Int) * (x (nH N a) - x (nT N a))) (nA N) := by
  have e : ∀ v, x v * ex N f v = sI (fun a => (f a : Int) * (x v * dl N a v)) (nA N) := by
    intro v
    unfold ex
    rw [← sI_mul]
    apply sI_congr
    intro a _
    rw [Int.mul_left_comm]
  rw [sI_congr (fun v _ => e v), sI_swap]
  apply sI_congr
  intro a ha
  show sI (fun v => (f a : Int) * (x v * dl N a v)) n = _
  rw [sI_mul]
  by_cases q : f a = 0
  · rw [q]; simp
  · rw [dl_sum (hb a ha q).1 (hb a ha q).2]
theorem Flw.nz {N : NW} {s t n : Nat} {f : Nat → Nat} (h : Flw N s t f) (hN : NB N n) : ∀ a, a < nA N → f a ≠ 0 → nH N a < n ∧ nT N a < n := by
  intro a ha q
  have := h.1 a ha
  exact hN a ha (by omega)
section Fl
variable {N : NW} {s t n : Nat}
theorem flow_val {f : Nat → Nat} (hN : NB N n) (hs : s < n) (ht : t < n) (hst : s ≠ t) (h : Flw N s t f) (x : Nat → Int) : sI (fun a => (f a : Int) * (x (nH N a) - x (nT N a))) (nA N) = (x t - x s) * ex N f t := by
  have k : ∀ y : Nat → Int, sI (fun a => (f a : Int) * (y (nH N a) - y (nT N a))) (nA N) = y s * ex N f s + y t * ex N f t := by
    intro y
    rw [← ex_sum y (h.nz hN), sI_pt2 hs ht hst]
    intro i _ h1 h2
    rw [h.2 i h1 h2]; simp
  have k1 := k (fun _ => 1)
  rw [sI_0 (fun a _ => by simp)] at k1
  rw [k x]
  have e : ex N f s = - ex N f t := by omega
  rw [e, Int.sub_mul, Int.mul_neg]
  omega
theorem cut_terms {f : Nat → Nat} {T : Nat → Bool} (h : Flw N s t f) : ∀ a, a < nA N → (f a : Int) * ((if T (nH N a) = true then 0 else 1) - (if T (nT N a) = true then 0 else 1)) ≤ (if T (nT N a) = true ∧ T (nH N a) = false then (nC N a : Int) else 0) := by
  intro a ha
  have := h.1 a ha
  cases q1 : T (nH N a) <;> cases q2 : T (nT N a) <;> simp <;> omega
theorem cut_le {f : Nat → Nat} {T : Nat → Bool} (hN : NB N n) (hs : s < n) (ht : t < n) (hst : s ≠ t) (h : Flw N s t f) (h1 : T s = true) (h2 : T t = false) : ex N f t ≤ cutV N T := by
  have k := flow_val hN hs ht hst h (fun v => if T v = true then 0 else 1)
  simp only [h1, h2] at k
  have := sI_le (cut_terms (T := T) h)
  rw [k] at this
  unfold cutV
  simpa using this
theorem cut_eq {f : Nat → Nat} {T : Nat → Bool} (hN : NB N n) (hs : s < n) (ht : t < n) (hst : s ≠ t) (h : Flw N s t f) (hc : Clo N s f T) (h2 : T t = false) : ex N f t = cutV N T := by
  have k := flow_val hN hs ht hst h (fun v => if T v = true then 0 else 1)
  simp only [hc.1, h2] at k
  have e : sI (fun a => (f a : Int) * ((if T (nH N a) = true then 0 else 1) - (if T (nT N a) = true then 0 else 1))) (nA N) = cutV N T := by
    unfold cutV
    apply sI_congr
    intro a ha
    have b := h.1 a ha
    have c := hc.2 a ha
    cases q1 : T (nH N a) <;> cases q2 : T (nT N a) <;> simp [q1, q2] at c ⊢ <;> omega
  rw [e] at k
  rw [k]; simp
theorem clo_of {f : Nat → Nat} {T : Nat → Bool} (hN : NB N n) (hs : s < n) (ht : t < n) (hst : s ≠ t) (h : Flw N s t f) (h1 : T s = true) (h2 : T t = false) (e : ex N f t = cutV N T) : Clo N s f T := by
  have k := flow_val hN hs ht hst h (fun v => if T v = true then 0 else 1)
  simp only [h1, h2] at k
  have q := sI_eq (cut_terms (T := T) h) (by rw [k]; unfold cutV at e; simpa using e)
  refine ⟨h1, fun a ha => ?_⟩
  have b := h.1 a ha
  have c := q a ha
  cases q1 : T (nH N a) <;> cases q2 : T (nT N a) <;> simp [q1, q2] at c ⊢ <;> omega
theorem mx_le {f f' : Nat → Nat} {T : Nat → Bool} (hN : NB N n) (hs : s < n) (ht : t < n) (hst : s ≠ t) (h : Flw N s t f) (h' : Mx N s t f' T) : ex N f t ≤ ex N f' t := by
  rw [cut_eq hN hs ht hst h'.1 h'.2.1 h'.2.2]
  exact cut_le hN hs ht hst h h'.2.1.1 h'.2.2
theorem mx_eq {f f' : Nat → Nat} {T T' : Nat → Bool} (hN : NB N n) (hs : s < n) (ht : t < n) (hst : s ≠ t) (h : Mx N s t f T) (h' : Mx N s t f' T') : ex N f t = ex N f' t :=
  Int.le_antisymm (mx_le hN hs ht hst h.1 h') (mx_le hN hs ht hst h'.1 h)
theorem mx_near {f f' : Nat → Nat} {T T' : Nat → Bool} (hN : NB N n) (hs : s < n) (ht : t < n) (hst : s ≠ t) (h : Mx N s t f T) (h' : Mx N s t f' T') (hl : ∀ T2, Clo N s f T2 → ∀ v, T v = true → T2 v = true) (hl' : ∀ T2, Clo N s f' T2 → ∀ v, T' v = true → T2 v = true) : ∀ v, T v = T' v := by
  have e := mx_eq hN hs ht hst h h'
  have c1 : Clo N s f T' := clo_of hN hs ht hst h.1 h'.2.1.1 h'.2.2 (by rw [e, cut_eq hN hs ht hst h'.1 h'.2.1 h'.2.2])
  have c2 : Clo N s f' T := clo_of hN hs ht hst h'.1 h.2.1.1 h.2.2 (by rw [← e, cut_eq hN hs ht hst h.1 h.2.1 h.2.2])
  intro v
  have a1 := hl T' c1 v
  have a2 := hl' T c2 v
  cases q1 : T v <;> cases q2 : T' v <;> simp [q1, q2] at a1 a2 ⊢
/-- one more room on an arc from the source helps just where its head can still send -/
theorem mx_begin {c' : Nat → Nat} {f f' : Nat → Nat} {T' B : Nat → Bool} {a0 : Nat} (hN : NB N n) (hN' : NB (nA N, nT N, nH N, c') n) (hs : s < n) (ht : t < n) (hst : s ≠ t) (ha0 : a0 < nA N) (hta : nT N a0 = s) (hc0 : c' a0 = nC N a0 + 1) (hc : ∀ a, a ≠ a0 → c' a = nC N a) (h : Flw N s t f) (hB : BCl N t f B) (hBs : B s = false) (hBl : ∀ B2, BCl N t f B2 → ∀ v, B v = true → B2 v = true) (h' : Mx (nA N, nT N, nH N, c') s t f' T') : ex N f t < ex N f' t ↔ B (nH N a0) = true := by
  have cle : ∀ a, nC N a ≤ c' a := fun a => by
    by_cases q : a = a0
    · rw [q, hc0]; omega
    · rw [hc a q]; omega
  have fl' : Flw (nA N, nT N, nH N, c') s t f := ⟨fun a ha => Nat.le_trans (h.1 a ha) (cle a), h.2⟩
  have le1 : ex N f t ≤ ex N f' t := mx_le (N := (nA N, nT N, nH N, c')) hN' hs ht hst fl' h'
  have cutd : ∀ T : Nat → Bool, T s = true → cutV (nA N, nT N, nH N, c') T = cutV N T + (if T (nH N a0) = true then 0 else 1) := by
    intro T hT
    unfold cutV
    show sI (fun a => if T (nT N a) = true ∧ T (nH N a) = false then (c' a : Int) else 0) (nA N) = _
    rw [sI_up (G := fun a => if T (nT N a) = true ∧ T (nH N a) = false then (nC N a : Int) else 0) ha0 (fun a _ q => by rw [hc a q])]
    congr 1
    rw [hta, hT, hc0]
    cases q : T (nH N a0) <;> simp <;> omega
  constructor
  · intro lt
    apply Decidable.byContradiction
    intro nb
    have cT : Clo N s f (fun v => !B v) := by
      refine ⟨by show (!B s) = true; rw [hBs]; rfl, fun a ha => ?_⟩
      have := hB.2 a ha
      cases q1 : B (nH N a) <;> cases q2 : B (nT N a) <;> simp [q1, q2] at this ⊢ <;> omega
    have tB : (fun v => !B v) t = false := by show (!B t) = false; rw [hB.1]; rfl
    have e1 := cut_eq hN hs ht hst h cT tB
    have e2 := cut_le hN' hs ht hst h'.1 (T := fun v => !B v) cT.1 tB
    rw [cutd _ cT.1, ← e1] at e2
    have nb' : B (nH N a0) = false := by cases q : B (nH N a0) <;> simp [q] at nb ⊢
    rw [nb'] at e2
    have e3 : ex (nA N, nT N, nH N, c') f' t = ex N f' t := rfl
    rw [e3] at e2
    simp at e2
    omega
  · intro b
    apply Decidable.byContradiction
    intro nlt
    have e0 : ex N f t = ex N f' t := by omega
    have e1 : ex N f' t = cutV (nA N, nT N, nH N, c') T' := cut_eq (N := (nA N, nT N, nH N, c')) hN' hs ht hst h'.1 h'.2.1 h'.2.2
    have e2 := cut_le hN hs ht hst h h'.2.1.1 h'.2.2
    rw [cutd _ h'.2.1.1] at e1
    have tx : T' (nH N a0) = true := by
      cases q : T' (nH N a0)
      · rw [q] at e1; simp at e1; omega
      · rfl
    rw [tx] at e1
    simp at e1
    have cl := clo_of hN hs ht hst h h'.2.1.1 h'.2.2 (by omega)
    have := hBl (fun v => !T' v) ⟨by show (!T' t) = true; rw [h'.2.2]; rfl, fun a ha => by
      have := cl.2 a ha
      cases q1 : T' (nH N a) <;> cases q2 : T' (nT N a) <;> simp [q1, q2] at this ⊢ <;> omega⟩ _ b
    simp [tx] at this
end Fl
