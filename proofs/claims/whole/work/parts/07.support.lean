/-! what the printed walks use -/
def okS (ls : List (Option Value)) : Nat → Bool
  | 0 => true
  | j + 1 => match ls[j]? with
    | some (some v) => v.category == 1
    | _ => true
theorem okS_spec {ls : List (Option Value)} {i : Nat} (h : okS ls i = true) : ∀ (j : Nat) (w : Value), j + 1 = i → ls[j]? = some (some w) → w.category = 1 := by
  intro j w hj hw
  subst hj
  simp only [okS, hw, beq_iff_eq] at h
  exact h
theorem ofI_eq {x k : Int32} {n : Int} (h : Int32.ofInt n = k) : x + Int32.ofInt n = x + k := by rw [h]
def maskL : List Bool → List (Option Value) → List (Option Value)
  | true :: ms, x :: xs => x :: maskL ms xs
  | false :: ms, _ :: xs => none :: maskL ms xs
  | _, _ => []
theorem maskL_sub : ∀ (ms : List Bool) (ls : List (Option Value)) (i : Nat) (v : Value), (maskL ms ls)[i]? = some (some v) → ls[i]? = some (some v)
  | [], ls, i, v, h => by simp [maskL] at h
  | true :: ms, [], i, v, h => by simp [maskL] at h
  | false :: ms, [], i, v, h => by simp [maskL] at h
  | true :: ms, x :: xs, 0, v, h => by simpa [maskL] using h
  | false :: ms, x :: xs, 0, v, h => by simp [maskL] at h
  | true :: ms, x :: xs, i + 1, v, h => by
    simp only [maskL, List.getElem?_cons_succ] at h ⊢
    exact maskL_sub ms xs i v h
  | false :: ms, x :: xs, i + 1, v, h => by
    simp only [maskL, List.getElem?_cons_succ] at h ⊢
    exact maskL_sub ms xs i v h
theorem wm_mask {g : GE} {d : MD} {pc : Nat} {ls : List (Option Value)} {st : List Value} {h : HP} {Q : Option Value → HP → Prop} (ms : List Bool) (ls' : List (Option Value)) (hs : maskL ms ls = ls') (k : Wm g d pc ls' st h Q) : Wm g d pc ls st h Q := by
  subst hs
  exact wm_drop _ (maskL_sub ms ls) k
theorem em_go {c A B G : Prop} (H : (c → A) ∧ (¬ c → B)) (k1 : c → A → G) (k2 : ¬ c → B → G) : G := (Classical.em c).elim (fun h => k1 h (H.1 h)) (fun h => k2 h (H.2 h))
def qi (Q : Int32 → HP → Prop) : Option Value → HP → Prop := fun r h => ∃ v, r = some (.int v) ∧ Q v h
def ql (Q : Int64 → HP → Prop) : Option Value → HP → Prop := fun r h => ∃ v, r = some (.long v) ∧ Q v h
def qv (Q : HP → Prop) : Option Value → HP → Prop := fun r h => r = none ∧ Q h
theorem wm_iret {g : GE} {d : MD} {pc : Nat} {ls : List (Option Value)} {h : HP} {Q : Int32 → HP → Prop} {v : Int32} (hd : decode (dB d) pc = .ok (.ireturn, 1)) (hv : ∃ ty, dR d = some ty ∧ narrow ty (.int v) = .int v) (hq : Q v h) : Wm g d pc ls [.int v] h (qi Q) := wm_ret (some (.int v)) hd hv ⟨v, rfl, hq⟩
theorem wm_lret {g : GE} {d : MD} {pc : Nat} {ls : List (Option Value)} {h : HP} {Q : Int64 → HP → Prop} {v : Int64} (hd : decode (dB d) pc = .ok (.lreturn, 1)) (hv : dR d = some .long) (hq : Q v h) : Wm g d pc ls [.long v] h (ql Q) := wm_ret (some (.long v)) hd hv ⟨v, rfl, hq⟩
theorem wm_vret {g : GE} {d : MD} {pc : Nat} {ls : List (Option Value)} {h : HP} {Q : HP → Prop} (hd : decode (dB d) pc = .ok (.return_, 1)) (hv : dR d = none) (hq : Q h) : Wm g d pc ls [] h (qv Q) := wm_ret none hd hv ⟨rfl, hq⟩
theorem wm_dia {g : GE} {d : MD} {pc pc1 pc2 pcJ : Nat} {ls : List (Option Value)} {st st0 : List Value} {h : HP} {Q : Option Value → HP → Prop} {c : Prop} [dc : Decidable c] {a b : Int32} (hbr : (c → Wm g d pc1 ls st h Q) → (¬ c → Wm g d pc2 ls st h Q) → Wm g d pc ls st0 h Q) (k : Wm g d pcJ ls (.int (@ite Int32 c dc a b) :: st) h Q) (ht : Wm g d pcJ ls (.int a :: st) h Q → c → Wm g d pc1 ls st h Q) (hf : Wm g d pcJ ls (.int b :: st) h Q → ¬ c → Wm g d pc2 ls st h Q) : Wm g d pc ls st0 h Q :=
  hbr (fun hc => ht (by rw [if_pos hc] at k; exact k) hc) (fun hc => hf (by rw [if_neg hc] at k; exact k) hc)
theorem wm_diaL {g : GE} {d : MD} {pc pc1 pc2 pcJ : Nat} {ls : List (Option Value)} {st st0 : List Value} {h : HP} {Q : Option Value → HP → Prop} {c : Prop} [dc : Decidable c] {a b : Int64} (hbr : (c → Wm g d pc1 ls st h Q) → (¬ c → Wm g d pc2 ls st h Q) → Wm g d pc ls st0 h Q) (k : Wm g d pcJ ls (.long (@ite Int64 c dc a b) :: st) h Q) (ht : Wm g d pcJ ls (.long a :: st) h Q → c → Wm g d pc1 ls st h Q) (hf : Wm g d pcJ ls (.long b :: st) h Q → ¬ c → Wm g d pc2 ls st h Q) : Wm g d pc ls st0 h Q :=
  hbr (fun hc => ht (by rw [if_pos hc] at k; exact k) hc) (fun hc => hf (by rw [if_neg hc] at k; exact k) hc)
theorem nb_ite {c : Prop} {dc : Decidable c} {a b : Int32} (ha : narrow .boolean (.int a) = .int a) (hb : narrow .boolean (.int b) = .int b) : narrow .boolean (.int (@ite Int32 c dc a b)) = .int (@ite Int32 c dc a b) := by
  by_cases hc : c
  · rw [if_pos hc]; exact ha
  · rw [if_neg hc]; exact hb
theorem rv_bool {d : MD} {v : Int32} (h : RV d (some (.int v))) (hd : dR d = some .boolean) : narrow .boolean (.int v) = .int v := by
  obtain ⟨ty, h1, h2⟩ := h
  rw [hd] at h1
  cases h1
  exact h2
theorem zfit_of {v : Int32} (h : v = 0 ∨ v = 1) : narrow .boolean (.int v) = .int v ∧ fits .boolean (.int v) = true := by
  rcases h with rfl | rfl <;> decide +kernel
theorem ent_pad {vs : List Value} {ls2 : List (Option Value)} (k : Nat) (h : ls2 = ent vs ++ List.replicate k none) : ∀ (i : Nat) (v : Value), ls2[i]? = some (some v) → (ent vs)[i]? = some (some v) := by
  intro i v hi
  rw [h] at hi
  by_cases hl : i < (ent vs).length
  · rw [List.getElem?_append_left hl] at hi
    exact hi
  · rw [List.getElem?_append_right (by omega)] at hi
    have := List.eq_of_mem_replicate (List.mem_of_getElem? hi)
    cases this
theorem L_way : ∀ {x : Nat}, kd x = 0 → kd (x + 1) = 10 ∧ kn (x + 1) = 16 := by
  intro x hx
  have h1 := kd_lt hx (by decide)
  have : ∀ x, x < 146 → kd x = 0 → kd (x + 1) = 10 ∧ kn (x + 1) = 16 := by decide +kernel
  exact this x h1 hx
theorem S_row : ∀ {x : Nat}, kd x = 2 → kd (x + 1) = 12 ∧ kn (x + 1) = 40 := by
  intro x hx
  have h1 := kd_lt hx (by decide)
  have : ∀ x, x < 146 → kd x = 2 → kd (x + 1) = 12 ∧ kn (x + 1) = 40 := by decide +kernel
  exact this x h1 hx
theorem W_st : ∀ {x : Nat}, kd x = 6 → kd (x + 1) = 13 ∧ kn (x + 1) = 6 := by
  intro x hx
  have h1 := kd_lt hx (by decide)
  have : ∀ x, x < 146 → kd x = 6 → kd (x + 1) = 13 ∧ kn (x + 1) = 6 := by decide +kernel
  exact this x h1 hx
theorem W_ln : ∀ {x : Nat}, kd x = 6 → kd (x + 2) = 14 ∧ kn (x + 2) = 10 := by
  intro x hx
  have h1 := kd_lt hx (by decide)
  have : ∀ x, x < 146 → kd x = 6 → kd (x + 2) = 14 ∧ kn (x + 2) = 10 := by decide +kernel
  exact this x h1 hx
theorem E_st : ∀ {x j : Nat}, kd x = 13 → j < 6 → kd (x + 2 + j) = 3 := by
  intro x j hx hj
  have h1 := kd_lt hx (by decide)
  have : ∀ x, x < 146 → kd x = 13 → ∀ j, j < 6 → kd (x + 2 + j) = 3 := by decide +kernel
  exact this x h1 hx j hj
theorem E_ln : ∀ {x j : Nat}, kd x = 14 → j < 10 → kd (x + 7 + 2 * j) = 0 := by
  intro x j hx hj
  have h1 := kd_lt hx (by decide)
  have : ∀ x, x < 146 → kd x = 14 → ∀ j, j < 10 → kd (x + 7 + 2 * j) = 0 := by decide +kernel
  exact this x h1 hx j hj
theorem E_sh : ∀ {x j : Nat}, kd x = 15 → j < 4 → kd (x + 2 + 2 * j) = 2 := by
  intro x j hx hj
  have h1 := kd_lt hx (by decide)
  have : ∀ x, x < 146 → kd x = 15 → ∀ j, j < 4 → kd (x + 2 + 2 * j) = 2 := by decide +kernel
  exact this x h1 hx j hj
theorem wm_callVi {g : GE} {d : MD} {pc : Nat} {ls : List (Option Value)} {h : HP} {Q : Option Value → HP → Prop} (d2 : MD) {i b : Nat} (n ci : Nat) (As rest st : List Value) (Q1 : Int32 → HP → Prop) (pc' : Nat) (hm : MO d2) (hp2 : npar d2 n) (hl : Cond.methodLink (dO d) i (dY d2) ∈ lwg) (hi : Cond.instanceMethod (dY d2) ∈ lwg) (hs : Cond.selects (dO d2) (dY d2) (dY d2) ∈ lwg) (hroom : dF d2 + 1 ≤ dF d ∧ 8 + (dN d2 + 11) + dW d2 ≤ dW d) (hd : decode (dB d) pc = .ok (.invokevirtual i, 3)) (hp : pc + 3 = pc') (hst : As.reverse ++ .ref b :: rest = st) (hn : As.length = n) (hrest : (rest.map fun v => v.category).sum ≤ 8) (hb : kd b = ci) (hci : (vwCl.map (fun q => q.1))[ci]? = some (dO d2)) (he : (lg_sl (.ref b :: As)).length ≤ dN d2) (ls2 : List (Option Value)) (he2 : ∀ (i : Nat) (v : Value), ls2[i]? = some (some v) → (ent (.ref b :: As))[i]? = some (some v)) (k1 : Wm g d2 0 ls2 [] h (qi Q1)) (k2 : ∀ (v : Int32) (h' : HP), Q1 v h' → RV d2 (some (.int v)) → Wm g d pc' ls (.int v :: rest) h' Q) : Wm g d pc ls st h Q :=
  wm_callV d2 n ci As rest st (qi Q1) pc' hm hp2 hl hi hs hroom hd hp hst hn hrest hb hci he ls2 he2 k1 (fun r h' hq hr => by obtain ⟨v, rfl, hq⟩ := hq; exact k2 v h' hq hr)
theorem wm_callVl {g : GE} {d : MD} {pc : Nat} {ls : List (Option Value)} {h : HP} {Q : Option Value → HP → Prop} (d2 : MD) {i b : Nat} (n ci : Nat) (As rest st : List Value) (Q1 : Int64 → HP → Prop) (pc' : Nat) (hm : MO d2) (hp2 : npar d2 n) (hl : Cond.methodLink (dO d) i (dY d2) ∈ lwg) (hi : Cond.instanceMethod (dY d2) ∈ lwg) (hs : Cond.selects (dO d2) (dY d2) (dY d2) ∈ lwg) (hroom : dF d2 + 1 ≤ dF d ∧ 8 + (dN d2 + 11) + dW d2 ≤ dW d) (hd : decode (dB d) pc = .ok (.invokevirtual i, 3)) (hp : pc + 3 = pc') (hst : As.reverse ++ .ref b :: rest = st) (hn : As.length = n) (hrest : (rest.map fun v => v.category).sum ≤ 8) (hb : kd b = ci) (hci : (vwCl.map (fun q => q.1))[ci]? = some (dO d2)) (he : (lg_sl (.ref b :: As)).length ≤ dN d2) (ls2 : List (Option Value)) (he2 : ∀ (i : Nat) (v : Value), ls2[i]? = some (some v) → (ent (.ref b :: As))[i]? = some (some v)) (k1 : Wm g d2 0 ls2 [] h (ql Q1)) (k2 : ∀ (v : Int64) (h' : HP), Q1 v h' → RV d2 (some (.long v)) → Wm g d pc' ls (.long v :: rest) h' Q) : Wm g d pc ls st h Q :=
  wm_callV d2 n ci As rest st (ql Q1) pc' hm hp2 hl hi hs hroom hd hp hst hn hrest hb hci he ls2 he2 k1 (fun r h' hq hr => by obtain ⟨v, rfl, hq⟩ := hq; exact k2 v h' hq hr)
theorem wm_callVv {g : GE} {d : MD} {pc : Nat} {ls : List (Option Value)} {h : HP} {Q : Option Value → HP → Prop} (d2 : MD) {i b : Nat} (n ci : Nat) (As rest st : List Value) (Q1 : HP → Prop) (pc' : Nat) (hm : MO d2) (hp2 : npar d2 n) (hl : Cond.methodLink (dO d) i (dY d2) ∈ lwg) (hi : Cond.instanceMethod (dY d2) ∈ lwg) (hs : Cond.selects (dO d2) (dY d2) (dY d2) ∈ lwg) (hroom : dF d2 + 1 ≤ dF d ∧ 8 + (dN d2 + 11) + dW d2 ≤ dW d) (hd : decode (dB d) pc = .ok (.invokevirtual i, 3)) (hp : pc + 3 = pc') (hst : As.reverse ++ .ref b :: rest = st) (hn : As.length = n) (hrest : (rest.map fun v => v.category).sum ≤ 8) (hb : kd b = ci) (hci : (vwCl.map (fun q => q.1))[ci]? = some (dO d2)) (he : (lg_sl (.ref b :: As)).length ≤ dN d2) (ls2 : List (Option Value)) (he2 : ∀ (i : Nat) (v : Value), ls2[i]? = some (some v) → (ent (.ref b :: As))[i]? = some (some v)) (k1 : Wm g d2 0 ls2 [] h (qv Q1)) (k2 : ∀ (h' : HP), Q1 h' → Wm g d pc' ls rest h' Q) : Wm g d pc ls st h Q :=
  wm_callV d2 n ci As rest st (qv Q1) pc' hm hp2 hl hi hs hroom hd hp hst hn hrest hb hci he ls2 he2 k1 (fun r h' hq _ => by obtain ⟨rfl, hq⟩ := hq; exact k2 h' hq)
theorem wm_callSi {g : GE} {d : MD} {pc : Nat} {ls : List (Option Value)} {h : HP} {Q : Option Value → HP → Prop} (d2 : MD) {i : Nat} (n : Nat) (As rest st : List Value) (Q1 : Int32 → HP → Prop) (pc' : Nat) (hm : MO d2) (hp2 : npar d2 n) (hl : Cond.methodLink (dO d) i (dY d2) ∈ lwg) (hi : Cond.static (dY d2) ∈ lwg) (hroom : dF d2 + 1 ≤ dF d ∧ 8 + (dN d2 + 11) + dW d2 ≤ dW d) (hd : decode (dB d) pc = .ok (.invokestatic i, 3)) (hp : pc + 3 = pc') (hst : As.reverse ++ rest = st) (hn : As.length = n) (hrest : (rest.map fun v => v.category).sum ≤ 8) (he : (lg_sl As).length ≤ dN d2) (ls2 : List (Option Value)) (he2 : ∀ (i : Nat) (v : Value), ls2[i]? = some (some v) → (ent As)[i]? = some (some v)) (k1 : Wm g d2 0 ls2 [] h (qi Q1)) (k2 : ∀ (v : Int32) (h' : HP), Q1 v h' → RV d2 (some (.int v)) → Wm g d pc' ls (.int v :: rest) h' Q) : Wm g d pc ls st h Q :=
  wm_callS d2 n As rest st (qi Q1) pc' hm hp2 hl hi hroom hd hp hst hn hrest he ls2 he2 k1 (fun r h' hq hr => by obtain ⟨v, rfl, hq⟩ := hq; exact k2 v h' hq hr)
theorem wm_callSl {g : GE} {d : MD} {pc : Nat} {ls : List (Option Value)} {h : HP} {Q : Option Value → HP → Prop} (d2 : MD) {i : Nat} (n : Nat) (As rest st : List Value) (Q1 : Int64 → HP → Prop) (pc' : Nat) (hm : MO d2) (hp2 : npar d2 n) (hl : Cond.methodLink (dO d) i (dY d2) ∈ lwg) (hi : Cond.static (dY d2) ∈ lwg) (hroom : dF d2 + 1 ≤ dF d ∧ 8 + (dN d2 + 11) + dW d2 ≤ dW d) (hd : decode (dB d) pc = .ok (.invokestatic i, 3)) (hp : pc + 3 = pc') (hst : As.reverse ++ rest = st) (hn : As.length = n) (hrest : (rest.map fun v => v.category).sum ≤ 8) (he : (lg_sl As).length ≤ dN d2) (ls2 : List (Option Value)) (he2 : ∀ (i : Nat) (v : Value), ls2[i]? = some (some v) → (ent As)[i]? = some (some v)) (k1 : Wm g d2 0 ls2 [] h (ql Q1)) (k2 : ∀ (v : Int64) (h' : HP), Q1 v h' → RV d2 (some (.long v)) → Wm g d pc' ls (.long v :: rest) h' Q) : Wm g d pc ls st h Q :=
  wm_callS d2 n As rest st (ql Q1) pc' hm hp2 hl hi hroom hd hp hst hn hrest he ls2 he2 k1 (fun r h' hq hr => by obtain ⟨v, rfl, hq⟩ := hq; exact k2 v h' hq hr)
theorem wm_callSv {g : GE} {d : MD} {pc : Nat} {ls : List (Option Value)} {h : HP} {Q : Option Value → HP → Prop} (d2 : MD) {i : Nat} (n : Nat) (As rest st : List Value) (Q1 : HP → Prop) (pc' : Nat) (hm : MO d2) (hp2 : npar d2 n) (hl : Cond.methodLink (dO d) i (dY d2) ∈ lwg) (hi : Cond.static (dY d2) ∈ lwg) (hroom : dF d2 + 1 ≤ dF d ∧ 8 + (dN d2 + 11) + dW d2 ≤ dW d) (hd : decode (dB d) pc = .ok (.invokestatic i, 3)) (hp : pc + 3 = pc') (hst : As.reverse ++ rest = st) (hn : As.length = n) (hrest : (rest.map fun v => v.category).sum ≤ 8) (he : (lg_sl As).length ≤ dN d2) (ls2 : List (Option Value)) (he2 : ∀ (i : Nat) (v : Value), ls2[i]? = some (some v) → (ent As)[i]? = some (some v)) (k1 : Wm g d2 0 ls2 [] h (qv Q1)) (k2 : ∀ (h' : HP), Q1 h' → Wm g d pc' ls rest h' Q) : Wm g d pc ls st h Q :=
  wm_callS d2 n As rest st (qv Q1) pc' hm hp2 hl hi hroom hd hp hst hn hrest he ls2 he2 k1 (fun r h' hq _ => by obtain ⟨rfl, hq⟩ := hq; exact k2 h' hq)
theorem wm_callNi {g : GE} {d : MD} {pc : Nat} {ls : List (Option Value)} {h : HP} {Q : Option Value → HP → Prop} (d2 : MD) (i : Nat) (n : Nat) (As rest st : List Value) (Q1 : Int32 → HP → Prop) (pc' : Nat) (hm : MO d2) (hp2 : npar d2 n) (hy : dY d2 = yX7_isIn) (hl : (dO d, i) ∈ nmN) (hi : Cond.static (dY d2) ∈ lwg) (hroom : dF d2 + 1 ≤ dF d ∧ 8 + (dN d2 + 11) + dW d2 ≤ dW d) (hd : decode (dB d) pc = .ok (.invokestatic i, 3)) (hp : pc + 3 = pc') (hst : As.reverse ++ rest = st) (hn : As.length = n) (hrest : (rest.map fun v => v.category).sum ≤ 8) (he : (lg_sl As).length ≤ dN d2) (ls2 : List (Option Value)) (he2 : ∀ (i : Nat) (v : Value), ls2[i]? = some (some v) → (ent As)[i]? = some (some v)) (k1 : Wm g d2 0 ls2 [] h (qi Q1)) (k2 : ∀ (v : Int32) (h' : HP), Q1 v h' → RV d2 (some (.int v)) → Wm g d pc' ls (.int v :: rest) h' Q) : Wm g d pc ls st h Q :=
  wm_callN d2 n As rest st (qi Q1) pc' hm hp2 hy hl hi hroom hd hp hst hn hrest he ls2 he2 k1 (fun r h' hq hr => by obtain ⟨v, rfl, hq⟩ := hq; exact k2 v h' hq hr)
theorem wm_callNl {g : GE} {d : MD} {pc : Nat} {ls : List (Option Value)} {h : HP} {Q : Option Value → HP → Prop} (d2 : MD) (i : Nat) (n : Nat) (As rest st : List Value) (Q1 : Int64 → HP → Prop) (pc' : Nat) (hm : MO d2) (hp2 : npar d2 n) (hy : dY d2 = yX7_isIn) (hl : (dO d, i) ∈ nmN) (hi : Cond.static (dY d2) ∈ lwg) (hroom : dF d2 + 1 ≤ dF d ∧ 8 + (dN d2 + 11) + dW d2 ≤ dW d) (hd : decode (dB d) pc = .ok (.invokestatic i, 3)) (hp : pc + 3 = pc') (hst : As.reverse ++ rest = st) (hn : As.length = n) (hrest : (rest.map fun v => v.category).sum ≤ 8) (he : (lg_sl As).length ≤ dN d2) (ls2 : List (Option Value)) (he2 : ∀ (i : Nat) (v : Value), ls2[i]? = some (some v) → (ent As)[i]? = some (some v)) (k1 : Wm g d2 0 ls2 [] h (ql Q1)) (k2 : ∀ (v : Int64) (h' : HP), Q1 v h' → RV d2 (some (.long v)) → Wm g d pc' ls (.long v :: rest) h' Q) : Wm g d pc ls st h Q :=
  wm_callN d2 n As rest st (ql Q1) pc' hm hp2 hy hl hi hroom hd hp hst hn hrest he ls2 he2 k1 (fun r h' hq hr => by obtain ⟨v, rfl, hq⟩ := hq; exact k2 v h' hq hr)
theorem wm_callNv {g : GE} {d : MD} {pc : Nat} {ls : List (Option Value)} {h : HP} {Q : Option Value → HP → Prop} (d2 : MD) (i : Nat) (n : Nat) (As rest st : List Value) (Q1 : HP → Prop) (pc' : Nat) (hm : MO d2) (hp2 : npar d2 n) (hy : dY d2 = yX7_isIn) (hl : (dO d, i) ∈ nmN) (hi : Cond.static (dY d2) ∈ lwg) (hroom : dF d2 + 1 ≤ dF d ∧ 8 + (dN d2 + 11) + dW d2 ≤ dW d) (hd : decode (dB d) pc = .ok (.invokestatic i, 3)) (hp : pc + 3 = pc') (hst : As.reverse ++ rest = st) (hn : As.length = n) (hrest : (rest.map fun v => v.category).sum ≤ 8) (he : (lg_sl As).length ≤ dN d2) (ls2 : List (Option Value)) (he2 : ∀ (i : Nat) (v : Value), ls2[i]? = some (some v) → (ent As)[i]? = some (some v)) (k1 : Wm g d2 0 ls2 [] h (qv Q1)) (k2 : ∀ (h' : HP), Q1 h' → Wm g d pc' ls rest h' Q) : Wm g d pc ls st h Q :=
  wm_callN d2 n As rest st (qv Q1) pc' hm hp2 hy hl hi hroom hd hp hst hn hrest he ls2 he2 k1 (fun r h' hq _ => by obtain ⟨rfl, hq⟩ := hq; exact k2 h' hq)
