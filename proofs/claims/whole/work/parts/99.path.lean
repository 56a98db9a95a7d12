/-! the path back, what it bears, what pushing leaves -/
def sxP (v : WV) (X : RX) (s : Nat) : Nat := xt v (X.2.1 s)
def sxR (v : WV) (F : Nat → Nat) (e : Nat) : Nat := if e % 2 = 0 then xro v (e / 2) - F (e / 2) else F (e / 2)
def sxN (v : WV) (F : Nat → Nat) (X : RX) (a : Nat) : Nat → Nat → Nat → Nat
  | 0, _, m => m
  | n + 1, s, m => if s = a then m else sxN v F X a n (sxP v X s) (if sxR v F (X.2.1 s) < m then sxR v F (X.2.1 s) else m)
def sxC (F : Nat → Nat) (e x : Nat) : Nat → Nat := xup F (e / 2) (if e % 2 = 0 then F (e / 2) + x else F (e / 2) - x)
def sxU (v : WV) (X : RX) (a x : Nat) : Nat → Nat → (Nat → Nat) → Nat → Nat
  | 0, _, F => F
  | n + 1, s, F => if s = a then F else sxU v X a x n (sxP v X s) (sxC F (X.2.1 s) x)
def sxA (v : WV) (X : RX) (a : Nat) (P : Nat → Prop) : Nat → Nat → Prop
  | 0, _ => True
  | n + 1, s => s ≠ a → P s ∧ sxA v X a P n (sxP v X s)
section Rx
variable {v : WV} {F F0 : Nat → Nat} {a x i : Nat} {T : Nat → Prop} {π : Nat → Nat} {X : RX}
theorem sxN_le : ∀ n s m, sxN v F X a n s m ≤ m
  | 0, _, _ => Nat.le_refl _
  | n + 1, s, m => by
    unfold sxN
    split
    · exact Nat.le_refl _
    · refine Nat.le_trans (sxN_le n _ _) ?_
      split <;> omega
theorem sxN_all : ∀ n s m, sxA v X a (fun t => sxN v F X a n s m ≤ sxR v F (X.2.1 t)) n s
  | 0, _, _ => trivial
  | n + 1, s, m => by
    intro hs
    have e : sxN v F X a (n + 1) s m = sxN v F X a n (sxP v X s) (if sxR v F (X.2.1 s) < m then sxR v F (X.2.1 s) else m) := if_neg hs
    rw [e]
    refine ⟨Nat.le_trans (sxN_le n _ _) ?_, sxN_all n _ _⟩
    split <;> omega
theorem sxN_pos {m B : Nat} (hF : WF m B v) (hI : RI v F a T π i X) : ∀ n s k, 1 ≤ k → X.1 s ≠ 1000000 → 1 ≤ sxN v F X a n s k
  | 0, _, _, h, _ => h
  | n + 1, s, k, h, hf => by
    unfold sxN
    split
    · exact h
    · rename_i hs
      obtain ⟨b1, b2, b3, b4, b5, b6⟩ := hI.2.2 s hs hf
      refine sxN_pos hF hI n _ _ ?_ b4
      have : 1 ≤ sxR v F (X.2.1 s) := by
        unfold xrs at b3
        unfold sxR
        split
        · rename_i q; rw [if_pos q] at b3; omega
        · rename_i q; rw [if_neg q] at b3; omega
      split <;> omega
theorem sxN_big {n s k : Nat} (hs : s ≠ a) (h1 : sxR v F (X.2.1 s) < 99999) (hk : 99999 ≤ k) : sxN v F X a (n + 1) s k = sxN v F X a (n + 1) s 99999 := by
  unfold sxN
  rw [if_neg hs, if_neg hs, if_pos h1, if_pos (by omega)]
/-- while pushing -/
def sxI (v : WV) (F0 : Nat → Nat) (X : RX) (a : Nat) (s : Nat) (F : Nat → Nat) : Prop :=
  (∀ l, l < vL v → F l ≤ xro v l) ∧ (∀ t, t ≠ a → X.1 t ≠ 1000000 → X.2.2 t ≤ X.2.2 s → F (X.2.1 t / 2) = F0 (X.2.1 t / 2)) ∧
  ∀ e, e < 2 * vL v → xrs v F e → xrs v F0 e ∨ (X.1 (xh v e) ≠ 1000000 ∧ (if e % 2 = 0 then X.1 (xh v e) ≤ X.1 (xt v e) + takesL v (e / 2) else X.1 (xh v e) + takesL v (e / 2) ≤ X.1 (xt v e)))
theorem x_opp {e e' : Nat} (h : e' / 2 = e / 2) (hp : e' % 2 ≠ e % 2) : xt v e' = xh v e ∧ xh v e' = xt v e := by
  unfold xt xh
  rw [h]
  by_cases q : e % 2 = 0
  · rw [if_pos q, if_pos q, if_neg (by omega), if_neg (by omega)]
    exact ⟨rfl, rfl⟩
  · rw [if_neg q, if_neg q, if_pos (by omega), if_pos (by omega)]
    exact ⟨rfl, rfl⟩
theorem sxI.step {m B s : Nat} (hx : Fx v F0 X) (hI : RI v F0 a T π i X) (hs : s ≠ a) (hf : X.1 s ≠ 1000000) (hi : sxI v F0 X a s F) (hr : x ≤ sxR v F0 (X.2.1 s)) : sxI v F0 X a (sxP v X s) (sxC F (X.2.1 s) x) := by
  obtain ⟨b1, b2, b3, b4, b5, b6⟩ := hI.2.2 s hs hf
  obtain ⟨f1, f2⟩ := fx_eq (m := m) (B := B) hx hI hs hf
  have e0 := hi.2.1 s hs hf (Nat.le_refl _)
  have oth : ∀ l, l ≠ X.2.1 s / 2 → sxC F (X.2.1 s) x l = F l := fun l hl => if_neg hl
  have own : sxC F (X.2.1 s) x (X.2.1 s / 2) = if X.2.1 s % 2 = 0 then F (X.2.1 s / 2) + x else F (X.2.1 s / 2) - x := if_pos rfl
  have hl1 := hi.1 (X.2.1 s / 2) (by omega)
  refine ⟨fun l hl => ?_, fun t ht tf tt => ?_, fun e he hr' => ?_⟩
  · by_cases q : l = X.2.1 s / 2
    · rw [q, own]
      unfold sxR at hr
      split
      · rename_i k; rw [if_pos k] at hr; omega
      · omega
    · rw [oth l q]; exact hi.1 l hl
  · have t2 : X.2.2 t ≤ X.2.2 (xt v (X.2.1 s)) := tt
    rw [oth]
    · exact hi.2.1 t ht tf (by omega)
    · intro q
      obtain ⟨c1, c2, c3, c4, c5, c6⟩ := hI.2.2 t ht tf
      have f4 := (fx_eq (m := m) (B := B) hx hI ht tf).2
      by_cases k : X.2.1 t % 2 = X.2.1 s % 2
      · have : X.2.1 t = X.2.1 s := by omega
        rw [this, b2] at c2
        rw [← c2] at t2
        omega
      · have o := x_opp (v := v) q k
        rw [o.1, b2] at f4
        omega
  · by_cases q : e / 2 = X.2.1 s / 2
    · by_cases k : e % 2 = X.2.1 s % 2
      · have ee : e = X.2.1 s := by omega
        rw [ee]
        exact Or.inl b3
      · have o := x_opp (v := v) q k
        right
        rw [o.1, o.2, q, b2]
        refine ⟨b4, ?_⟩
        unfold xnw at f1
        split
        · rename_i k2
          rw [if_neg (by omega)] at f1
          omega
        · rename_i k2
          rw [if_pos (by omega)] at f1
          omega
    · refine hi.2.2 e he ?_
      unfold xrs at hr' ⊢
      rw [oth _ q] at hr'
      exact hr'
theorem sxI.go {m B : Nat} (hF : WF m B v) (hx : Fx v F0 X) (hI : RI v F0 a T π i X) : ∀ n s F, X.1 s ≠ 1000000 → sxI v F0 X a s F → sxA v X a (fun t => x ≤ sxR v F0 (X.2.1 t)) n s → ∃ u, sxI v F0 X a u (sxU v X a x n s F)
  | 0, s, F, _, hi, _ => ⟨s, hi⟩
  | n + 1, s, F, hf, hi, hA => by
    unfold sxU
    by_cases hs : s = a
    · rw [if_pos hs]; exact ⟨s, hi⟩
    · rw [if_neg hs]
      have q := hA hs
      exact sxI.go hF hx hI n _ _ (hI.2.2 s hs hf).2.2.2.1 (sxI.step (m := m) (B := B) hx hI hs hf hi q.1) q.2
/-- what can still leave a -/
def sxL (v : WV) (a : Nat) (F : Nat → Nat) (l : Nat) : Nat := if vl v l 1 = a then xro v l - F l else if vl v l 2 = a then F l else 0
def sxM (v : WV) (a : Nat) (F : Nat → Nat) : Nat := sm (sxL v a F) (vL v)
theorem sxM_C {m B e : Nat} (hF : WF m B v) (he : e < 2 * vL v) (ha : xh v e ≠ a) (hl : F (e / 2) ≤ xro v (e / 2)) (hr : x ≤ sxR v F e) : sxM v a (sxC F e x) + (if xt v e = a then x else 0) = sxM v a F := by
  have u := sm_up (F := sxL v a (sxC F e x)) (G := sxL v a F) (n := vL v) (k := e / 2) (by omega) (fun l _ hn => by
    have : sxC F e x l = F l := if_neg hn
    unfold sxL
    rw [this])
  have own : sxC F e x (e / 2) = if e % 2 = 0 then F (e / 2) + x else F (e / 2) - x := if_pos rfl
  unfold sxM
  have q : sxL v a (sxC F e x) (e / 2) + (if xt v e = a then x else 0) = sxL v a F (e / 2) := by
    have hd := (hF.2.2.1 (e / 2) (by omega)).2.2.2.1
    unfold sxL
    rw [own]
    unfold xh at ha
    unfold xt
    unfold sxR at hr
    by_cases k : e % 2 = 0
    · simp only [if_pos k] at ha hr ⊢
      by_cases z : vl v (e / 2) 1 = a
      · simp only [if_pos z]; omega
      · simp only [if_neg z, if_neg ha]
    · simp only [if_neg k] at ha hr ⊢
      simp only [if_neg ha]
      by_cases z : vl v (e / 2) 2 = a
      · simp only [if_pos z]; omega
      · simp only [if_neg z]
  omega
theorem sxM_U {m B : Nat} (hF : WF m B v) (hx : Fx v F0 X) (hI : RI v F0 a T π i X) : ∀ n s F, s ≠ a → X.1 s ≠ 1000000 → sxK X.2.2 s ≤ n → sxI v F0 X a s F → sxA v X a (fun t => x ≤ sxR v F0 (X.2.1 t)) (n + 1) s → sxM v a (sxU v X a x (n + 1) s F) + x = sxM v a F := by
  intro n
  induction n with
  | zero =>
    intro s F hs hf hk hi hA
    obtain ⟨b1, b2, b3, b4, b5, b6⟩ := hI.2.2 s hs hf
    have := sxK_lt (xt_6 hF b1).1 (fx_eq (m := m) (B := B) hx hI hs hf).2
    omega
  | succ n ih =>
    intro s F hs hf hk hi hA
    obtain ⟨b1, b2, b3, b4, b5, b6⟩ := hI.2.2 s hs hf
    have lt := sxK_lt (xt_6 hF b1).1 (fx_eq (m := m) (B := B) hx hI hs hf).2
    have e1 : sxU v X a x (n + 1 + 1) s F = sxU v X a x (n + 1) (sxP v X s) (sxC F (X.2.1 s) x) := if_neg hs
    have q := hA hs
    have e0 := hi.2.1 s hs hf (Nat.le_refl _)
    have hr : x ≤ sxR v F (X.2.1 s) := by
      have := q.1
      unfold sxR at this ⊢
      rw [e0]
      exact this
    have c := sxM_C (a := a) hF b1 (by rw [b2]; exact hs) (hi.1 _ (by omega)) hr
    have st := sxI.step (m := m) (B := B) hx hI hs hf hi q.1
    rw [e1]
    by_cases z : xt v (X.2.1 s) = a
    · have e2 : sxU v X a x (n + 1) (sxP v X s) (sxC F (X.2.1 s) x) = sxC F (X.2.1 s) x := if_pos z
      rw [e2]
      rw [if_pos z] at c
      exact c
    · rw [if_neg z] at c
      have := ih (sxP v X s) _ z b4 (by unfold sxP; omega) st q.2
      omega
end Rx
