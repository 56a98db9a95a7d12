/-! the stream of the class: steps, room, relaxing -/
abbrev clsX : Nat → Nat → Prop := fun a _ => 99 ≤ a ∧ a ≤ 104
/-- the class stands in its world -/
def SXW (v : WV) (h : HP) : Prop := HC 1 v h ∧ gw h 1 = 1
/-- left and used show the flow -/
def SXF (v : WV) (F : Nat → Nat) (h : HP) : Prop := ∀ l, l < vL v → gi h 101 l = nI (xro v l - F l) ∧ gi h 102 l = nI (F l)
/-- ticks and by show the state -/
def SXD (a : Nat) (x : RX) (h : HP) : Prop := ∀ s, s < 6 → gi h 103 s = nI (x.1 s) ∧ (s ≠ a → x.1 s ≠ 1000000 → gi h 104 s = nI (x.2.1 s))
theorem SXW.fr {m B : Nat} {P : Nat → Nat → Prop} {v : WV} {h h' : HP} (hF : WF m B v) (hw : SXW v h) (f : FrI P h h') (hp : ∀ a k, P a k → clsX a k) : SXW v h' :=
  ⟨hw.1.frame f (fun a k h1 h2 q => by have := hp a k q; simp only [clsX] at this; omega) hF.1.2.1 hF.1.2.2, by rw [f.2.2]; exact hw.2⟩
section Str
variable {v : WV} {F : Nat → Nat} {a e i m B : Nat} {T : Nat → Prop} {π : Nat → Nat} {x : RX} {h : HP} {Q : Int32 → HP → Prop}
theorem e_rem (he : e < 2 ^ 31) : nI e - nI e / 2 * 2 = nI (e % 2) := by rw [lit 2]; exact nI_rem he (by omega) (by omega)
theorem e_div (he : e < 2 ^ 31) : nI e / 2 = nI (e / 2) := by rw [lit 2]; exact nI_div he (by omega) (by omega)
theorem n_eq0 {n : Nat} (hn : n < 2 ^ 31) : (nI n = (0 : Int32)) = (n = 0) := propext ⟨fun q : nI n = nI 0 => nI_inj (b := 0) hn (by omega) q, fun q => by rw [q]; rfl⟩
theorem ite_e {n : Nat} (hn : n < 2 ^ 31) (A C : Int32) : (if nI n = (0 : Int32) then A else C) = (if n = 0 then A else C) := by
  by_cases q : n = 0
  · rw [if_pos q, if_pos (by rw [q]; rfl)]
  · rw [if_neg q]; exact if_neg (fun z : nI n = nI 0 => q (nI_inj (b := 0) hn (by omega) z))
theorem ite_l {n : Nat} (hn : n < 2 ^ 31) (A C : Int64) : (if nI n = (0 : Int32) then A else C) = (if n = 0 then A else C) := by
  by_cases q : n = 0
  · rw [if_pos q, if_pos (by rw [q]; rfl)]
  · rw [if_neg q]; exact if_neg (fun z : nI n = nI 0 => q (nI_inj (b := 0) hn (by omega) z))
theorem e_rem2 : nI e - nI (e / 2) * 2 = nI (e % 2) := by
  rw [lit 2, nI_mul, nI_sub (by omega)]
  congr 1
  omega
theorem xt_eq : xt v e = if e % 2 = 0 then vl v (e / 2) 1 else vl v (e / 2) 2 := rfl
theorem c_tail (hF : WF m B v) (hw : SXW v h) (he : e < 2 * vL v) (hQ : Q (nI (xt v e)) h) : f_X4_tail (nI e) h Q := by
  have hL := hF.1.2.2
  unfold f_X4_tail
  rw [e_rem (by omega), e_div (by omega), ite_e (by omega), hw.2, ix_nI (by omega), show 1 + 2 + 7 + 2 * (e / 2) = 1 + 9 + 2 * (e / 2) by omega, hw.1.2.2.1 (e / 2) (by omega) 1 (by omega), hw.1.2.2.1 (e / 2) (by omega) 2 (by omega)]
  have k6 : kd 1 = 6 := by decide +kernel
  refine ⟨fun _ => ⟨k6, vp_in_nI (by omega) (by decide)⟩, fun _ => ⟨k6, vp_in_nI (by omega) (by decide)⟩, ?_⟩
  rw [nI_ite, ← xt_eq]
  exact hQ
theorem xr_lt2 (he : e < 2 * vL v) : xr e < 2 * vL v := by unfold xr; split <;> omega
theorem xt_xr : xt v (xr e) = xh v e := by
  have h1 : xr e / 2 = e / 2 := by unfold xr; split <;> omega
  have h2 : xr e % 2 ≠ e % 2 := by unfold xr; split <;> omega
  exact (x_opp h1 h2).1
theorem c_head (hF : WF m B v) (hw : SXW v h) (he : e < 2 * vL v) (hQ : Q (nI (xh v e)) h) : f_X4_head (nI e) h Q := by
  have hL := hF.1.2.2
  unfold f_X4_head
  rw [nI_xor (by omega)]
  refine c_tail hF hw (xr_lt2 he) ?_
  rw [xt_xr]
  exact hQ
theorem c_sroom (hF : WF m B v) (hf : SXF v F h) (he : e < 2 * vL v) (hQ : Q (nI (sxR v F e)) h) : f_X4_room (nI e) h Q := by
  have hL := hF.1.2.2
  unfold f_X4_room
  rw [e_rem (by omega), e_div (by omega), ite_e (by omega), ix_nI (by omega), (hf (e / 2) (by omega)).1, (hf (e / 2) (by omega)).2]
  refine ⟨fun _ => vp_in_nI (by omega) (by decide), fun _ => vp_in_nI (by omega) (by decide), ?_⟩
  rw [nI_ite]
  exact hQ
theorem sxR_le (hF : WF m B v) (hl : ∀ l, l < vL v → F l ≤ xro v l) (he : e < 2 * vL v) : sxR v F e ≤ 300 := by
  have h1 := hl (e / 2) (by omega)
  have h2 := xro_le (l := e / 2) hF (by omega)
  unfold sxR
  split <;> omega
theorem xrs_R (hl : F (e / 2) ≤ xro v (e / 2)) : xrs v F e ↔ sxR v F e ≠ 0 := by
  unfold xrs sxR
  split <;> omega
theorem rlx_pos (h : ximp v F x.1 e) : rlx v F i e x = (xup x.1 (xh v e) (xnw v x.1 e), xup x.2.1 (xh v e) e, xup x.2.2 (xh v e) (i + 1)) := by
  unfold rlx; exact if_pos h
theorem rlx_neg (h : ¬ ximp v F x.1 e) : rlx v F i e x = x := by
  unfold rlx; exact if_neg h
theorem SXF.fr {P : Nat → Nat → Prop} {h' : HP} (hf : SXF v F h) (f : FrI P h h') (hp : ∀ k, ¬ P 101 k ∧ ¬ P 102 k) : SXF v F h' := by
  intro l hl
  rw [f.1 _ _ (hp l).1, f.1 _ _ (hp l).2]
  exact hf l hl
abbrev clsD : Nat → Nat → Prop := fun a _ => a = 103 ∨ a = 104
/-- what a relaxing step needs of the numbers -/
theorem xnw_tk (hP : Pot v F a T π) (hI : RI v F a T π i x) (he : e < 2 * vL v) (hr : xrs v F e) (hu : x.1 (xt v e) ≠ 1000000) : e % 2 = 0 ∨ takesL v (e / 2) ≤ x.1 (xt v e) := by
  by_cases k : e % 2 = 0
  · exact Or.inl k
  · have p := (hI.2.1 _).2.2 hu
    have q := (hP.2 e he hr p.1).2
    rw [if_neg k] at q
    exact Or.inr (by omega)
theorem c_improve (hF : WF m B v) (hP : Pot v F a T π) (hl : ∀ l, l < vL v → F l ≤ xro v l) (hI : RI v F a T π i x) (hw : SXW v h) (hf : SXF v F h) (hd : SXD a x h) (he : e < 2 * vL v)
    (h1 : ∀ h', ximp v F x.1 e → SXD a (rlx v F i e x) h' → FrI clsD h h' → Q 1 h') (h0 : ¬ ximp v F x.1 e → Q 0 h) : f_X4_improve (nI e) h Q := by
  have hL := hF.1.2.2
  have t6 := xt_6 hF he
  have du := (hI.2.1 (xt v e)).1
  have dw := (hI.2.1 (xh v e)).1
  have tk := takesL_le2 (l := e / 2) hF (by omega)
  unfold f_X4_improve
  refine c_tail hF hw he ⟨vp_in_nI t6.1 (by decide), ?_⟩
  intro x2 e2
  rw [ix_nI (by omega), (hd _ t6.1).1] at e2
  subst e2
  refine br_eq (b := 1000000) (by omega) (by omega) (fun z => h0 (fun q => q.1 z)) (fun z => ?_)
  refine c_sroom hF hf he ?_
  have r3 := sxR_le hF hl he
  refine br_eq (b := 0) (by omega) (by omega) (fun z2 => h0 (fun q => (xrs_R (hl _ (by omega))).mp q.2.1 z2)) (fun z2 => ?_)
  have hr : xrs v F e := (xrs_R (hl _ (by omega))).mpr z2
  have tn := xnw_tk hP hI he hr z
  rw [hw.2, e_div (by omega), ix_nI (by omega), show 1 + 2 + 7 + 2 * (e / 2) = 1 + 9 + 2 * (e / 2) by omega]
  refine ⟨by decide +kernel, vp_in_nI (by omega) (by decide), c_takes hF hw.1 (by omega) ?_⟩
  intro x4 e4
  have e4' : x4 = nI (xnw v x.1 e) := by
    rw [e4, e_rem2, ite_e (by omega)]
    unfold xnw
    by_cases k : e % 2 = 0
    · rw [if_pos k, if_pos k, nI_add]
    · rw [if_neg k, if_neg k, nI_sub (tn.resolve_left k)]
  subst e4'
  have xb : xnw v x.1 e < 2 ^ 31 := by unfold xnw; split <;> omega
  refine c_head hF hw he ⟨vp_in_nI t6.2 (by decide), ?_⟩
  rw [ix_nI (by omega), (hd _ t6.2).1]
  refine br_lt xb (by omega) (fun z3 => ?_) (fun z3 => h0 (fun q => by have := q.2.2; omega))
  refine c_head hF hw he ⟨vp_in_nI t6.2 (by decide), ?_⟩
  intro h2 eh2
  rw [ix_nI (by omega)] at eh2
  have f2 : FrI clsD h h2 := by rw [eh2]; exact FrI.si (Or.inl rfl)
  have w2 : SXW v h2 := hw.fr hF f2 (by intro a k; simp only [clsD, clsX]; omega)
  refine c_head hF w2 he ⟨vp_in_nI t6.2 (by decide), ?_⟩
  intro h3 eh3
  rw [ix_nI (by omega)] at eh3
  have im : ximp v F x.1 e := ⟨z, hr, z3⟩
  refine h1 h3 im ?_ (f2.trans (by rw [eh3]; exact FrI.si (Or.inr rfl)))
  rw [rlx_pos im]
  intro s hs
  have ds := hd s hs
  by_cases q : s = xh v e
  · have q1 : xup x.1 (xh v e) (xnw v x.1 e) s = xnw v x.1 e := if_pos q
    have q2 : xup x.2.1 (xh v e) e s = e := if_pos q
    show gi h3 103 s = nI (xup x.1 (xh v e) (xnw v x.1 e) s) ∧ (s ≠ a → xup x.1 (xh v e) (xnw v x.1 e) s ≠ 1000000 → gi h3 104 s = nI (xup x.2.1 (xh v e) e s))
    rw [q1, q2, eh3, gi_si, if_neg (by omega), eh2, gi_si, if_pos ⟨rfl, q⟩, gi_si, if_pos ⟨rfl, q⟩]
    exact ⟨rfl, fun _ _ => rfl⟩
  · have q1 : xup x.1 (xh v e) (xnw v x.1 e) s = x.1 s := if_neg q
    have q2 : xup x.2.1 (xh v e) e s = x.2.1 s := if_neg q
    show gi h3 103 s = nI (xup x.1 (xh v e) (xnw v x.1 e) s) ∧ (s ≠ a → xup x.1 (xh v e) (xnw v x.1 e) s ≠ 1000000 → gi h3 104 s = nI (xup x.2.1 (xh v e) e s))
    rw [q1, q2, eh3, gi_si, if_neg (by omega), eh2, gi_si, if_neg (fun z => q z.2), gi_si, if_neg (fun z => q z.2), gi_si, if_neg (by omega)]
    exact ds
/-- the rest of a pass, the flag as it stands -/
theorem c_pass {k : Nat} {x2 x4 : Int32} {k76 : Int32 → HP → Prop} (hF : WF m B v) (hP : Pot v F a T π) (hl : ∀ l, l < vL v → F l ≤ xro v l) (hI : RI v F a T π (2 * vL v * k) x) (hw : SXW v h) (hf : SXF v F h) (hd : SXD a x h)
    (hk : ∀ h' (c : Int32), SXD a (xps v F k (2 * vL v) x) h' → FrI clsD h h' → (c = 1 ∨ c = 0 ∧ Fx v F x) → k76 c h') : ∃ n, f_X4_findQuickest_L45 x2 x4 k76 Q n 0 0 h := by
  have hL := hF.1.2.2
  have key : ∀ r e, e + r = 2 * vL v → ∀ (c : Int32) h', SXW v h' → SXF v F h' → SXD a (xps v F k e x) h' → FrI clsD h h' → (c = 1 ∨ c = 0 ∧ xps v F k e x = x ∧ ∀ e', e' < e → ¬ ximp v F x.1 e') → f_X4_findQuickest_L45 x2 x4 k76 Q (r + 1) c (nI e) h' := by
    intro r
    induction r with
    | zero =>
      intro e her c h' w1 f1 d1 fr hc
      unfold f_X4_findQuickest_L45
      have e2 : e = 2 * vL v := by omega
      rw [w1.2, w1.1.1.2.2.2, lit 2, nI_mul]
      refine ⟨by decide +kernel, br_le (by omega) (by omega) (fun _ => ?_) (fun z => by omega)⟩
      refine hk h' c (by rw [← e2]; exact d1) fr ?_
      rcases hc with q | q
      · exact Or.inl q
      · exact Or.inr ⟨q.1, fun e' he' => q.2.2 e' (by omega)⟩
    | succ r ih =>
      intro e her c h' w1 f1 d1 fr hc
      unfold f_X4_findQuickest_L45
      rw [w1.2, w1.1.1.2.2.2, lit 2, nI_mul]
      refine ⟨by decide +kernel, br_le (by omega) (by omega) (fun z => by omega) (fun _ => ?_)⟩
      have I1 := RI.ps hF hP hI e (by omega)
      refine c_improve hF hP hl I1 w1 f1 d1 (by omega) (fun h2 im d2 f2 => br1 ?_) (fun im => br0 ?_)
      · intro x5 e5
        rw [e5, nI_1]
        exact ih (e + 1) (by omega) 1 h2 (w1.fr hF f2 (by intro a k; simp only [clsD, clsX]; omega)) (f1.fr f2 (by intro k; simp only [clsD]; omega)) d2 (fr.trans f2) (Or.inl rfl)
      · intro x5 e5
        rw [e5, nI_1]
        have same : xps v F k (e + 1) x = xps v F k e x := rlx_neg im
        refine ih (e + 1) (by omega) c h' w1 f1 (by rw [same]; exact d1) fr ?_
        rcases hc with q | q
        · exact Or.inl q
        · refine Or.inr ⟨q.1, same.trans q.2.1, fun e' he' => ?_⟩
          by_cases z : e' = e
          · rw [z]; rw [q.2.1] at im; exact im
          · exact q.2.2 e' (by omega)
  exact ⟨_, key (2 * vL v) 0 (by omega) 0 h hw hf hd FrI.rf (Or.inr ⟨rfl, rfl, fun _ q => by omega⟩)⟩
theorem c_findQ {b : Nat} (hF : WF m B v) (hP : Pot v F a T π) (ha : a < 6) (hb : b < 6) (hl : ∀ l, l < vL v → F l ≤ xro v l) (hw : SXW v h) (hf : SXF v F h)
    (h0 : ∀ h', SXD a (sxX v F a) h' → FrI clsD h h' → (sxX v F a).1 b = 1000000 → Q 0 h') (h1 : ∀ h', SXD a (sxX v F a) h' → FrI clsD h h' → (sxX v F a).1 b ≠ 1000000 → Q 1 h') : f_X4_findQuickest (nI a) (nI b) h Q := by
  unfold f_X4_findQuickest
  refine t_fillI (n := 6) (by decide +kernel) (by omega) (fun ha1 g1 f1 => ?_)
  refine t_fillI (n := 6) (by decide +kernel) (by omega) (fun ha2 g2 f2 => ?_)
  refine ⟨vp_in_nI ha (by decide), ?_⟩
  intro h4 e4
  rw [ix_nI (by omega)] at e4
  have fr4 : FrI clsD h h4 := (f1.mono (fun a k q => by simp only [clsD]; omega)).trans ((f2.mono (fun a k q => by simp only [clsD]; omega)).trans (by rw [e4]; exact FrI.si (Or.inl rfl)))
  have d4 : SXD a (rx0 a) h4 := by
    intro s hs
    refine ⟨?_, fun q1 q2 => absurd (if_neg q1) q2⟩
    show gi h4 103 s = nI (if s = a then 0 else 1000000)
    rw [e4, gi_si]
    by_cases q : s = a
    · rw [if_pos ⟨rfl, q⟩, if_pos q]; rfl
    · rw [if_neg (fun z => q z.2), if_neg q, f2.1 _ _ (by omega), g1 s hs]; rfl
  have fin : ∀ k h', SXD a (xrun v F (rx0 a) k) h' → FrI clsD h h' → (Fx v F (xrun v F (rx0 a) k) ∨ 5 ≤ k) → f_X4_findQuickest_J82 (nI b) Q h' := by
    intro k h' d fr q
    rw [sx_of hF hP ha q] at d
    unfold f_X4_findQuickest_J82
    refine ⟨vp_in_nI hb (by decide), ?_⟩
    rw [ix_nI (by omega), (d b hb).1]
    have bd : (sxX v F a).1 b ≤ 1000000 := ((RI.run hF hP 5).2.1 b).1
    by_cases z : (sxX v F a).1 b = 1000000
    · have zz : (1000000 : Int32) ≤ nI ((sxX v F a).1 b) := nI_le (a := 1000000) (by omega) (by omega)
      rw [if_pos zz]
      exact h0 h' d fr z
    · have zz : ¬ (1000000 : Int32) ≤ nI ((sxX v F a).1 b) := fun q => z (by have := (nI_leI (a := 1000000) (by omega) (by omega)).mp q; omega)
      rw [if_neg zz]
      exact h1 h' d fr z
  have key : ∀ r k, k + r = 6 → ∀ (c : Int32) h', SXD a (xrun v F (rx0 a) k) h' → FrI clsD h h' → (c = 1 ∨ c = 0 ∧ Fx v F (xrun v F (rx0 a) k)) → f_X4_findQuickest_L29 (nI b) (fun h18 => f_X4_findQuickest_J82 (nI b) Q h18) Q (r + 1) c (nI k) h' := by
    intro r
    induction r with
    | zero =>
      intro k hk c h' d fr hc
      unfold f_X4_findQuickest_L29
      exact br_le (a := 6) (by omega) (by omega) (fun _ => fin k h' d fr (Or.inr (by omega))) (fun z => by omega)
    | succ r ih =>
      intro k hk c h' d fr hc
      unfold f_X4_findQuickest_L29
      refine br_le (a := 6) (by omega) (by omega) (fun z => by omega) (fun _ => ?_)
      rcases hc with q | q
      · rw [q]
        refine br1 ?_
        have w1 := hw.fr hF fr (by intro a k; simp only [clsD, clsX]; omega)
        have s1 := hf.fr fr (by intro k; simp only [clsD]; omega)
        refine c_pass hF hP hl (RI.run hF hP k) w1 s1 d (fun h2 c2 d2 f2 hc2 => ?_)
        intro y ey
        rw [ey, nI_1]
        refine ih (k + 1) (by omega) c2 h2 d2 (fr.trans f2) ?_
        rcases hc2 with q2 | q2
        · exact Or.inl q2
        · refine Or.inr ⟨q2.1, ?_⟩
          have : xrun v F (rx0 a) (k + 1) = xrun v F (rx0 a) k := fx_ps q2.2 k _ (Nat.le_refl _)
          rw [this]
          exact q2.2
      · rw [q.1]
        exact br0 (fin k h' d fr (Or.inl q.2))
  exact ⟨_, key 6 0 (by omega) 1 h4 d4 fr4 (Or.inl rfl)⟩
end Str
