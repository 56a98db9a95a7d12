/-! an item of a text, the class -/
noncomputable def stF (n : Nat) (b : Nat → Int32) (k p : Nat) (u : WV) : Except Nat (Nat × WV) :=
  match optF n b 10 0 1000 0 p with
  | .error q => .error q
  | .ok (s, p2) => match optF n b 11 0 100 20 p2 with
    | .error q => .error q
    | .ok (t, p3) => .ok (p3, setS (addS u k s 20) (vS u) 2 t)
noncomputable def lxF (n : Nat) (b : Nat → Int32) (u' : WV) (L p : Nat) : Except Nat (Nat × WV) := by
  classical exact if wmt n b p 15 then (match numF n b 0 100 (tE n b p) with
    | .error q => .error q
    | .ok (c, p2) => match numF n b 0 1000 p2 with
      | .error q => .error q
      | .ok (d, p3) => .ok (p3, setL (setL u' L 6 c) L 7 d)) else .ok (p, u')
noncomputable def loF (n : Nat) (b : Nat → Int32) (k x y p : Nat) (u : WV) : Except Nat (Nat × WV) :=
  match optF n b 12 0 100 10 p with
  | .error q => .error q
  | .ok (wd, p3) => match optF n b 13 1 10 1 p3 with
    | .error q => .error q
    | .ok (tk, p4) => match optF n b 14 0 6 0 p4 with
      | .error q => .error q
      | .ok (ti, p5) => lxF n b (setL (addL u k x y wd tk) (vL u) 5 ti) (vL u) p5
noncomputable def lnF (n : Nat) (b : Nat → Int32) (k p : Nat) (u : WV) : Except Nat (Nat × WV) :=
  match numF n b 0 (vS u) p with
  | .error q => .error q
  | .ok (x, p1) => if tK n b p1 = 2 ∧ tV n b p1 = x then .error (tP n b p1) else match numF n b 0 (vS u) p1 with
    | .error q => .error q
    | .ok (y, p2) => loF n b k x y p2 u
noncomputable def itW (n : Nat) (b : Nat → Int32) (w p : Nat) (u : WV) : Except Nat (Nat × WV) :=
  if w < 4 then (if vS u < 6 then stF n b w (tE n b p) u else .error (tP n b p)) else (if vL u < 10 then lnF n b (w - 4) (tE n b p) u else .error (tP n b p))
noncomputable def itF (n : Nat) (b : Nat → Int32) (p : Nat) (u : WV) : Except Nat (Nat × WV) := by
  classical exact if q : ∃ w, w < 10 ∧ wmt n b p w then itW n b (Classical.choose q) p u else .error (tP n b p)
theorem it_w {n w p : Nat} {b : Nat → Int32} {u : WV} (hw : w < 10) (h : wmt n b p w) : itF n b p u = itW n b w p u := by
  unfold itF
  have q : ∃ w, w < 10 ∧ wmt n b p w := ⟨w, hw, h⟩
  rw [dif_pos q]
  have c := Classical.choose_spec q
  rw [wm_one (by omega) (by omega) c.2.2 h.2]
theorem it_no {n p : Nat} {b : Nat → Int32} {u : WV} (h : ∀ w, w < 10 → ¬ wmt n b p w) : itF n b p u = .error (tP n b p) := by
  unfold itF
  rw [dif_neg (fun q => by obtain ⟨w, a, c⟩ := q; exact h w a c)]
abbrev cellsU : Nat → Nat → Prop := fun a k => (59 ≤ a ∧ a < 88) ∨ (a = 105 ∧ 2 ≤ k ∧ k ≤ 6)
theorem cW_U : ∀ a k, cellsW a k → cellsU a k := by intro a k; simp only [cellsW, cellsU]; omega
theorem cC_U : ∀ a k, cellsC 59 a k → cellsU a k := by intro a k; simp only [cellsC, cellsU]; omega
section Tok
variable {n p : Nat} {b : Nat → Int32} {h : HP} {u : WV}
theorem TG.keep {h' : HP} (hT : TG n b p h) (f : FrI (cellsC 59) h h') : TG n b p h' := by
  obtain ⟨⟨a1, a2, a3, a4, a5, a6⟩, d⟩ := hT
  refine ⟨⟨?_, fun i hi => ?_, ?_, ?_, ?_, fun q => ?_⟩, ?_⟩
  · rw [f.1 _ _ (by simp only [cellsC]; omega)]; exact a1
  · rw [f.1 _ _ (by simp only [cellsC]; omega)]; exact a2 i hi
  · rw [f.1 _ _ (by simp only [cellsC]; omega)]; exact a3
  · rw [f.1 _ _ (by simp only [cellsC]; omega)]; exact a4
  · rw [f.1 _ _ (by simp only [cellsC]; omega)]; exact a5
  · rw [f.1 _ _ (by simp only [cellsC]; omega)]; exact a6 q
  · rw [f.1 _ _ (by simp only [cellsC]; omega)]; exact d
theorem HC.w59 {h' : HP} (hC : HC 59 u h) (f : FrI cellsW h h') (hS : vS u ≤ 6) (hL : vL u ≤ 10) : HC 59 u h' := hC.frame f (by intro a k h1 h2; simp only [cellsW]; omega) hS hL
theorem c_stn {Q : HP → Prop} {k : Nat} (hn : n ≤ 120) (hp : p ≤ n) (hT : TG n b p h) (hC : HC 59 u h) (hS : vS u < 6) (hL : vL u ≤ 10) (hY : ∀ p' u', stF n b k p u = .ok (p', u') → ∀ h', TG n b p' h' → HC 59 u' h' → FrI cellsU h h' → Q h') (hN : ∀ q, stF n b k p u = .error q → ∀ h', gi h' 105 2 = nI q → FrI cellsU h h' → Q h') : f_X5_readStation 59 (nI k) h Q := by
  unfold f_X5_readStation
  have tail : ∀ s t h1, HC 59 u h1 → (∀ h', HC 59 (setS (addS u k s 20) (vS u) 2 t) h' → FrI (cellsC 59) h1 h' → Q h') → f_X6_addStation 59 (nI k) (nI s) h1 (fun v6 h5 => vp_in v6 6 ∧ ∀ h8 : HP, h8 = si h5 ((59 + 1) + 2 + ix v6) 2 (nI t) → Q h8) := by
    intro s t h1 c1 hK
    refine c_addStation c1 hS hL (fun h2 c2 f2 => ⟨vp_in_nI hS (by decide), fun h8 e8 => ?_⟩)
    rw [ix_nI (by omega), show 59 + 1 + 2 + vS u = 59 + 3 + vS u by omega] at e8
    have c8 := hc_setS c2 (by show vS u + 1 ≤ 6; omega) hL (s := vS u) (k := 2) (x := t) (by show vS u < vS u + 1; omega) (by omega)
    rw [← e8] at c8
    have f8 : FrI (cellsC 59) h2 h8 := by rw [e8]; exact FrI.si ⟨by omega, by omega⟩
    exact hK h8 c8 (f2.trans f8)
  unfold stF at hY hN
  refine c_opt (w := 10) (lo := 0) (hx := 1000) (d := 0) hn hp (by omega) rfl (by omega) (by omega) rfl hT (fun s p2 e1 h1 t1 f1 => ?_) (fun q e1 x h1 t1 f1 => ?_)
  · have b1 := opt_ok hp (by omega) e1
    have c1 := hC.w59 f1 (by omega) hL
    simp only [e1] at hY hN
    refine c_opt (w := 11) (lo := 0) (hx := 100) (d := 20) hn b1.2.2.1 (by omega) rfl (by omega) (by omega) rfl t1 (fun t p3 e2 h2 t2 f2 => ?_) (fun q e2 x h2 t2 f2 => ?_)
    · have c2 := c1.w59 f2 (by omega) hL
      simp only [e2] at hY hN
      exact tail s t h2 c2 (fun h' c' f' => hY p3 _ rfl h' (t2.keep f') c' (((f1.trans f2).mono cW_U).trans (f'.mono cC_U)))
    · have c2 := c1.w59 f2 (by omega) hL
      simp only [e2] at hY hN
      exact tail s x h2 c2 (fun h' c' f' => hN q rfl h' (by rw [f'.1 _ _ (by simp only [cellsC]; omega)]; exact t2) (((f1.trans f2).mono cW_U).trans (f'.mono cC_U)))
  · have q1 := opt_er hp e1
    have c1 := hC.w59 f1 (by omega) hL
    simp only [e1] at hY hN
    refine b_opt (by omega) t1 ?_
    exact tail x 20 h1 c1 (fun h' c' f' => hN q rfl h' (by rw [f'.1 _ _ (by simp only [cellsC]; omega)]; exact t1) ((f1.mono cW_U).trans (f'.mono cC_U)))
theorem c_lnx {Q : HP → Prop} {L : Nat} (hn : n ≤ 120) (hp : p ≤ n) (hT : TG n b p h) (hC : HC 59 u h) (hS : vS u ≤ 6) (hL : vL u ≤ 10) (hl : L < vL u) (hY : ∀ p' u', lxF n b u L p = .ok (p', u') → ∀ h', TG n b p' h' → HC 59 u' h' → FrI cellsU h h' → Q h') (hN : ∀ q, lxF n b u L p = .error q → ∀ h', gi h' 105 2 = nI q → FrI cellsU h h' → Q h') : f_X5_takeWord 6015 h (fun v21 h20 => (((v21 = 0) → Q h20) ∧ (¬ (v21 = 0) → f_X5_takeNumber 0 99 h20 (fun v24 h23 => ∀ h25 : HP, h25 = si h23 (59 + 9 + 2 * L) 6 v24 → f_X5_takeNumber 0 999 h25 (fun v27 h26 => ∀ h28 : HP, h28 = si h26 (59 + 9 + 2 * L) 7 v27 → Q h28))))) := by
  have eb := tE_b (b := b) hp
  refine c_word (w := 15) hn hp (by omega) rfl hT (fun z h1 t1 f1 => br1 ?_) (fun z => br0 ?_)
  · unfold lxF at hY hN
    rw [if_pos z] at hY hN
    have c1 := hC.w59 f1 hS hL
    refine c_num (lo := 0) (hx := 100) hn eb.2.1 (by omega) (by omega) rfl t1 (fun v p2 e2 h2 t2 f2 => ?_) (fun q e2 h2 t2 f2 => ?_)
    · have b2 := num_ok eb.2.1 e2
      have c2 := c1.w59 f2 hS hL
      simp only [e2] at hY hN
      intro h3 e3
      have c3 := hc_setL c2 hS hL (l := L) (k := 6) (x := v) hl (by omega)
      rw [← e3] at c3
      have f3 : FrI (cellsC 59) h2 h3 := by rw [e3]; exact FrI.si ⟨by omega, by omega⟩
      refine c_num (lo := 0) (hx := 1000) hn b2.2.2.1 (by omega) (by omega) rfl (t2.keep f3) (fun w p4 e4 h4 t4 f4 => ?_) (fun q e4 h4 t4 f4 => ?_)
      · have c4 := c3.w59 f4 hS hL
        simp only [e4] at hY hN
        intro h5 e5
        have c5 := hc_setL c4 hS hL (l := L) (k := 7) (x := w) hl (by omega)
        rw [← e5] at c5
        have f5 : FrI (cellsC 59) h4 h5 := by rw [e5]; exact FrI.si ⟨by omega, by omega⟩
        exact hY p4 _ rfl h5 (t4.keep f5) c5 ((((f1.trans f2).mono cW_U).trans (f3.mono cC_U)).trans ((f4.mono cW_U).trans (f5.mono cC_U)))
      · simp only [e4] at hY hN
        intro h5 e5
        have f5 : FrI (cellsC 59) h4 h5 := by rw [e5]; exact FrI.si ⟨by omega, by omega⟩
        exact hN q rfl h5 (by rw [f5.1 _ _ (by simp only [cellsC]; omega)]; exact t4) ((((f1.trans f2).mono cW_U).trans (f3.mono cC_U)).trans ((f4.mono cW_U).trans (f5.mono cC_U)))
    · have b2 := num_er eb.2.1 e2
      simp only [e2] at hY hN
      intro h3 e3
      have f3 : FrI (cellsC 59) h2 h3 := by rw [e3]; exact FrI.si ⟨by omega, by omega⟩
      have t3 : gi h3 105 2 = nI q := by rw [f3.1 _ _ (by simp only [cellsC]; omega)]; exact t2
      refine b_num (by omega) t3 ?_
      intro h5 e5
      have f5 : FrI (cellsC 59) h3 h5 := by rw [e5]; exact FrI.si ⟨by omega, by omega⟩
      exact hN q rfl h5 (by rw [f5.1 _ _ (by simp only [cellsC]; omega)]; exact t3) ((((f1.trans f2).mono cW_U).trans (f3.mono cC_U)).trans (f5.mono cC_U))
  · have e : lxF n b u L p = .ok (p, u) := by unfold lxF; rw [if_neg z]
    exact hY p u e h hT hC FrI.rf
end Tok
