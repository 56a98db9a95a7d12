/-! the stream of the class: path, pushing, rounds -/
abbrev clsP : Nat → Nat → Prop := fun a _ => a = 101 ∨ a = 102
theorem i32_subneg (a b : Int32) : a - -b = a + b := by
  rw [Int32.sub_eq_add_neg, Int32.neg_neg]
theorem i32_addneg (a b : Int32) : a + -b = a - b := (Int32.sub_eq_add_neg a b).symm
section Str
variable {v : WV} {F F0 : Nat → Nat} {a b x i m B : Nat} {T : Nat → Prop} {π : Nat → Nat} {X : RX} {h h0 : HP}
theorem c_snarrow {Q : Int32 → HP → Prop} (hF : WF m B v) (ha : a < 6) (hx : Fx v F X) (hI : RI v F a T π i X) (hl : ∀ l, l < vL v → F l ≤ xro v l) (hw : SXW v h) (hf : SXF v F h) (hd : SXD a X h) : ∀ n s k c, c + n = 6 → sxK X.2.2 s < n → X.1 s ≠ 1000000 → s < 6 → k < 2 ^ 31 → Q (nI (sxN v F X a n s k)) h → f_X4_narrowest_L9 (nI a) Q n (nI k) (nI s) (nI c) h := by
  intro n
  induction n with
  | zero => intro s k c h1 h2; omega
  | succ n ih =>
    intro s k c h1 h2 h3 h4 h5 hQ
    have hL := hF.1.2.2
    unfold f_X4_narrowest_L9
    refine br_le (a := 6) (by omega) (by omega) (fun z => by omega) (fun _ => ?_)
    refine br_eq (by omega) (by omega) (fun z => ?_) (fun z => ?_)
    · have e : sxN v F X a (n + 1) s k = k := if_pos z
      rw [e] at hQ
      exact hQ
    · have e : sxN v F X a (n + 1) s k = sxN v F X a n (sxP v X s) (if sxR v F (X.2.1 s) < k then sxR v F (X.2.1 s) else k) := if_neg z
      rw [e] at hQ
      obtain ⟨b1, b2, b3, b4, b5, b6⟩ := hI.2.2 s z h3
      have lt := sxK_lt (xt_6 hF b1).1 (fx_eq (m := m) (B := B) hx hI z h3).2
      have e4 : gi h 104 (ix (nI s)) = nI (X.2.1 s) := by rw [ix_nI (by omega)]; exact (hd s h4).2 z h3
      have r3 := sxR_le hF hl b1
      refine ⟨vp_in_nI h4 (by decide), ?_⟩
      rw [e4]
      refine ⟨fun q => absurd q (nI_pos (by omega)), fun _ => ⟨vp_in_nI h4 (by decide), ?_⟩⟩
      refine c_sroom hF hf b1 ?_
      intro y ey
      refine ⟨vp_in_nI h4 (by decide), ?_⟩
      rw [e4]
      refine c_tail hF hw b1 ?_
      intro z5 e5
      have ey' : y = nI (if sxR v F (X.2.1 s) < k then sxR v F (X.2.1 s) else k) := by
        rw [ey]
        by_cases q : sxR v F (X.2.1 s) < k
        · rw [if_pos q, if_pos (nI_lt q h5)]
        · rw [if_neg q, if_neg (nI_nlt (by omega) (by omega))]
      rw [e5, ey', nI_1]
      refine ih _ _ (c + 1) (by omega) (by omega) b4 (xt_6 hF b1).1 (by split <;> omega) hQ
theorem c_spush {Q : HP → Prop} (hF : WF m B v) (ha : a < 6) (hx : Fx v F0 X) (hI : RI v F0 a T π i X) (hxx : x ≤ 99999) : ∀ n s c F h, c + n = 6 → sxK X.2.2 s < n → X.1 s ≠ 1000000 → s < 6 → SXW v h → SXF v F h → SXD a X h → sxI v F0 X a s F → sxA v X a (fun t => x ≤ sxR v F0 (X.2.1 t)) n s → FrI clsP h0 h → (∀ h', SXF v (sxU v X a x n s F) h' → FrI clsP h0 h' → Q h') → f_X4_push_L6 (nI a) (nI x) Q n (nI s) (nI c) h := by
  intro n
  induction n with
  | zero => intro s c F h h1 h2; omega
  | succ n ih =>
    intro s c F h h1 h2 h3 h4 hw hf hd hi hA fr hQ
    have hL := hF.1.2.2
    unfold f_X4_push_L6
    refine br_le (a := 6) (by omega) (by omega) (fun z => by omega) (fun _ => ?_)
    refine br_eq (by omega) (by omega) (fun z => ?_) (fun z => ?_)
    · have e : sxU v X a x (n + 1) s F = F := if_pos z
      rw [e] at hQ
      exact hQ h hf fr
    · have e : sxU v X a x (n + 1) s F = sxU v X a x n (sxP v X s) (sxC F (X.2.1 s) x) := if_neg z
      rw [e] at hQ
      obtain ⟨b1, b2, b3, b4, b5, b6⟩ := hI.2.2 s z h3
      have lt := sxK_lt (xt_6 hF b1).1 (fx_eq (m := m) (B := B) hx hI z h3).2
      have q := hA z
      have st := sxI.step (m := m) (B := B) hx hI z h3 hi q.1
      have e0 := hi.2.1 s z h3 (Nat.le_refl _)
      have hr : x ≤ sxR v F (X.2.1 s) := by
        have := q.1
        unfold sxR at this ⊢
        rw [e0]
        exact this
      have hl1 := hi.1 (X.2.1 s / 2) (by omega)
      have e4 : gi h 104 (ix (nI s)) = nI (X.2.1 s) := by rw [ix_nI (by omega)]; exact (hd s h4).2 z h3
      refine ⟨vp_in_nI h4 (by decide), ?_⟩
      rw [e4]
      refine ⟨fun q => absurd q (nI_pos (by omega)), fun _ => ⟨vp_in_nI h4 (by decide), ?_⟩⟩
      intro x6 e6 x7 e7
      subst e6
      rw [e_rem (by omega), ite_e (by omega)] at e7
      rw [e_div (by omega), ix_nI (by omega)]
      have ff := hf (X.2.1 s / 2) (by omega)
      refine ⟨vp_in_nI (by omega) (by decide), vp_in_nI (by omega) (by decide), ?_⟩
      intro h12 e12
      refine ⟨vp_in_nI (by omega) (by decide), vp_in_nI (by omega) (by decide), ?_⟩
      intro h15 e15
      have fr2 : FrI clsP h h15 := (FrI.si (P := clsP) (h := h) (a := 101) (k := X.2.1 s / 2) (x := gi h 101 (X.2.1 s / 2) - x7) (Or.inl rfl)).trans (by rw [e15, e12]; exact FrI.si (Or.inr rfl))
      have w2 : SXW v h15 := hw.fr hF fr2 (by intro a k; simp only [clsP, clsX]; omega)
      have g12 : gi h12 102 (X.2.1 s / 2) = gi h 102 (X.2.1 s / 2) := by rw [e12, gi_si, if_neg (by omega)]
      have f2 : SXF v (sxC F (X.2.1 s) x) h15 := by
        intro l hl
        by_cases k : l = X.2.1 s / 2
        · have own : sxC F (X.2.1 s) x l = if X.2.1 s % 2 = 0 then F (X.2.1 s / 2) + x else F (X.2.1 s / 2) - x := if_pos k
          have A1 : gi h15 101 l = gi h 101 (X.2.1 s / 2) - x7 := by rw [e15, gi_si, if_neg (by omega), e12, gi_si, if_pos ⟨rfl, k⟩]
          have A2 : gi h15 102 l = gi h 102 (X.2.1 s / 2) + x7 := by rw [e15, gi_si, if_pos ⟨rfl, k⟩, g12]
          rw [own, A1, A2, ff.1, ff.2, e7, k]
          unfold sxR at hr
          by_cases k2 : X.2.1 s % 2 = 0
          · simp only [if_pos k2] at hr ⊢
            rw [nI_sub hr, nI_add, Nat.sub_sub]
            exact ⟨rfl, rfl⟩
          · simp only [if_neg k2] at hr ⊢
            rw [i32_subneg, i32_addneg, nI_sub hr, nI_add]
            have : xro v (X.2.1 s / 2) - F (X.2.1 s / 2) + x = xro v (X.2.1 s / 2) - (F (X.2.1 s / 2) - x) := by omega
            rw [this]
            exact ⟨rfl, rfl⟩
        · have oth : sxC F (X.2.1 s) x l = F l := if_neg k
          rw [oth, e15, gi_si, if_neg (by omega), e12, gi_si, if_neg (fun z => k z.2), gi_si, if_neg (fun z => k z.2), gi_si, if_neg (by omega)]
          exact hf l hl
      have d2 : SXD a X h15 := by
        intro s hs
        rw [fr2.1 _ _ (by simp only [clsP]; omega), fr2.1 _ _ (by simp only [clsP]; omega)]
        exact hd s hs
      refine c_tail hF w2 b1 ?_
      intro x5 e5
      rw [e5, nI_1]
      exact ih _ (c + 1) _ h15 (by omega) (by omega) b4 (xt_6 hF b1).1 w2 f2 d2 st q.2 (fr.trans fr2) hQ
/-- the stream shows a state -/
def SXH (v : WV) (s : XS) (h : HP) : Prop := SXW v h ∧ SXF v s.1 h ∧ (∀ d, d < 121 → gi h 100 d = nI (s.2 d)) ∧ gi h 99 2 = nI (sm s.2 121)
theorem c_rounds {Q : HP → Prop} (hF : WF m B v) (ha : a < 6) (hb : b < 6) (hab : b ≠ a) : ∀ n (s : XS) c h, sxM v a s.1 ≤ n → c + n ≤ 4000 → SXI v a s → SXH v s h → FrI clsX h0 h → (∀ h', SXH v (sxG v a b (n + 1) s) h' → FrI clsX h0 h' → Q h') → f_X4_solve_L77 (nI a) (nI b) Q (n + 1) (nI c) h := by
  intro n
  induction n with
  | zero =>
    intro s c h h1 h2 hI hS fr hQ
    unfold f_X4_solve_L77
    refine br_le (a := 1000000) (by omega) (by omega) (fun z => by omega) (fun _ => ?_)
    obtain ⟨⟨T, π, hP⟩, hl, hm⟩ := id hI
    refine c_findQ hF hP ha hb hl hS.1 hS.2.1 (fun h' d f z => br0 ?_) (fun h' d f z => ?_)
    · have e : sxG v a b (0 + 1) s = s := if_pos z
      rw [e] at hQ
      have fx : FrI clsX h h' := f.mono (fun a k q => by simp only [clsD] at q; simp only [clsX]; omega)
      refine hQ h' ⟨hS.1.fr hF fx (fun _ _ q => q), hS.2.1.fr f (by intro k; simp only [clsD]; omega), fun d hd => ?_, ?_⟩ (fr.trans fx)
      · rw [f.1 _ _ (by simp only [clsD]; omega)]; exact hS.2.2.1 d hd
      · rw [f.1 _ _ (by simp only [clsD]; omega)]; exact hS.2.2.2
    · have nx := SXI.next hF ha hab hI z
      omega
  | succ n ih =>
    intro s c h h1 h2 hI hS fr hQ
    unfold f_X4_solve_L77
    refine br_le (a := 1000000) (by omega) (by omega) (fun z => by omega) (fun _ => ?_)
    obtain ⟨⟨T, π, hP⟩, hl, hm⟩ := id hI
    refine c_findQ hF hP ha hb hl hS.1 hS.2.1 (fun h' d f z => br0 ?_) (fun h' d f z => br1 ?_)
    · have e : sxG v a b (n + 1 + 1) s = s := if_pos z
      rw [e] at hQ
      have fx : FrI clsX h h' := f.mono (fun a k q => by simp only [clsD] at q; simp only [clsX]; omega)
      refine hQ h' ⟨hS.1.fr hF fx (fun _ _ q => q), hS.2.1.fr f (by intro k; simp only [clsD]; omega), fun d hd => ?_, ?_⟩ (fr.trans fx)
      · rw [f.1 _ _ (by simp only [clsD]; omega)]; exact hS.2.2.1 d hd
      · rw [f.1 _ _ (by simp only [clsD]; omega)]; exact hS.2.2.2
    · have e : sxG v a b (n + 1 + 1) s = sxG v a b (n + 1) (sxS v a b s) := if_neg z
      rw [e] at hQ
      obtain ⟨n1, n2, n3, n4, n5, n6⟩ := SXI.next hF ha hab hI z
      have hR : RI v s.1 a T π (2 * vL v * 5) (sxX v s.1 a) := RI.run hF hP 5
      have hx := sx_fx hF hP ha
      have w1 : SXW v h' := hS.1.fr hF f (by intro a k; simp only [clsD, clsX]; omega)
      have f1 : SXF v s.1 h' := hS.2.1.fr f (by intro k; simp only [clsD]; omega)
      have k5 := sxK_5 (t := (sxX v s.1 a).2.2) hb
      unfold f_X4_narrowest
      refine ⟨6, c_snarrow (k := 2147483647) (c := 0) hF ha hx hR hl w1 f1 d 6 b (by omega) (by omega) z hb (by omega) ?_⟩
      have eN : sxN v s.1 (sxX v s.1 a) a 6 b 2147483647 = sxQ v a b s.1 := by
        refine sxN_big hab ?_ (by omega)
        have := sxR_le hF hl (hR.2.2 b hab z).1
        omega
      rw [eN]
      have hi : sxI v s.1 (sxX v s.1 a) a b s.1 := ⟨hl, fun _ _ _ _ => rfl, fun e _ q => Or.inl q⟩
      have hA : sxA v (sxX v s.1 a) a (fun t => sxQ v a b s.1 ≤ sxR v s.1 ((sxX v s.1 a).2.1 t)) 6 b := sxN_all 6 b 99999
      have vb : sxQ v a b s.1 ≤ 99999 := sxN_le 6 b 99999
      unfold f_X4_push
      refine ⟨6, c_spush (h0 := h') hF ha hx hR vb 6 b 0 s.1 h' (by omega) (by omega) z hb w1 f1 d hi hA FrI.rf (fun h2 f2 fr2 => ?_)⟩
      intro h3 e3
      refine ⟨vp_in_nI hb (by decide), ?_⟩
      have d3 : gi h3 103 (ix (nI b)) = nI ((sxX v s.1 a).1 b) := by
        rw [e3, gi_si, if_neg (by omega), ix_nI (by omega), fr2.1 _ _ (by simp only [clsP]; omega)]
        exact (d b hb).1
      apply t_isIn
      rw [d3, if_pos ⟨nI_le (a := 0) (by omega) (by omega), nI_le (b := 120) (by omega) (by omega)⟩]
      refine br1 ⟨vp_in_nI hb (by decide), vp_in_nI (by omega) (by decide), vp_in_nI (by omega) (by decide), ?_⟩
      intro h4 e4
      intro y ey
      rw [ey, nI_1]
      rw [ix_nI (by omega)] at e4
      have fx1 : FrI clsX h h' := f.mono (fun a k q => by simp only [clsD] at q; simp only [clsX]; omega)
      have fx2 : FrI clsX h' h2 := fr2.mono (fun a k q => by simp only [clsP] at q; simp only [clsX]; omega)
      have fx3 : FrI clsX h2 h3 := by rw [e3]; exact FrI.si (by simp only [clsX]; omega)
      have fx4 : FrI clsX h3 h4 := by rw [e4]; exact FrI.si (by simp only [clsX]; omega)
      have fx := fx1.trans (fx2.trans (fx3.trans fx4))
      have g100 : ∀ d, d < 121 → gi h3 100 d = nI (s.2 d) := fun d hd => by
        rw [e3, gi_si, if_neg (by omega), fr2.1 _ _ (by simp only [clsP]; omega), f.1 _ _ (by simp only [clsD]; omega)]
        exact hS.2.2.1 d hd
      have g99 : gi h3 99 2 = nI (sm s.2 121 + sxQ v a b s.1) := by
        rw [e3, gi_si, if_pos ⟨rfl, rfl⟩, fr2.1 _ _ (by simp only [clsP]; omega), f.1 _ _ (by simp only [clsD]; omega), hS.2.2.2, nI_add]
      refine ih (sxS v a b s) (c + 1) h4 (by omega) (by omega) n1 ⟨hS.1.fr hF fx (fun _ _ q => q), ?_, fun d hd => ?_, ?_⟩ (fr.trans fx) hQ
      · intro l hl2
        rw [e4, gi_si, if_neg (by omega), gi_si, if_neg (by omega), e3, gi_si, if_neg (by omega), gi_si, if_neg (by omega)]
        exact f2 l hl2
      · show gi h4 100 d = nI (xup s.2 ((sxX v s.1 a).1 b) (s.2 ((sxX v s.1 a).1 b) + sxQ v a b s.1) d)
        rw [e4, gi_si]
        unfold xup
        by_cases q : d = (sxX v s.1 a).1 b
        · rw [if_pos ⟨rfl, q⟩, if_pos q, g100 _ (by omega), nI_add]
        · rw [if_neg (fun z => q z.2), if_neg q]; exact g100 d hd
      · rw [e4, gi_si, if_neg (by omega), g99, n6]
/-- the gains -/
noncomputable def sgnV (v : WV) (a b : Nat) : Nat → Nat := (sxG v a b 3001 (fun _ => 0, fun _ => 0)).2
theorem sgnV_le (hF : WF m B v) (ha : a < 6) (hab : b ≠ a) : sm (sgnV v a b) 121 ≤ 3000 := by
  have := (sxG_I (b := b) hF ha hab 3001 _ (SXI.start hF)).2.2
  unfold sgnV
  omega
theorem c_solve {Q : HP → Prop} (hF : WF m B v) (hC : HC 1 v h) (hT : vT v < 1000000) (ha : a < 6) (hb : b < 6) (hab : b ≠ a)
    (hQ : ∀ h', HC 1 v h' → (∀ d, d < 121 → gi h' 100 d = nI (sgnV v a b d)) → gi h' 99 2 = nI (sm (sgnV v a b) 121) → FrC h h' → Q h') : f_X4_solve 1 (nI a) (nI b) h Q := by
  have hL := hF.1.2.2
  unfold f_X4_solve
  intro h1 e1 h2 e2
  refine t_fillI (n := 121) (by decide +kernel) (by omega) (fun h3 g3 f3 => ?_)
  have fr2 : FrI clsX h1 h2 := by rw [e2]; exact FrI.si (by simp only [clsX]; omega)
  have fr3 : FrI clsX h1 h3 := fr2.trans (f3.mono (fun a k q => by simp only [clsX]; omega))
  have c1 : HC 1 v h1 := by rw [e1]; exact hC
  have w1 : SXW v h1 := ⟨c1, by rw [e1, gw_sw, if_pos rfl]⟩
  have t3 : gi h3 99 2 = nI 0 := by rw [f3.1 _ _ (by omega), e2, gi_si, if_pos ⟨rfl, rfl⟩]; rfl
  have fc1 : FrC h h1 := by rw [e1]; exact ⟨fun _ _ _ => rfl, fun _ _ => rfl⟩
  refine loop_up (L := fun f l => ∀ h', FrI clsX h1 h' → (∀ d, d < 121 → gi h' 100 d = nI 0) → gi h' 99 2 = nI 0 → (∀ l', l' < l → gi h' 101 l' = nI (xro v l') ∧ gi h' 102 l' = nI 0) → f_X4_solve_L21 (nI a) (nI b) (fun h16 => ∃ n35, f_X4_solve_L77 (nI a) (nI b) Q n35 0 h16) Q f (nI l) h') (vL v) 0 (by omega) (fun f => ?_) (fun l f _ hl ih => ?_) |>.imp (fun n q => q h3 fr3 (fun d hd => g3 d hd) t3 (fun _ z => by omega))
  · intro h' fr g0 g1 g2
    have w := w1.fr hF fr (fun _ _ q => q)
    unfold f_X4_solve_L21
    rw [w.2, w.1.1.2.2.2]
    refine ⟨by decide +kernel, br_le (by omega) (by omega) (fun _ => ?_) (fun z => by omega)⟩
    refine ⟨3001, c_rounds (h0 := h1) (c := 0) (s := (fun _ => 0, fun _ => 0)) hF ha hb hab 3000 h' ?_ (by omega) (SXI.start hF) ⟨w, fun l hl => ?_, g0, ?_⟩ fr (fun h4 s4 f4 => ?_)⟩
    · have := (SXI.start (a := a) hF).2.2
      omega
    · exact ⟨(g2 l hl).1, (g2 l hl).2⟩
    · rw [g1]
      have : sm (fun _ => 0) 121 = 0 := sm_0 (fun _ _ => rfl)
      show nI 0 = nI (sm (fun _ => 0) 121)
      rw [this]
    · exact hQ h4 s4.1.1 s4.2.2.1 s4.2.2.2 (fc1.trans (f4.c (by intro a k; simp only [clsX]; omega)))
  · intro h' fr g0 g1 g2
    have w := w1.fr hF fr (fun _ _ q => q)
    unfold f_X4_solve_L21
    rw [w.2, w.1.1.2.2.2, w.1.1.1]
    refine ⟨by decide +kernel, br_le (by omega) (by omega) (fun z => by omega) (fun _ => ⟨by decide +kernel, vp_in_nI (by omega) (by decide), by decide +kernel, ?_⟩)⟩
    rw [ix_nI (by omega), show 1 + 2 + 7 + 2 * l = 1 + 9 + 2 * l by omega]
    refine c_room hF w.1 hl hT ⟨vp_in_nI (by omega) (by decide), ?_⟩
    intro h5 e5
    refine ⟨vp_in_nI (by omega) (by decide), ?_⟩
    intro h6 e6 y ey
    rw [ey, nI_1]
    have f5 : FrI clsX h' h5 := by rw [e5]; exact FrI.si (by simp only [clsX]; omega)
    have f6 : FrI clsX h5 h6 := by rw [e6]; exact FrI.si (by simp only [clsX]; omega)
    refine ih h6 (fr.trans (f5.trans f6)) (fun d hd => ?_) ?_ (fun l' hl' => ?_)
    · rw [e6, gi_si, if_neg (by omega), e5, gi_si, if_neg (by omega)]; exact g0 d hd
    · rw [e6, gi_si, if_neg (by omega), e5, gi_si, if_neg (by omega)]; exact g1
    · rw [e6, gi_si, if_neg (by omega), gi_si, e5, gi_si, gi_si]
      by_cases q : l' = l
      · rw [if_pos ⟨rfl, q⟩, if_pos ⟨rfl, q⟩, q]
        exact ⟨rfl, rfl⟩
      · rw [if_neg (fun z => q z.2), if_neg (fun z => q z.2), if_neg (by omega)]
        exact g2 l' (by omega)
end Str
