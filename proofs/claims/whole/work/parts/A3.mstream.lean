/-! the stream of the reference: relaxing -/
def byM (e : Nat) : Nat := if e % 2 = 0 then e / 2 else 10 + e / 2
abbrev clsE : Nat → Nat → Prop := fun a _ => a = 135 ∨ a = 136
abbrev clsY : Nat → Nat → Prop := fun a _ => 134 ≤ a ∧ a ≤ 137
def SMF (v : WV) (F : Nat → Nat) (h : HP) : Prop := ∀ l, l < vL v → gi h 134 l = nI (F l)
def SMD (v : WV) (a : Nat) (x : RX) (h : HP) : Prop := ∀ s, s < vS v → gi h 135 s = nI (x.1 s) ∧ (s ≠ a → x.1 s ≠ 1000000 → gi h 136 s = nI (byM (x.2.1 s)))
theorem HM.fy {P : Nat → Nat → Prop} {v : WV} {h h' : HP} (hM : HM v h) (f : FrI P h h') (hp : ∀ a k, P a k → clsY a k) : HM v h' :=
  hM.frame f (fun a k q r => by have := hp a k r; simp only [cellsM, clsY] at q this; omega)
section Str
variable {v : WV} {F : Nat → Nat} {a e i m B : Nat} {T : Nat → Prop} {π : Nat → Nat} {x : RX} {h : HP}
theorem SMF.fr {P : Nat → Nat → Prop} {h' : HP} (hf : SMF v F h) (f : FrI P h h') (hp : ∀ k, ¬ P 134 k) : SMF v F h' := by
  intro l hl
  rw [f.1 _ _ (hp l)]
  exact hf l hl
theorem xt_S (hF : WF m B v) (he : e < 2 * vL v) : xt v e < vS v ∧ xh v e < vS v := by
  have q := hF.2.2.1 (e / 2) (by omega)
  unfold xt xh
  split <;> omega
theorem m_nearer {x3 : Int32} {Q : Int32 → HP → Prop} (hF : WF m B v) (hI : RI v F a T π i x) (hd : SMD v a x h) (he : e < 2 * vL v) (hr : xrs v F e) (hx : x.1 (xt v e) ≠ 1000000 → nI (x.1 (xt v e)) + x3 = nI (xnw v x.1 e))
    (h1 : ∀ h', ximp v F x.1 e → SMD v a (rlx v F i e x) h' → FrI clsE h h' → Q 1 h') (h0 : ¬ ximp v F x.1 e → Q 0 h) : f_X8_nearer (nI (xt v e)) (nI (xh v e)) x3 (nI (byM e)) h Q := by
  have hL := hF.1.2.2
  have hS := hF.1.2.1
  have t6 := xt_S hF he
  have du := (hI.2.1 (xt v e)).1
  have dw := (hI.2.1 (xh v e)).1
  have tk := takesL_le2 (l := e / 2) hF (by omega)
  unfold f_X8_nearer
  have i1 : vp_in (nI (xt v e)) 6 := vp_in_nI (by omega) (by decide)
  have i2 : vp_in (nI (xh v e)) 6 := vp_in_nI (by omega) (by decide)
  rw [ix_nI (by omega), ix_nI (by omega), (hd _ t6.1).1, (hd _ t6.2).1]
  refine ⟨i1, br_eq (b := 1000000) (by omega) (by omega) (fun z => h0 (fun q => q.1 z)) (fun z => ⟨i1, i2, ?_⟩)⟩
  rw [hx z]
  have xb : xnw v x.1 e < 2 ^ 31 := by unfold xnw; split <;> omega
  refine br_lt xb (by omega) (fun z3 => ⟨i1, i2, ?_⟩) (fun z3 => h0 (fun q => by have := q.2.2; omega))
  intro h2 eh2
  refine ⟨i2, ?_⟩
  intro h3 eh3
  have im : ximp v F x.1 e := ⟨z, hr, z3⟩
  have f2 : FrI clsE h h2 := by rw [eh2]; exact FrI.si (Or.inl rfl)
  refine h1 h3 im ?_ (f2.trans (by rw [eh3]; exact FrI.si (Or.inr rfl)))
  rw [rlx_pos im]
  intro s hs
  have ds := hd s hs
  show gi h3 135 s = nI (xup x.1 (xh v e) (xnw v x.1 e) s) ∧ (s ≠ a → xup x.1 (xh v e) (xnw v x.1 e) s ≠ 1000000 → gi h3 136 s = nI (byM (xup x.2.1 (xh v e) e s)))
  by_cases q : s = xh v e
  · have q1 : xup x.1 (xh v e) (xnw v x.1 e) s = xnw v x.1 e := if_pos q
    have q2 : xup x.2.1 (xh v e) e s = e := if_pos q
    rw [q1, q2, eh3, gi_si, if_neg (by omega), eh2, gi_si, if_pos ⟨rfl, q⟩, gi_si, if_pos ⟨rfl, q⟩]
    exact ⟨rfl, fun _ _ => rfl⟩
  · have q1 : xup x.1 (xh v e) (xnw v x.1 e) s = x.1 s := if_neg q
    have q2 : xup x.2.1 (xh v e) e s = x.2.1 s := if_neg q
    rw [q1, q2, eh3, gi_si, if_neg (by omega), eh2, gi_si, if_neg (fun z => q z.2), gi_si, if_neg (fun z => q z.2), gi_si, if_neg (by omega)]
    exact ds
/-- the flag of a pass, behind e steps -/
def FGv (v : WV) (F : Nat → Nat) (k : Nat) (x : RX) (e : Nat) (c : Int32) : Prop := (c = 1 ∧ ¬ Fx v F x) ∨ (c = 0 ∧ xps v F k e x = x ∧ ∀ e', e' < e → ¬ ximp v F x.1 e')
theorem or_00 : (0 : Int32) ||| 0 = 0 := by decide +kernel
theorem or_01 : (0 : Int32) ||| 1 = 1 := by decide +kernel
theorem or_10 : (1 : Int32) ||| 0 = 1 := by decide +kernel
theorem or_11 : (1 : Int32) ||| 1 = 1 := by decide +kernel
theorem FGv.hit {k : Nat} {c : Int32} (hc : FGv v F k x e c) (he : e < 2 * vL v) (im : ximp v F (xps v F k e x).1 e) : FGv v F k x (e + 1) (c ||| 1) := by
  have nf : ¬ Fx v F x := fun q => by
    rw [fx_ps q k e (by omega)] at im
    exact q e he im
  rcases hc with q | q
  · rw [q.1, or_11]; exact Or.inl ⟨rfl, nf⟩
  · rw [q.1, or_01]; exact Or.inl ⟨rfl, nf⟩
theorem FGv.mis0 {k : Nat} {c : Int32} (hc : FGv v F k x e c) (im : ¬ ximp v F (xps v F k e x).1 e) : FGv v F k x (e + 1) c := by
  rcases hc with q | q
  · exact Or.inl q
  · have same : xps v F k (e + 1) x = xps v F k e x := rlx_neg im
    refine Or.inr ⟨q.1, same.trans q.2.1, fun e' he' => ?_⟩
    by_cases z : e' = e
    · rw [z]; rw [q.2.1] at im; exact im
    · exact q.2.2 e' (by omega)
theorem FGv.mis {k : Nat} {c : Int32} (hc : FGv v F k x e c) (im : ¬ ximp v F (xps v F k e x).1 e) : FGv v F k x (e + 1) (c ||| 0) := by
  have : c ||| 0 = c := by
    rcases hc with q | q
    · rw [q.1]; exact or_10
    · rw [q.1]; exact or_00
  rw [this]
  exact hc.mis0 im
theorem xps_mis {k : Nat} (im : ¬ ximp v F (xps v F k e x).1 e) : xps v F k (e + 1) x = xps v F k e x := rlx_neg im
/-- the backward half of a line -/
theorem m_back {k l : Nat} {c : Int32} {k44 : Int32 → Int32 → HP → Prop} {Q : HP → Prop} (hF : WF m B v) (hP : Pot v F a T π) (hl : ∀ l, l < vL v → F l ≤ xro v l) (hI : RI v F a T π (2 * vL v * k) x) (hll : l < vL v) (hM : HM v h) (hf : SMF v F h) (hd : SMD v a (xps v F k (2 * l + 1) x) h) (hc : FGv v F k x (2 * l + 1) c)
    (hk : ∀ h' c', HM v h' → SMF v F h' → SMD v a (xps v F k (2 * (l + 1)) x) h' → FrI clsE h h' → FGv v F k x (2 * (l + 1)) c' → k44 c' (nI (l + 1)) h') : f_X8_measures_J95 c (nI l) k44 Q h := by
  have hL := hF.1.2.2
  have hro := xro_le hF hll
  have hfl := hl l hll
  have e1 : (2 * l + 1) / 2 = l := by omega
  have e2 : ¬ (2 * l + 1) % 2 = 0 := by omega
  have I1 := RI.ps hF hP hI (2 * l + 1) (by omega)
  have s2 : 2 * (l + 1) = 2 * l + 1 + 1 := by omega
  rw [s2] at hk
  unfold f_X8_measures_J95
  rw [ix_nI (by omega), hf l hll]
  refine ⟨vp_in_nI (by omega) (by decide), br_le (b := 0) (by omega) (by omega) (fun z => ?_) (fun z => ?_)⟩
  · have im : ¬ ximp v F (xps v F k (2 * l + 1) x).1 (2 * l + 1) := fun q => by
      have := q.2.1
      unfold xrs at this
      rw [if_neg e2, e1] at this
      omega
    intro y ey
    rw [ey, nI_1]
    exact hk h c hM hf (by rw [xps_mis im]; exact hd) FrI.rf (hc.mis0 im)
  · have hr : xrs v F (2 * l + 1) := by
      unfold xrs
      rw [if_neg e2, e1]
      exact z
    have ext : xt v (2 * l + 1) = vl v l 2 := by unfold xt; rw [if_neg e2, e1]
    have exh : xh v (2 * l + 1) = vl v l 1 := by unfold xh; rw [if_neg e2, e1]
    refine (m_at (k := 2) hF hM hll (by omega)).mpr ?_
    refine (m_at (k := 1) hF hM hll (by omega)).mpr ?_
    refine m_takes hF hM hll ?_
    rw [show (10 : Int32) + nI l = nI (byM (2 * l + 1)) by rw [lit 10, nI_add]; unfold byM; rw [if_neg e2, e1], ← ext, ← exh]
    refine m_nearer hF I1 hd (by omega) hr (fun zu => ?_) (fun h2 im d2 f2 => ?_) (fun im => ?_)
    · have tn := (xnw_tk hP I1 (by omega) hr zu).resolve_left e2
      rw [i32_addneg]
      unfold xnw
      rw [if_neg e2]
      rw [e1] at tn ⊢
      exact nI_sub tn
    · intro y ey y2 ey2
      rw [ey, ey2, nI_1]
      exact hk h2 _ (hM.fy f2 (by intro a k; simp only [clsE, clsY]; omega)) (hf.fr f2 (by intro k; simp only [clsE]; omega)) d2 f2 (hc.hit (by omega) im)
    · intro y ey y2 ey2
      rw [ey, ey2, nI_1]
      exact hk h _ hM hf (by rw [xps_mis im]; exact hd) FrI.rf (hc.mis im)
theorem m_pass {k : Nat} {k139 : Int32 → HP → Prop} {Q : HP → Prop} (hF : WF m B v) (hP : Pot v F a T π) (hl : ∀ l, l < vL v → F l ≤ xro v l) (hI : RI v F a T π (2 * vL v * k) x) (hM : HM v h) (hf : SMF v F h) (hd : SMD v a x h)
    (hk : ∀ h' c, HM v h' → SMF v F h' → SMD v a (xps v F k (2 * vL v) x) h' → FrI clsE h h' → FGv v F k x (2 * vL v) c → k139 c h') : ∃ n, f_X8_measures_L44 k139 Q n 0 0 h := by
  have hL := hF.1.2.2
  have hT := hF.1.1
  have key : ∀ r l, l + r = vL v → ∀ (c : Int32) h', HM v h' → SMF v F h' → SMD v a (xps v F k (2 * l) x) h' → FrI clsE h h' → FGv v F k x (2 * l) c → f_X8_measures_L44 k139 Q (r + 1) c (nI l) h' := by
    intro r
    induction r with
    | zero =>
      intro l hlr c h' M1 f1 d1 fr hc
      unfold f_X8_measures_L44
      rw [M1.1.2.2.2]
      have e2 : l = vL v := by omega
      refine br_le (by omega) (by omega) (fun _ => ?_) (fun z => by omega)
      rw [e2] at d1 hc
      exact hk h' c M1 f1 d1 fr hc
    | succ r ih =>
      intro l hlr c h' M1 f1 d1 fr hc
      have hll : l < vL v := by omega
      have hro := xro_le hF hll
      have hfl := hl l hll
      have e1 : 2 * l / 2 = l := by omega
      have e2 : 2 * l % 2 = 0 := by omega
      have I1 := RI.ps hF hP hI (2 * l) (by omega)
      unfold f_X8_measures_L44
      rw [M1.1.2.2.2, M1.1.1]
      refine br_le (by omega) (by omega) (fun z => by omega) (fun _ => ⟨vp_in_nI (by omega) (by decide), ?_⟩)
      refine m_room hF M1 hll (by omega) ?_
      rw [ix_nI (by omega), f1 l hll]
      have go : ∀ h2 c2, HM v h2 → SMF v F h2 → SMD v a (xps v F k (2 * l + 1) x) h2 → FrI clsE h h2 → FGv v F k x (2 * l + 1) c2 → f_X8_measures_J95 c2 (nI l) (f_X8_measures_L44 k139 Q (r + 1)) Q h2 := by
        intro h2 c2 M2 f2 d2 fr2 hc2
        exact m_back hF hP hl hI hll M2 f2 d2 hc2 (fun h3 c3 M3 f3 d3 fr3 hc3 => ih (l + 1) (by omega) c3 h3 M3 f3 d3 (fr2.trans fr3) hc3)
      refine br_le (a := roomL v l (vT v) 0) (by unfold xro at hro; omega) (by omega) (fun z => ?_) (fun z => ?_)
      · have im : ¬ ximp v F (xps v F k (2 * l) x).1 (2 * l) := fun q => by
          have := q.2.1
          unfold xrs at this
          rw [if_pos e2, e1] at this
          unfold xro at this
          omega
        exact go h' c M1 f1 (by rw [xps_mis im]; exact d1) fr (hc.mis0 im)
      · have hr : xrs v F (2 * l) := by
          unfold xrs
          rw [if_pos e2, e1]
          exact z
        have ext : xt v (2 * l) = vl v l 1 := by unfold xt; rw [if_pos e2, e1]
        have exh : xh v (2 * l) = vl v l 2 := by unfold xh; rw [if_pos e2, e1]
        refine (m_at (k := 1) hF M1 hll (by omega)).mpr ?_
        refine (m_at (k := 2) hF M1 hll (by omega)).mpr ?_
        refine m_takes hF M1 hll ?_
        have eby : byM (2 * l) = l := by unfold byM; rw [if_pos e2, e1]
        have goal : f_X8_nearer (nI (xt v (2 * l))) (nI (xh v (2 * l))) (nI (takesL v l)) (nI (byM (2 * l))) h' (fun v34 h33 => ∀ x2_35 : Int32, x2_35 = (c ||| v34) → f_X8_measures_J95 x2_35 (nI l) (f_X8_measures_L44 k139 Q (r + 1)) Q h33) := by
          refine m_nearer hF I1 d1 (by omega) hr (fun zu => ?_) (fun h2 im d2 f2 => ?_) (fun im => ?_)
          · unfold xnw
            rw [if_pos e2, e1, nI_add]
          · intro y ey
            rw [ey]
            exact go h2 _ (M1.fy f2 (by intro a k; simp only [clsE, clsY]; omega)) (f1.fr f2 (by intro k; simp only [clsE]; omega)) d2 (fr.trans f2) (hc.hit (by omega) im)
          · intro y ey
            rw [ey]
            exact go h' _ M1 f1 (by rw [xps_mis im]; exact d1) fr (hc.mis im)
        rw [ext, exh, eby] at goal
        exact goal
  exact ⟨_, key (vL v) 0 (by omega) 0 h hM hf hd FrI.rf (Or.inr ⟨rfl, rfl, fun _ q => by omega⟩)⟩
theorem m_measures {Q : HP → Prop} (hF : WF m B v) (hP : Pot v F a T π) (ha : a < vS v) (hl : ∀ l, l < vL v → F l ≤ xro v l) (hM : HM v h) (hf : SMF v F h)
    (hQ : ∀ h', HM v h' → SMF v F h' → SMD v a (sxX v F a) h' → FrI clsE h h' → Q h') : f_X8_measures (nI a) h Q := by
  have hL := hF.1.2.2
  have hS := hF.1.2.1
  unfold f_X8_measures
  refine loop_up (L := fun f s => ∀ h', FrI clsE h h' → (∀ s', s' < s → gi h' 135 s' = nI (if s' = a then 0 else 1000000)) → f_X8_measures_L2 (nI a) (fun h7 => ∃ n39, f_X8_measures_L36 Q n39 1 h7) Q f (nI s) h') (vS v) 0 (by omega) (fun f => ?_) (fun s f _ hs ih => ?_) |>.imp (fun n q => q h FrI.rf (fun _ z => by omega))
  · intro h' fr g
    have M1 := hM.fy fr (by intro a k; simp only [clsE, clsY]; omega)
    have f1 := hf.fr fr (by intro k; simp only [clsE]; omega)
    unfold f_X8_measures_L2
    rw [M1.1.2.2.1]
    refine br_le (by omega) (by omega) (fun _ => ?_) (fun z => by omega)
    have d0 : SMD v a (rx0 a) h' := fun s hs => ⟨g s hs, fun q1 q2 => absurd (if_neg q1) q2⟩
    have key : ∀ r k, k + r = 6 → ∀ (c : Int32) h2, HM v h2 → SMF v F h2 → SMD v a (xrun v F (rx0 a) k) h2 → FrI clsE h h2 → ((c = 1 ∧ (k = 0 ∨ ¬ Fx v F (xrun v F (rx0 a) (k - 1)))) ∨ (c = 0 ∧ Fx v F (xrun v F (rx0 a) k))) → f_X8_measures_L36 Q (r + 1) c h2 := by
      intro r
      induction r with
      | zero =>
        intro k hk c h2 M2 f2 d2 fr2 hc
        unfold f_X8_measures_L36
        rcases hc with q | q
        · rcases q.2 with z | z
          · omega
          · rw [show k - 1 = 5 by omega] at z
            exact absurd (fx_5 hF hP (by omega)) z
        · rw [q.1]
          refine br0 (hQ h2 M2 f2 ?_ fr2)
          rw [sx_of hF hP (by omega) (Or.inl q.2)] at d2
          exact d2
      | succ r ih2 =>
        intro k hk c h2 M2 f2 d2 fr2 hc
        unfold f_X8_measures_L36
        rcases hc with q | q
        · rw [q.1]
          refine br1 (m_pass hF hP hl (RI.run hF hP k) M2 f2 d2 (fun h3 c3 M3 f3 d3 fr3 hc3 => ?_))
          refine ih2 (k + 1) (by omega) c3 h3 M3 f3 d3 (fr2.trans fr3) ?_
          rcases hc3 with z | z
          · exact Or.inl ⟨z.1, Or.inr z.2⟩
          · have fx : Fx v F (xrun v F (rx0 a) k) := fun e he => z.2.2 e he
            refine Or.inr ⟨z.1, ?_⟩
            have : xrun v F (rx0 a) (k + 1) = xrun v F (rx0 a) k := fx_ps fx k _ (Nat.le_refl _)
            rw [this]
            exact fx
        · rw [q.1]
          refine br0 (hQ h2 M2 f2 ?_ fr2)
          rw [sx_of hF hP (by omega) (Or.inl q.2)] at d2
          exact d2
    exact ⟨_, key 6 0 (by omega) 1 h' M1 f1 d0 fr (Or.inl ⟨rfl, Or.inl rfl⟩)⟩
  · intro h' fr g
    have M1 := hM.fy fr (by intro a k; simp only [clsE, clsY]; omega)
    unfold f_X8_measures_L2
    rw [M1.1.2.2.1, ix_nI (by omega)]
    refine br_le (by omega) (by omega) (fun z => by omega) (fun _ => ⟨vp_in_nI (by omega) (by decide), ?_⟩)
    intro h5 e5 y ey
    rw [ey, nI_1]
    refine ih h5 (fr.trans (by rw [e5]; exact FrI.si (Or.inl rfl))) (fun s' hs' => ?_)
    rw [e5, gi_si]
    by_cases q : s' = s
    · rw [if_pos ⟨rfl, q⟩, q]
      by_cases q2 : s = a
      · rw [if_pos q2, if_pos (by rw [q2])]; rfl
      · rw [if_neg q2, if_neg (fun z => q2 (nI_inj (by omega) (by omega) z))]; rfl
    · rw [if_neg (fun z => q z.2)]; exact g s' (by omega)
end Str
