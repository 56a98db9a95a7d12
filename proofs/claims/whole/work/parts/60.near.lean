/-! most, held, near, peak, as the class has them -/
section As
variable {m B w : Nat} {v : WV} {R : Nat → Nat → Nat} {g n : Nat} {hl : Int32} {ht : Nat} {h : HP} {Q : Int32 → HP → Prop}
theorem c_mostIn (hF : WF m B v) (hC : HC w v h) (hw : w = 1 ∨ w = 59) (hg : g < vS v) (hn : n ≤ 24)
    (hQ : ∀ A V σ en lf lev h', FLD v (rmB v (-1) (-1) (-1) 0) g n A V σ en lf lev h' → NX w v g (-1) 0 h' → FrO h h' → Q (nI (own v g n + V)) h') : f_X7_mostIn w (nI g) (nI n) h Q := by
  unfold f_X7_mostIn
  refine c_open hF hC hw (fun h1 x1 a1 t1 f1 o1 => ?_)
  refine c_flowBehind (k := 0) (V := 0) hF hg hn (by omega) (by omega) x1 (rdy0 hF a1) t1 rfl f1 (fun A V σ en lf lev h2 d1 f2 => ?_)
  exact hQ A V σ en lf lev h2 d1 (x1.frame hF.1.2.1 hF.1.2.2 f2 (by intro a k; simp only [cellsN]; omega)) (o1.trans (f2.o (by intro a k; simp only [cellsN, cellsO]; omega)))
theorem c_mostHeld {l : Nat} (hF : WF m B v) (hC : HC 1 v h) (hg : g < vS v) (hn : n ≤ 24) (hht : ht < 2 ^ 31)
    (hQ : ∀ A V σ en lf lev h', FLD v (rmB v (-1) (-1) (nI l) ht) g n A V σ en lf lev h' → NX 1 v g (nI l) ht h' → FrO h h' → Q (nI (own v g n + V)) h') : f_X7_mostHeld (nI l) (nI ht) (nI g) (nI n) h Q := by
  unfold f_X7_mostHeld
  refine c_open hF hC (Or.inl rfl) (fun h1 x1 a1 t1 f1 o1 => ?_)
  unfold f_X1_hold
  intro h2 e2 h3 e3
  have up : ∀ a k, gi h3 a k = if a = 88 ∧ k = 3 then nI ht else if a = 88 ∧ k = 2 then nI l else gi h1 a k := by
    intro a k
    rw [e3, gi_si, e2, gi_si]
  have f3 : FrI (fun a k => a = 88 ∧ (k = 2 ∨ k = 3)) h1 h3 := by
    have a : FrI (fun a k => a = 88 ∧ (k = 2 ∨ k = 3)) h1 h2 := by rw [e2]; exact FrI.si ⟨rfl, Or.inl rfl⟩
    have b : FrI (fun a k => a = 88 ∧ (k = 2 ∨ k = 3)) h2 h3 := by rw [e3]; exact FrI.si ⟨rfl, Or.inr rfl⟩
    exact a.trans b
  have x3 : NX 1 v g (nI l) ht h3 := ⟨⟨by rw [f3.2.2]; exact x1.1.1, Or.inl rfl⟩, x1.2.1.frame f3 (by intro a k h1 h2; omega) hF.1.2.1 hF.1.2.2, by rw [f3.1 _ _ (by omega)]; exact x1.2.2.1, by rw [up]; rfl, by rw [up]; rfl⟩
  refine c_flowBehind (k := 0) (V := 0) hF hg hn (by omega) hht x3 (rdy0 hF (a1.frame f3 (by intro a k; omega))) (by rw [f3.1 _ _ (by omega)]; exact t1) rfl (by rw [f3.1 _ _ (by omega)]; exact f1) (fun A V σ en lf lev h4 d1 f4 => ?_)
  exact hQ A V σ en lf lev h4 d1 (x3.frame hF.1.2.1 hF.1.2.2 f4 (by intro a k; simp only [cellsN]; omega)) ((o1.trans (f3.o (by intro a k; simp only [cellsO]; omega))).trans (f4.o (by intro a k; simp only [cellsN, cellsO]; omega)))
theorem FLD.mos {A V : Nat} {σ en lf lev : Nat → Nat} (hF : WF m B v) (hn : n ≤ 24) (hd : FLD v R g n A V σ en lf lev h) : own v g n + V = mosV v R g n := by
  unfold mosV
  rw [mxF_eq (tn_B hF hn) hd.mxv]
theorem FLD.le {A V : Nat} {σ en lf lev : Nat → Nat} (hF : WF m B v) (hg : g < vS v) (hn : n ≤ 24) (hd : FLD v R g n A V σ en lf lev h) : own v g n + V ≤ 700000000 := by
  have a := val_le hF hn hd.flw.1
  have b := hd.flw.2
  have c := own_le hF hg hn
  omega
abbrev cellsS : Nat → Nat → Prop := fun a _ => a = 97 ∨ a = 98
theorem FLD.frame {A V : Nat} {σ en lf lev : Nat → Nat} {h' : HP} (hd : FLD v R g n A V σ en lf lev h) (f : FrI cellsS h h') : FLD v R g n A V σ en lf lev h' := by
  obtain ⟨a, b, c, d, e, e2, e3, e4⟩ := hd
  refine ⟨a.frame f (by intro x k; simp only [cellsA, cellsS]; omega), b, ?_, ?_, e, e2, e3, fun w hw => ?_⟩
  · rw [f.1 _ _ (by simp only [cellsS]; omega)]; exact c
  · rw [f.1 _ _ (by simp only [cellsS]; omega)]; exact d
  · rw [f.1 _ _ (by simp only [cellsS]; omega)]; exact e4 w hw
def nrB (nr : Nat → Nat) (w : Nat) : Bool := decide (w < 152 ∧ nr w ≠ 0)
def NRI (A : Nat) (en lf nr q : Nat → Nat) (c : Nat) : Prop :=
  (∀ k, k < c → q k < 152 ∧ nr (q k) ≠ 0) ∧ (c + sm (fun w => if nr w = 0 then 1 else 0) 152 = 152) ∧ (∀ w, w < 152 → nr w ≠ 0 → ∃ k, k < c ∧ q k = w) ∧ nr 151 ≠ 0 ∧ (∀ w, nr w ≤ 1) ∧
  ∀ T2, ECl A en lf T2 → ∀ w, w < 152 → nr w ≠ 0 → T2 w = true
def NRH (nr q : Nat → Nat) (c : Nat) (h : HP) : Prop := (∀ w, w < 152 → gi h 98 w = nI (nr w)) ∧ ∀ k, k < c → gi h 97 k = nI (q k)
theorem c_searchNear {Q : HP → Prop} {A : Nat} {en lf : Nat → Nat} (hA : AR (2 * A) (fun e => en (xr e)) en lf h) (hlb : ∀ e, e < 2 * A → lf e < 2 ^ 31)
    (hQ : ∀ nr h', ECl A en lf (nrB nr) → (∀ T2, ECl A en lf T2 → ∀ w, nrB nr w = true → T2 w = true) → (∀ w, nr w ≤ 1) → (∀ w, w < 152 → gi h' 98 w = nI (nr w)) → FrI cellsS h h' → Q h') : f_X1_searchNear h Q := by
  unfold f_X1_searchNear
  refine t_fillI (n := 152) (by decide +kernel) (by decide) (fun h1 z1 f1 => ?_)
  have i151 : ix (151 : Int32) = 151 := by decide +kernel
  have i0 : ix (0 : Int32) = 0 := by decide +kernel
  rw [i151, i0]
  refine ⟨vp_in_nI (n := 151) (by omega) (by decide), ?_⟩
  intro h3 e3
  refine ⟨vp_in_nI (n := 0) (by omega) (by decide), ?_⟩
  intro h5 e5
  have fr : FrI cellsS h h5 := by
    have a : FrI cellsS h h1 := f1.mono (fun x k z => Or.inr z.1)
    have b : FrI cellsS h1 h3 := by rw [e3]; exact FrI.si (Or.inr rfl)
    have c : FrI cellsS h3 h5 := by rw [e5]; exact FrI.si (Or.inl rfl)
    exact (a.trans b).trans c
  have henb : ∀ e, e < 2 * A → en e < 152 := fun e he => (hA.2.1 e he).2.1
  have h68 := hA.1.1
  have fin : ∀ nr q c i h1, NRI A en lf nr q c → NRH nr q c h1 → FrI cellsS h h1 → c ≤ i → (∀ k, k < i → k < c → ∀ e, e < 2 * A → en (xr e) = q k → 0 < lf e → nr (en e) ≠ 0) → Q h1 := by
    intro nr q c i h1 k1 k2 k3 k4 k5
    refine hQ nr h1 ⟨?_, fun e he hl ht => ?_⟩ (fun T2 hT w hw => ?_) k1.2.2.2.2.1 k2.1 k3
    · unfold nrB; rw [decide_eq_true_iff]; exact ⟨by omega, k1.2.2.2.1⟩
    · unfold nrB at ht ⊢
      rw [decide_eq_true_iff] at ht ⊢
      obtain ⟨k, q1, q2⟩ := k1.2.2.1 _ ht.1 ht.2
      exact ⟨henb e he, k5 k (by omega) q1 e he q2.symm hl⟩
    · unfold nrB at hw
      rw [decide_eq_true_iff] at hw
      exact k1.2.2.2.2.2 T2 hT w hw.1 hw.2
  have key := loop_up (L := fun f i => ∀ nr q c h1, NRI A en lf nr q c → NRH nr q c h1 → FrI cellsS h h1 → i ≤ c → (∀ k, k < i → k < c → ∀ e, e < 2 * A → en (xr e) = q k → 0 < lf e → nr (en e) ≠ 0) → f_X1_searchNear_L30 Q f (nI c) (nI i) h1) 152 0 (by omega) (fun f nr q c h1 k1 k2 k3 k4 k5 => ?_) (fun i f _ hi ih nr q c h1 k1 k2 k3 k4 k5 => ?_)
  · obtain ⟨f, hf⟩ := key
    refine ⟨f, hf (upN (fun _ => 0) 151 1) (fun _ => 151) 1 h5 ⟨fun k hk => ?_, ?_, fun w hw hl => ?_, by rw [upN_eq]; omega, fun w => ?_, fun T2 hT w hw hn => ?_⟩ ⟨fun w hw => ?_, fun k hk => ?_⟩ fr (by omega) (fun k hk => by omega)⟩
    · show 151 < 152 ∧ upN (fun _ => 0) 151 1 151 ≠ 0
      rw [upN_eq]; omega
    · have := sm_up (F := fun x => if upN (fun _ => 0) 151 1 x = 0 then 1 else 0) (G := fun _ => 1) (n := 152) (k := 151) (by omega) (fun j _ hj => by rw [upN_ne hj]; rfl)
      rw [sm_ones] at this
      simp only [upN_eq] at this
      rw [if_neg (by omega)] at this
      omega
    · by_cases z : w = 151
      · exact ⟨0, by omega, z.symm⟩
      · rw [upN_ne z] at hl; exact absurd rfl hl
    · by_cases z : w = 151
      · rw [z, upN_eq]; omega
      · rw [upN_ne z]; exact Nat.zero_le _
    · by_cases z : w = 151
      · rw [z]; exact hT.1
      · rw [upN_ne z] at hn; exact absurd rfl hn
    · rw [e5, gi_si, if_neg (by omega), e3, gi_si]
      by_cases z : w = 151
      · rw [if_pos ⟨rfl, z⟩, z, upN_eq]; rfl
      · rw [if_neg (fun q => z q.2), upN_ne z, z1 w hw]; rfl
    · have : k = 0 := by omega
      rw [this, e5, gi_si, if_pos ⟨rfl, rfl⟩]; rfl
  · unfold f_X1_searchNear_L30
    have hc : c ≤ 152 := by have := k1.2.1; omega
    refine br_le (by omega) (by omega) (fun _ => fin nr q c 152 h1 k1 k2 k3 hc k5) (fun z => by omega)
  · unfold f_X1_searchNear_L30
    have hc : c ≤ 152 := by have := k1.2.1; omega
    refine br_le (by omega) (by omega) (fun z => fin nr q c i h1 k1 k2 k3 z k5) (fun z => ?_)
    refine br_le (a := 152) (by omega) (by omega) (fun z2 => by omega) (fun _ => ⟨vp_in_nI (by omega) (by decide), ?_⟩)
    have q152 := k1.1 i z
    have hA1 := hA.frame k3 (by intro x k; simp only [cellsS]; omega)
    rw [ix_nI (by omega), k2.2 i z, ix_nI (by omega), hA1.2.2 _ q152.1]
    refine ⟨vp_in_nI q152.1 (by decide), ?_⟩
    intro x3 ex3
    rw [ex3]
    have inner : ∀ f2 mm nr2 q2 c2 j h2, mm < f2 → mm ≤ 2 * A → j + mm ≤ 1068 → NRI A en lf nr2 q2 c2 → NRH nr2 q2 c2 h2 → FrI cellsS h h2 → i < c2 → q2 i = q i → (∀ k, k < i → k < c2 → ∀ e, e < 2 * A → en (xr e) = q2 k → 0 < lf e → nr2 (en e) ≠ 0) → (∀ e, mm ≤ e → e < 2 * A → en (xr e) = q i → 0 < lf e → nr2 (en e) ≠ 0) → f_X1_searchNear_L57 (nI i) (fun x1_27 h28 => ∀ x2_29 : Int32, x2_29 = (nI i + 1) → f_X1_searchNear_L30 Q f x1_27 x2_29 h28) Q f2 (nI c2) (cd (pv (fun e => en (xr e)) (q i) mm)) (nI j) h2 := by
      intro f2
      induction f2 with
      | zero => intro mm; intros; omega
      | succ f2 ih2 =>
        intro mm nr2 q2 c2 j h2 j1 j2 j3 j4 j5 j6 j7 j8 j9 j10
        have hA2 := hA.frame j6 (by intro x k; simp only [cellsS]; omega)
        have pl := pv_le (fun e => en (xr e)) (q i) mm
        unfold f_X1_searchNear_L57
        have done : (∀ e, e < mm → en (xr e) ≠ q i) → ∀ x2_29 : Int32, x2_29 = (nI i + 1) → f_X1_searchNear_L30 Q f (nI c2) x2_29 h2 := by
          intro z x ex
          rw [ex, nI_1]
          refine ih nr2 q2 c2 h2 j4 j5 j6 (by omega) (fun k hk hkc e he ht hl => ?_)
          by_cases ki : k = i
          · rw [ki, j8] at ht
            by_cases q : e < mm
            · exact absurd ht (z e q)
            · exact j10 e (by omega) he ht hl
          · exact j9 k (by omega) hkc e he ht hl
        refine br_le (a := 1068) (by omega) (by omega) (fun z => done (fun e he => by omega)) (fun z => ?_)
        refine cd_neg (by omega) (fun z => done (pv_none z)) (fun e ee => ?_)
        obtain ⟨e1, e2, e3⟩ := pv_some ee
        rw [ee, cd_s]
        have b := hA2.2.1 e (by omega)
        rw [ix_nI (by omega), b.2.2.1, b.2.2.2.1]
        refine ⟨vp_in_nI (by omega) (by decide), ?_⟩
        intro x6 e6
        rw [e6, ix_nI (by omega), j5.1 _ b.2.1]
        refine ⟨vp_in_nI (by omega) (by decide), ?_⟩
        have next : ∀ nr3 q3 c3 h3, NRI A en lf nr3 q3 c3 → NRH nr3 q3 c3 h3 → FrI cellsS h h3 → i < c3 → q3 i = q i → (∀ k, k < i → k < c3 → ∀ e, e < 2 * A → en (xr e) = q3 k → 0 < lf e → nr3 (en e) ≠ 0) → (∀ e', e < e' → e' < 2 * A → en (xr e') = q i → 0 < lf e' → nr3 (en e') ≠ 0) → (0 < lf e → nr3 (en e) ≠ 0) → f_X1_searchNear_J115 (nI c3) (nI i) (nI e) (nI j) (f_X1_searchNear_L57 (nI i) (fun x1_27 h28 => ∀ x2_29 : Int32, x2_29 = (nI i + 1) → f_X1_searchNear_L30 Q f x1_27 x2_29 h28) Q f2) Q h3 := by
          intro nr3 q3 c3 h3 i1 i2 i3 i4 i5 i6 i7 i8
          unfold f_X1_searchNear_J115
          have hA3 := hA.frame i3 (by intro x k; simp only [cellsS]; omega)
          refine ⟨vp_in_nI (by omega) (by decide), ?_⟩
          intro x4 e4 x5 e5
          have nx : gi h3 90 e = cd (pv (fun e => en (xr e)) (q i) e) := by
            have t := (hA3.2.1 e (by omega)).2.2.2.2
            have q : en (xr e) = q i := e2
            rw [← q]; exact t
          rw [ix_nI (by omega), nx] at e4
          rw [e4, e5, nI_1 j]
          refine ih2 e nr3 q3 c3 (j + 1) h3 (by omega) (by omega) (by omega) i1 i2 i3 i4 i5 i6 (fun e' h1 h2 h3 h4 => ?_)
          by_cases z : e' = e
          · rw [z] at h4 ⊢; exact i8 h4
          · exact i7 e' (by omega) h2 h3 h4
        have up : ∀ e', e < e' → e' < 2 * A → en (xr e') = q i → 0 < lf e' → nr2 (en e') ≠ 0 := fun e' h1 h2 h3 h4 => by
          by_cases z : e' < mm
          · exact absurd h3 (e3 e' h1 z)
          · exact j10 e' (by omega) h2 h3 h4
        have lx := hlb e (by omega)
        refine br_le (b := 0) (by omega) (by omega) (fun z2 => next nr2 q2 c2 h2 j4 j5 j6 j7 j8 j9 up (fun z => by omega)) (fun z2 => ⟨vp_in_nI b.2.1 (by decide), ?_⟩)
        have n1 := j4.2.2.2.2.1 (en e)
        refine br_eq (b := 0) (by omega) (by omega) (fun z3 => ⟨vp_in_nI b.2.1 (by decide), ?_⟩) (fun z3 => next nr2 q2 c2 h2 j4 j5 j6 j7 j8 j9 up (fun _ => z3))
        intro h23 e23
        have hc2 : c2 < 152 := by
          have t1 := j4.2.1
          have t2 := sm_le (f := fun w => if nr2 w = 0 then 1 else 0) b.2.1
          simp only [z3, if_pos] at t2
          omega
        refine ⟨vp_in_nI hc2 (by decide), ?_⟩
        intro h25 e25 x1 ex1
        rw [ix_nI (by omega)] at e25
        rw [ex1, nI_1 c2]
        have f23 : FrI cellsS h2 h23 := by rw [e23]; exact FrI.si (Or.inr rfl)
        have f25 : FrI cellsS h23 h25 := by rw [e25]; exact FrI.si (Or.inl rfl)
        have qn : ∀ k, k < c2 → q2 k ≠ en e := fun k hk z => (j4.1 k hk).2 (by rw [z]; exact z3)
        obtain ⟨a1, a2, a3, a4, a5, a6⟩ := j4
        refine next (upN nr2 (en e) 1) (upN q2 c2 (en e)) (c2 + 1) h25 ⟨fun k hk => ?_, ?_, fun w hw hlw => ?_, ?_, fun w => ?_, fun T2 hT w hw hn => ?_⟩ ⟨fun w hw => ?_, fun k hk => ?_⟩ ((j6.trans f23).trans f25) (by omega) (by rw [upN_ne (by omega)]; exact j8) (fun k hk hkc e' he' ht' hl' => ?_) (fun e' h1 h2 h3 h4 => ?_) (fun _ => by rw [upN_eq]; omega)
        · by_cases z : k = c2
          · rw [z, upN_eq, upN_eq]; exact ⟨b.2.1, by omega⟩
          · rw [upN_ne z, upN_ne (qn k (by omega))]; exact a1 k (by omega)
        · have := sm_up (F := fun x => if upN nr2 (en e) 1 x = 0 then 1 else 0) (G := fun x => if nr2 x = 0 then 1 else 0) b.2.1 (fun j _ hj => by rw [upN_ne hj])
          simp only [upN_eq, z3, if_pos] at this
          rw [if_neg (show ¬ (1 : Nat) = 0 by omega)] at this
          omega
        · by_cases z : w = en e
          · exact ⟨c2, by omega, by rw [upN_eq, z]⟩
          · rw [upN_ne z] at hlw
            obtain ⟨k, k1, k2⟩ := a3 w hw hlw
            exact ⟨k, by omega, by rw [upN_ne (by omega)]; exact k2⟩
        · by_cases z : 151 = en e
          · rw [z, upN_eq]; omega
          · rw [upN_ne z]; exact a4
        · by_cases z : w = en e
          · rw [z, upN_eq]; omega
          · rw [upN_ne z]; exact a5 w
        · by_cases z : w = en e
          · rw [z]
            have at1 := a1 i j7
            have t1 := a6 T2 hT (q2 i) at1.1 at1.2
            refine hT.2 e (by omega) z2 ?_
            have q : en (xr e) = q i := e2
            rw [q, ← j8]; exact t1
          · rw [upN_ne z] at hn; exact a6 T2 hT w hw hn
        · rw [e25, gi_si, if_neg (by omega), e23, gi_si]
          by_cases z : w = en e
          · rw [if_pos ⟨rfl, z⟩, z, upN_eq]; rfl
          · rw [if_neg (fun q => z q.2), upN_ne z]; exact j5.1 w hw
        · rw [e25, gi_si]
          by_cases z : k = c2
          · rw [if_pos ⟨rfl, z⟩, z, upN_eq]
          · rw [if_neg (fun q => z q.2), upN_ne z, e23, gi_si, if_neg (by omega)]; exact j5.2 k (by omega)
        · rw [upN_ne (show k ≠ c2 by omega)] at ht'
          have := j9 k hk (by omega) e' he' ht' hl'
          rw [upN_ne (fun z => this (by rw [z]; exact z3))]; exact this
        · have := up e' h1 h2 h3 h4
          rw [upN_ne (fun z => this (by rw [z]; exact z3))]; exact this
    exact ⟨2 * A + 1, inner (2 * A + 1) (2 * A) nr q c 0 h1 (by omega) (Nat.le_refl _) (by omega) k1 k2 k3 z rfl k5 (fun e h1 h2 => by omega)⟩
theorem c_ticksNear {nr : Nat → Nat} {s : Nat} (hx : NX w v g hl ht h) (hg : g < 6) (hs : s < 6) (hn : n ≤ 24) (ht4 : gi h 88 4 = nI (n + 1)) (hnr : ∀ w, w < 152 → gi h 98 w = nI (nr w)) (hn1 : ∀ w, nr w ≤ 1) (hQ : Q (btF (fun k => nrB nr (nd g s k)) (n + 1)) h) : f_X1_ticksNear (nI s) h Q := by
  unfold f_X1_ticksNear
  refine loop_up (L := fun c k => f_X1_ticksNear_L4 (nI s) Q c (btF (fun k => nrB nr (nd g s k)) k) (nI k) h) (n + 1) 0 (by omega) (fun c => ?_) (fun k c _ hk ih => ?_)
  · unfold f_X1_ticksNear_L4
    rw [ht4]
    exact br_le (by omega) (by omega) (fun _ => hQ) (fun z => by omega)
  · unfold f_X1_ticksNear_L4
    rw [ht4]
    refine br_le (by omega) (by omega) (fun z => by omega) (fun _ => ?_)
    refine c_node hx hg hs ?_
    have nl := nd_lt (g := g) (s := s) (i := k) hs (by omega)
    rw [ix_nI (by omega), hnr _ (by omega)]
    refine ⟨vp_in_nI (by omega) (by decide), ?_⟩
    have n1 := hn1 (nd g s k)
    refine br_eq (b := 0) (by omega) (by omega) (fun z x ex => ?_) (fun z x ex y ey => ?_)
    · rw [ex, nI_1]
      unfold btF at ih
      rw [if_neg] at ih
      · exact ih
      · unfold nrB
        rw [decide_eq_true_iff]
        exact fun q => q.2 z
    · rw [ex, ey, nI_1]
      unfold btF at ih
      rw [if_pos] at ih
      · exact ih
      · unfold nrB
        rw [decide_eq_true_iff]
        exact ⟨by omega, z⟩
theorem c_stationsNear {nr : Nat → Nat} (hF : WF m B v) (hx : NX w v g hl ht h) (hg : g < vS v) (hn : n ≤ 24) (ht4 : gi h 88 4 = nI (n + 1)) (hnr : ∀ w, w < 152 → gi h 98 w = nI (nr w)) (hn1 : ∀ w, nr w ≤ 1) (hQ : Q (btF (fun s => !decide (∀ k, k < n + 1 → nrB nr (nd g s k) = false)) (vS v)) h) : f_X1_stationsNear h Q := by
  have h6 := hF.1
  unfold f_X1_stationsNear
  refine loop_up (L := fun c s => f_X1_stationsNear_L4 Q c (btF (fun s => !decide (∀ k, k < n + 1 → nrB nr (nd g s k) = false)) s) (nI s) h) (vS v) 0 (by omega) (fun c => ?_) (fun s c _ hs ih => ?_)
  · unfold f_X1_stationsNear_L4
    refine ⟨hx.kd, ?_⟩
    rw [hx.1.1, hx.2.1.1.2.2.1]
    exact br_le (by omega) (by omega) (fun _ => hQ) (fun z => by omega)
  · unfold f_X1_stationsNear_L4
    refine ⟨hx.kd, ?_⟩
    rw [hx.1.1, hx.2.1.1.2.2.1]
    refine br_le (by omega) (by omega) (fun z => by omega) (fun _ => ?_)
    refine c_ticksNear hx (by omega) (by omega) hn ht4 hnr hn1 ?_
    have bl := bnF_lt (fun k => nrB nr (nd g s k)) (n + 1)
    have b2 : 2 ^ (n + 1) ≤ 2 ^ 25 := Nat.pow_le_pow_right (by omega) (by omega)
    rw [btF_bn (by omega)]
    refine br_eq (b := 0) (by omega) (by omega) (fun z x ex => ?_) (fun z x ex y ey => ?_)
    · rw [ex, nI_1]
      unfold btF at ih
      rw [if_neg] at ih
      · exact ih
      · rw [decide_eq_true (bnF_0.mp z)]; simp
    · rw [ex, ey, nI_1]
      unfold btF at ih
      rw [if_pos] at ih
      · exact ih
      · rw [decide_eq_false (fun q => z (bnF_0.mpr q))]; rfl
end As
