/-! levels -/
def FI (A : Nat) (en lf : Nat → Nat) (i b : Nat) (lev q : Nat → Nat) (c : Nat) : Prop :=
  (∀ k, k < c → q k < 152 ∧ lev (q k) ≠ 0 ∧ lev (q k) ≤ k + 1) ∧
  (c + sm (fun w => if lev w = 0 then 1 else 0) 152 = 152) ∧
  (∀ w, w < 152 → lev w ≠ 0 → ∃ k, k < c ∧ q k = w) ∧
  (∀ k k', k ≤ k' → k' < c → lev (q k) ≤ lev (q k')) ∧
  (∀ k, k < c → lev (q k) ≤ lev (q b) + 1) ∧
  (∀ k, k < i → k < c → ∀ e, e < 2 * A → en (xr e) = q k → 0 < lf (xr e) → lev (en e) ≠ 0 ∧ lev (en e) ≤ lev (q k) + 1) ∧
  (lev 150 = 1 ∧ (∀ w, w < 152 → lev w = 1 → w = 150) ∧ ∀ w, w < 152 → 2 ≤ lev w → ∃ e, e < 2 * A ∧ en (xr e) = w ∧ 0 < lf e ∧ lev (en e) ≠ 0 ∧ lev (en e) + 1 = lev w)
def FH (lev q : Nat → Nat) (c : Nat) (h : HP) : Prop := (∀ w, w < 152 → gi h 94 w = cd (lev w)) ∧ ∀ k, k < c → gi h 97 k = nI (q k)
abbrev cellsV : Nat → Nat → Prop := fun a _ => a = 94 ∨ a = 97
section Lv
variable {A : Nat} {en lf : Nat → Nat} {h : HP} {Q : Int32 → HP → Prop}
theorem AR.fv {h1 : HP} {a : Nat} {t : Nat → Nat} (hA : AR a t en lf h) (hf : FrI cellsV h h1) : AR a t en lf h1 := hA.frame hf (by intro x k; simp only [cellsV]; omega)
/-- one more is met -/
theorem FI.put {i c e : Nat} {lev q : Nat → Nat} (hI : FI A en lf i i lev q c) (hic : i < c) (he : e < 2 * A) (hen : en e < 152) (ht : en (xr e) = q i) (hl : 0 < lf (xr e)) (h0 : lev (en e) = 0) : c < 152 ∧ FI A en lf i i (upN lev (en e) (lev (q i) + 1)) (upN q c (en e)) (c + 1) := by
  obtain ⟨a1, a2, a3, a4, a5, a6, a7, a8, a9⟩ := hI
  have hc : c < 152 := by
    have h2 := sm_le (f := fun w => if lev w = 0 then 1 else 0) hen
    simp only [h0, if_pos] at h2
    omega
  have qn : ∀ k, k < c → q k ≠ en e := fun k hk z => (a1 k hk).2.1 (by rw [z]; exact h0)
  have qi := a1 i hic
  refine ⟨hc, fun k hk => ?_, ?_, fun w hw hlw => ?_, fun k k' hkk hk' => ?_, fun k hk => ?_, fun k hk hkc e2 he2 ht2 hl2 => ?_, ?_, fun w hw hw1 => ?_, fun w hw hw2 => ?_⟩
  · by_cases z : k = c
    · rw [z, upN_eq, upN_eq]; exact ⟨hen, by omega, by omega⟩
    · rw [upN_ne z, upN_ne (qn k (by omega))]; exact a1 k (by omega)
  · have := sm_up (F := fun x => if upN lev (en e) (lev (q i) + 1) x = 0 then 1 else 0) (G := fun x => if lev x = 0 then 1 else 0) hen (fun j _ hj => by rw [upN_ne hj])
    simp only [upN_eq, h0, if_pos] at this
    rw [if_neg (show ¬ lev (q i) + 1 = 0 by omega)] at this
    omega
  · by_cases z : w = en e
    · exact ⟨c, by omega, by rw [upN_eq, z]⟩
    · rw [upN_ne z] at hlw
      obtain ⟨k, k1, k2⟩ := a3 w hw hlw
      exact ⟨k, by omega, by rw [upN_ne (by omega)]; exact k2⟩
  · by_cases z : k' = c
    · rw [z, upN_eq, upN_eq]
      by_cases z2 : k = c
      · rw [z2, upN_eq, upN_eq]; exact Nat.le_refl _
      · rw [upN_ne z2, upN_ne (qn k (by omega))]; exact a5 k (by omega)
    · rw [upN_ne z, upN_ne (show k ≠ c by omega), upN_ne (qn k (by omega)), upN_ne (qn k' (by omega))]
      exact a4 k k' hkk (by omega)
  · rw [upN_ne (show i ≠ c by omega), upN_ne (qn i hic)]
    by_cases z : k = c
    · rw [z, upN_eq, upN_eq]; exact Nat.le_refl _
    · rw [upN_ne z, upN_ne (qn k (by omega))]; exact a5 k (by omega)
  · rw [upN_ne (show k ≠ c by omega)] at ht2 ⊢
    have := a6 k hk (by omega) e2 he2 ht2 hl2
    rw [upN_ne (fun z => this.1 (by rw [z]; exact h0)), upN_ne (qn k (by omega))]
    exact this
  · rw [upN_ne (fun z => by rw [← z] at h0; omega)]; exact a7
  · by_cases z : w = en e
    · rw [z, upN_eq] at hw1; omega
    · rw [upN_ne z] at hw1; exact a8 w hw hw1
  · by_cases z : w = en e
    · refine ⟨xr e, xr_lt he, by rw [xr_xr, z], hl, ?_, ?_⟩
      · rw [ht, upN_ne (qn i hic)]; exact qi.2.1
      · rw [ht, upN_ne (qn i hic), z, upN_eq]
    · rw [upN_ne z] at hw2 ⊢
      obtain ⟨e2, b1, b2, b3, b4, b5⟩ := a9 w hw hw2
      refine ⟨e2, b1, b2, b3, ?_, ?_⟩
      · rw [upN_ne (fun z => b4 (by rw [z]; exact h0))]; exact b4
      · rw [upN_ne (fun z => b4 (by rw [z]; exact h0))]; exact b5
theorem c_L71 {k156 : Int32 → HP → Prop} {i : Nat} (hA : AR (2 * A) (fun e => en (xr e)) en lf h) (at' : Nat) (hlb : ∀ e, e < 2 * A → lf e < 2 ^ 31)
    (hk : ∀ lev q c h1, FI A en lf i i lev q c → i < c → q i = at' → FH lev q c h1 → FrI cellsV h h1 → (lev 151 ≠ 0 → lev 151 = lev at' + 1) → (∀ e, e < 2 * A → en (xr e) = at' → 0 < lf (xr e) → lev (en e) ≠ 0) → k156 (nI c) h1) :
    ∀ f mm lev q c j h1, mm < f → mm ≤ 2 * A → j + mm ≤ 1068 → FI A en lf i i lev q c → i < c → q i = at' → FH lev q c h1 → FrI cellsV h h1 → (lev 151 ≠ 0 → lev 151 = lev at' + 1) → (∀ e, mm ≤ e → e < 2 * A → en (xr e) = at' → 0 < lf (xr e) → lev (en e) ≠ 0) → f_X1_findLevels_L71 (nI i) (nI at') k156 Q f (nI c) (cd (pv (fun e => en (xr e)) at' mm)) (nI j) h1 := by
  intro f
  induction f with
  | zero => intro mm; intros; omega
  | succ f ih =>
    intro mm lev q c j h1 k1 k2 k3 k4 k5 k6 k7 k8 k9 k10
    have hA1 := hA.fv k8
    have h68 := hA1.1.1
    have pl := pv_le (fun e => en (xr e)) at' mm
    unfold f_X1_findLevels_L71
    have done : (∀ e, e < mm → en (xr e) ≠ at') → k156 (nI c) h1 := fun z => hk lev q c h1 k4 k5 k6 k7 k8 k9 (fun e he ht hl => by
      by_cases q : e < mm
      · exact absurd ht (z e q)
      · exact k10 e (by omega) he ht hl)
    refine br_le (a := 1068) (by omega) (by omega) (fun z => done (fun e he => by omega)) (fun z => ?_)
    refine cd_neg (by omega) (fun z => done (pv_none z)) (fun e ee => ?_)
    obtain ⟨e1, e2, e3⟩ := pv_some ee
    rw [ee, cd_s]
    have b := hA1.2.1 e (by omega)
    have bx := hA1.2.1 (xr e) (xr_lt (by omega))
    rw [nI_xor (by omega), ix_nI (by omega), b.2.2.1, ix_nI (by have := xr_lt (A := A) (e := e) (by omega); omega), bx.2.2.2.1]
    refine ⟨vp_in_nI (by omega) (by decide), ?_⟩
    intro x6 e6
    rw [e6, ix_nI (by omega), k7.1 _ b.2.1]
    refine ⟨vp_in_nI (by have := xr_lt (A := A) (e := e) (by omega); omega) (by decide), ?_⟩
    have next : ∀ lev2 q2 c2 h2, FI A en lf i i lev2 q2 c2 → i < c2 → q2 i = at' → FH lev2 q2 c2 h2 → FrI cellsV h h2 → (lev2 151 ≠ 0 → lev2 151 = lev2 at' + 1) → (∀ e', e < e' → e' < 2 * A → en (xr e') = at' → 0 < lf (xr e') → lev2 (en e') ≠ 0) → (0 < lf (xr e) → lev2 (en e) ≠ 0) → f_X1_findLevels_J141 (nI c2) (nI i) (nI at') (nI e) (nI j) (f_X1_findLevels_L71 (nI i) (nI at') k156 Q f) Q h2 := by
      intro lev2 q2 c2 h2 j1 j2 j3 j4 j5 j6 j7 j8
      unfold f_X1_findLevels_J141
      have hA2 := hA.fv j5
      refine ⟨vp_in_nI (by omega) (by decide), ?_⟩
      intro x4 e4 x5 e5
      have nx : gi h2 90 e = cd (pv (fun e => en (xr e)) at' e) := by
        have t := (hA2.2.1 e (by omega)).2.2.2.2
        have q : en (xr e) = at' := e2
        rw [← q]; exact t
      rw [ix_nI (by omega), nx] at e4
      rw [e4, e5, nI_1]
      refine ih e lev2 q2 c2 (j + 1) h2 (by omega) (by omega) (by omega) j1 j2 j3 j4 j5 j6 (fun e' h1 h2 h3 h4 => ?_)
      by_cases z : e' = e
      · rw [z] at h4 ⊢; exact j8 h4
      · exact j7 e' (by omega) h2 h3 h4
    have up : ∀ e', e < e' → e' < 2 * A → en (xr e') = at' → 0 < lf (xr e') → lev (en e') ≠ 0 := fun e' h1 h2 h3 h4 => by
      by_cases z : e' < mm
      · exact absurd h3 (e3 e' h1 z)
      · exact k10 e' (by omega) h2 h3 h4
    have lx := hlb (xr e) (xr_lt (by omega))
    refine br_le (b := 0) (by omega) (by omega) (fun z2 => next lev q c h1 k4 k5 k6 k7 k8 k9 up (fun z => by omega)) (fun z2 => ⟨vp_in_nI b.2.1 (by decide), ?_⟩)
    by_cases z3 : lev (en e) = 0
    · refine ⟨fun z4 => absurd z4 (by rw [z3]; decide +kernel), fun _ => ?_⟩
      have p := k4.put k5 (e := e) (by omega) b.2.1 (by rw [k6]; exact e2) z2 z3
      have q152 := (k4.1 i k5).1
      rw [k6] at q152
      refine ⟨vp_in_nI q152 (by decide), vp_in_nI b.2.1 (by decide), ?_⟩
      intro h27 e27
      rw [ix_nI (by omega), k7.1 at' q152] at e27
      have la : lev at' ≠ 0 := by have := (k4.1 i k5).2.1; rw [k6] at this; exact this
      have e27' : h27 = si h1 94 (en e) (cd (lev at' + 1)) := by
        rw [e27, cd_s]
        congr 1
        obtain ⟨y, hy⟩ : ∃ y, lev at' = y + 1 := ⟨lev at' - 1, by omega⟩
        rw [hy, cd_s, nI_1]
      refine ⟨vp_in_nI p.1 (by decide), ?_⟩
      intro h29 e29 x1 ex1
      rw [ix_nI (by omega)] at e29
      rw [ex1, nI_1]
      have f27 : FrI cellsV h1 h27 := by rw [e27']; exact FrI.si (Or.inl rfl)
      have f29 : FrI cellsV h27 h29 := by rw [e29]; exact FrI.si (Or.inr rfl)
      have p2 := p.2
      rw [k6] at p2
      have ne : at' ≠ en e := fun z => la (by rw [z]; exact z3)
      refine next (upN lev (en e) (lev at' + 1)) (upN q c (en e)) (c + 1) h29 p2 (by omega) (by rw [upN_ne (by omega)]; exact k6) ⟨fun w hw => ?_, fun k hk => ?_⟩ ((k8.trans f27).trans f29) (fun z => ?_) (fun e' h1 h2 h3 h4 => ?_) (fun _ => by rw [upN_eq]; omega)
      · rw [e29, gi_si, if_neg (by omega), e27', gi_si]
        by_cases z : w = en e
        · rw [if_pos ⟨rfl, z⟩, z, upN_eq]
        · rw [if_neg (fun q => z q.2), upN_ne z]; exact k7.1 w hw
      · rw [e29, gi_si]
        by_cases z : k = c
        · rw [if_pos ⟨rfl, z⟩, z, upN_eq]
        · rw [if_neg (fun q => z q.2), upN_ne z, e27', gi_si, if_neg (by omega)]; exact k7.2 k (by omega)
      · rw [upN_ne ne]
        by_cases z2 : 151 = en e
        · rw [z2, upN_eq]
        · rw [upN_ne z2] at z ⊢; exact k9 z
      · have := up e' h1 h2 h3 h4
        rw [upN_ne (fun z => this (by rw [z]; exact z3))]; exact this
    · obtain ⟨y, hy⟩ : ∃ y, lev (en e) = y + 1 := ⟨lev (en e) - 1, by omega⟩
      have y152 : y < 1000 := by
        obtain ⟨k, q1, q2⟩ := k4.2.2.1 _ b.2.1 z3
        have := (k4.1 k q1).2.2
        have := k4.2.1
        rw [q2] at *
        omega
      refine ⟨fun _ => next lev q c h1 k4 k5 k6 k7 k8 k9 up (fun _ => z3), fun z4 => absurd (by rw [hy, cd_s]; exact nI_ge0 (by omega)) z4⟩
/-- what the levels are: lev is one more than the level, 0 if there is none -/
def LVS (A : Nat) (en lf lev : Nat → Nat) : Prop :=
  (lev 150 = 1 ∧ (∀ w, w < 152 → lev w = 1 → w = 150) ∧ ∀ w, w < 152 → 2 ≤ lev w → ∃ e, e < 2 * A ∧ en (xr e) = w ∧ 0 < lf e ∧ lev (en e) ≠ 0 ∧ lev (en e) + 1 = lev w) ∧
  (∀ w, w < 152 → lev w ≤ 152) ∧
  (lev 151 = 0 → ∀ e, e < 2 * A → 0 < lf e → lev (en e) ≠ 0 → lev (en (xr e)) ≠ 0) ∧
  (lev 151 ≠ 0 → (∀ w, w < 152 → lev w ≤ lev 151) ∧ ∀ e, e < 2 * A → 0 < lf e → (if lev (en (xr e)) = 0 then lev 151 else lev (en (xr e))) ≤ (if lev (en e) = 0 then lev 151 else lev (en e)) + 1)
theorem FI.lvs {i c : Nat} {lev q : Nat → Nat} (henb : ∀ e, e < 2 * A → en e < 152) (hI : FI A en lf i (i - 1) lev q c) (hx : lev 151 = 0 → c ≤ i) (hy : lev 151 ≠ 0 → 0 < i ∧ i - 1 < c ∧ lev 151 = lev (q (i - 1)) + 1) : LVS A en lf lev := by
  obtain ⟨a1, a2, a3, a4, a5, a6, a7⟩ := hI
  have bd : ∀ w, w < 152 → lev w ≠ 0 → ∃ k, k < c ∧ q k = w := a3
  refine ⟨a7, fun w hw => ?_, fun z e he hl hne => ?_, fun z => ⟨fun w hw => ?_, fun e he hl => ?_⟩⟩
  · by_cases q0 : lev w = 0
    · omega
    · obtain ⟨k, k1, k2⟩ := a3 w hw q0
      have := (a1 k k1).2.2
      rw [k2] at this
      omega
  · have hc := hx z
    obtain ⟨k, k1, k2⟩ := a3 _ (henb e he) hne
    have := (a6 k (by omega) k1 (xr e) (xr_lt he) (by rw [xr_xr]; exact k2.symm) (by rw [xr_xr]; exact hl)).1
    exact this
  · have hy' := hy z
    by_cases q0 : lev w = 0
    · omega
    · obtain ⟨k, k1, k2⟩ := a3 w hw q0
      have := a5 k k1
      rw [k2] at this
      omega
  · have hy' := hy z
    have le : ∀ w, w < 152 → (if lev w = 0 then lev 151 else lev w) ≤ lev 151 := fun w hw => by
      split
      · omega
      · rename_i q0
        obtain ⟨k, k1, k2⟩ := a3 w hw q0
        have := a5 k k1
        rw [k2] at this
        omega
    have l1 := le _ (henb _ (xr_lt he))
    by_cases q0 : lev (en e) = 0
    · rw [if_pos q0]; omega
    · rw [if_neg q0]
      obtain ⟨k, k1, k2⟩ := a3 _ (henb e he) q0
      by_cases ki : k < i
      · have := a6 k ki k1 (xr e) (xr_lt he) (by rw [xr_xr]; exact k2.symm) (by rw [xr_xr]; exact hl)
        rw [if_neg this.1, ← k2]
        exact this.2
      · have := a4 (i - 1) k (by omega) k1
        rw [k2] at this
        omega
theorem c_findLevels (hA : AR (2 * A) (fun e => en (xr e)) en lf h) (hlb : ∀ e, e < 2 * A → lf e < 2 ^ 31)
    (hQ : ∀ lev h', LVS A en lf lev → (∀ w, w < 152 → gi h' 94 w = cd (lev w)) → FrI cellsV h h' → Q (if lev 151 = 0 then 0 else 1) h') : f_X1_findLevels h Q := by
  unfold f_X1_findLevels
  refine t_fillI (n := 152) (by decide +kernel) (by decide) (fun h1 z1 f1 => ?_)
  rw [lit 150, lit 0, ix_nI (by omega), ix_nI (by omega)]
  refine ⟨vp_in_nI (by omega) (by decide), ?_⟩
  intro h3 e3
  refine ⟨vp_in_nI (by omega) (by decide), ?_⟩
  intro h5 e5
  have fr : FrI cellsV h h5 := by
    have a : FrI cellsV h h1 := f1.mono (fun x k z => Or.inl z.1)
    have b : FrI cellsV h1 h3 := by rw [e3]; exact FrI.si (Or.inl rfl)
    have c : FrI cellsV h3 h5 := by rw [e5]; exact FrI.si (Or.inr rfl)
    exact (a.trans b).trans c
  have henb : ∀ e, e < 2 * A → en e < 152 := fun e he => (hA.2.1 e he).2.1
  have fin : ∀ lev q c i h1, FI A en lf i (i - 1) lev q c → FH lev q c h1 → FrI cellsV h h1 → (lev 151 = 0 → c ≤ i) → (lev 151 ≠ 0 → 0 < i ∧ i - 1 < c ∧ lev 151 = lev (q (i - 1)) + 1) → f_X1_findLevels_J162 Q h1 := by
    intro lev q c i h1 k1 k2 k3 k4 k5
    unfold f_X1_findLevels_J162
    have lv := k1.lvs henb k4 k5
    refine ⟨vp_in_nI (n := 151) (by omega) (by decide), ?_⟩
    have e0 : gi h1 94 (ix 151) = cd (lev 151) := k2.1 151 (by omega)
    rw [e0]
    have := hQ lev h1 lv k2.1 k3
    by_cases z : lev 151 = 0
    · rw [if_pos z] at this
      rw [z, cd_0, if_pos (by decide +kernel)]; exact this
    · rw [if_neg z] at this
      obtain ⟨y, hy⟩ : ∃ y, lev 151 = y + 1 := ⟨lev 151 - 1, by omega⟩
      have hb := lv.2.1 151 (by omega)
      rw [hy, cd_s, if_neg (by rw [i32_lt, nI_toInt (by omega), i32_0]; omega)]; exact this
  have key := loop_up (L := fun f i => ∀ lev q c h1, FI A en lf i (i - 1) lev q c → FH lev q c h1 → FrI cellsV h h1 → (i = 0 → 0 < c) → i ≤ c → (lev 151 ≠ 0 → 0 < i ∧ i - 1 < c ∧ lev 151 = lev (q (i - 1)) + 1) → f_X1_findLevels_L30 (fun h35 => f_X1_findLevels_J162 Q h35) Q f (nI c) (nI i) h1) 152 0 (by omega) (fun f lev q c h1 k1 k2 k3 k4 k5 k6 => ?_) (fun i f _ hi ih lev q c h1 k1 k2 k3 k4 k5 k6 => ?_)
  · obtain ⟨f, hf⟩ := key
    refine ⟨f, hf (upN (fun _ => 0) 150 1) (fun _ => 150) 1 h5 ⟨fun k hk => ?_, ?_, fun w hw hl => ?_, fun k k' _ _ => Nat.le_refl _, fun k _ => Nat.le_succ _, fun k hk => by omega, upN_eq, fun w hw h1 => ?_, fun w hw h2 => ?_⟩ ⟨fun w hw => ?_, fun k hk => ?_⟩ fr (fun _ => by omega) (by omega) (fun z => absurd (upN_ne (by omega)) z)⟩
    · show 150 < 152 ∧ upN (fun _ => 0) 150 1 150 ≠ 0 ∧ upN (fun _ => 0) 150 1 150 ≤ k + 1
      rw [upN_eq]; omega
    · have := sm_up (F := fun x => if upN (fun _ => 0) 150 1 x = 0 then 1 else 0) (G := fun _ => 1) (n := 152) (k := 150) (by omega) (fun j _ hj => by rw [upN_ne hj]; rfl)
      rw [sm_ones] at this
      simp only [upN_eq] at this
      rw [if_neg (by omega)] at this
      omega
    · by_cases z : w = 150
      · exact ⟨0, by omega, z.symm⟩
      · rw [upN_ne z] at hl; exact absurd rfl hl
    · by_cases z : w = 150
      · exact z
      · rw [upN_ne z] at h1; cases h1
    · by_cases z : w = 150
      · rw [z, upN_eq] at h2; omega
      · rw [upN_ne z] at h2; omega
    · rw [e5, gi_si, if_neg (by omega), e3, gi_si]
      by_cases z : w = 150
      · rw [if_pos ⟨rfl, z⟩, z, upN_eq]; rfl
      · rw [if_neg (fun q => z q.2), upN_ne z, z1 w hw, cd_0]
    · have : k = 0 := by omega
      rw [this, e5, gi_si, if_pos ⟨rfl, rfl⟩]
  · unfold f_X1_findLevels_L30
    have hc : c ≤ 152 := by have := k1.2.1; omega
    refine br_le (by omega) (by omega) (fun _ => fin lev q c 152 h1 k1 k2 k3 (fun _ => hc) k6) (fun z => by omega)
  · unfold f_X1_findLevels_L30
    have hc : c ≤ 152 := by have := k1.2.1; omega
    refine br_le (by omega) (by omega) (fun z => fin lev q c i h1 k1 k2 k3 (fun _ => z) k6) (fun z => ?_)
    refine br_le (a := 152) (by omega) (by omega) (fun z2 => by omega) (fun _ => ⟨vp_in_nI (n := 151) (by omega) (by decide), ?_⟩)
    have e0 : gi h1 94 (ix 151) = cd (lev 151) := k2.1 151 (by omega)
    rw [e0]
    by_cases z2 : lev 151 = 0
    · refine ⟨fun q => absurd q (by rw [z2]; decide +kernel), fun _ => ⟨vp_in_nI (by omega) (by decide), ?_⟩⟩
      intro x3 ex3
      rw [ix_nI (by omega), k2.2 i z] at ex3
      have q152 := k1.1 i z
      rw [ex3, ix_nI (by omega)]
      refine ⟨vp_in_nI q152.1 (by decide), ?_⟩
      intro x4 ex4
      have hA1 := hA.fv k3
      rw [hA1.2.2 _ q152.1] at ex4
      rw [ex4]
      have I2 : FI A en lf i i lev q c := by
        obtain ⟨a1, a2, a3, a4, a5, a6⟩ := k1
        exact ⟨a1, a2, a3, a4, fun k hk => by have := a5 k hk; have := a4 (i - 1) i (by omega) z; omega, a6⟩
      refine ⟨2 * A + 1, c_L71 hA (q i) hlb (fun lev2 q2 c2 h2 j1 j2 j3 j4 j5 j6 j7 => ?_) (2 * A + 1) (2 * A) lev q c 0 h1 (by omega) (Nat.le_refl _) (by have := hA.1.1; omega) I2 z rfl k2 k3 (fun q => absurd z2 q) (fun e h1 h2 => by omega)⟩
      intro x2 ex2
      rw [ex2, nI_1]
      refine ih lev2 q2 c2 h2 ?_ j4 j5 (fun q => by omega) (by omega) (fun q => ⟨by omega, by omega, by rw [Nat.add_sub_cancel, j3]; exact j6 q⟩)
      rw [Nat.add_sub_cancel]
      obtain ⟨a1, a2, a3, a4, a5, a6, a7⟩ := j1
      refine ⟨a1, a2, a3, a4, a5, fun k hk hkc e he ht hl => ?_, a7⟩
      by_cases ki : k = i
      · rw [ki, j3] at ht
        have n0 := j7 e he ht hl
        refine ⟨n0, ?_⟩
        obtain ⟨k0, q1, q2'⟩ := a3 _ (henb e he) n0
        have := a5 k0 q1
        rw [q2'] at this
        rw [ki]; exact this
      · exact a6 k (by omega) hkc e he ht hl
    · obtain ⟨y, hy⟩ : ∃ y, lev 151 = y + 1 := ⟨lev 151 - 1, by omega⟩
      have hb : lev 151 ≤ 152 := by
        obtain ⟨k, q1, q2⟩ := k1.2.2.1 151 (by omega) z2
        have := (k1.1 k q1).2.2
        rw [q2] at this; omega
      refine ⟨fun _ => fin lev q c i h1 k1 k2 k3 (fun q => absurd q z2) k6, fun q => absurd (by rw [hy, cd_s]; exact nI_ge0 (by omega)) q⟩
end Lv
