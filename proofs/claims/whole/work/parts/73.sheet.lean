/-! sheets -/
def uS (σ : ST) (s b z : Nat) (r : Nat → Int64) : ST := (σ.1, σ.2.1, σ.2.2.1, σ.2.2.2.1, fun s' => if s' = s then (b, z, r) else σ.2.2.2.2 s')
theorem sB_uS {σ : ST} {s b z s' : Nat} {r : Nat → Int64} : sB (uS σ s b z r) s' = if s' = s then b else sB σ s' := by
  unfold sB uS
  by_cases q : s' = s
  · simp [q]
  · simp [q]
theorem sZ_uS {σ : ST} {s b z s' : Nat} {r : Nat → Int64} : sZ (uS σ s b z r) s' = if s' = s then z else sZ σ s' := by
  unfold sZ uS
  by_cases q : s' = s
  · simp [q]
  · simp [q]
theorem sN_uS {σ : ST} {s b z s' : Nat} {r : Nat → Int64} : sN (uS σ s b z r) s' = if s' = s then r else sN σ s' := by
  unfold sN uS
  by_cases q : s' = s
  · simp [q]
  · simp [q]
def bits4 (b : Nat) : Prop := b = 0 ∨ b = 16 ∨ b = 32 ∨ b = 64
section Ops
variable {c : Nat} {σ : ST} {h : HP} {Q : Int32 → HP → Prop}
theorem WS_S {s b z : Nat} {r : Nat → Int64} (hW : WS c σ) (hc : c < 512) (hb : bits4 b) (hz : z ≤ 40) (h0 : b = 0 → z = 0) : WS (c + 1) (uS σ s b z r) := by
  have h' := hW.up (Nat.le_succ c) hc
  refine ⟨h'.1, h'.2.1, h'.2.2.1, h'.2.2.2.1, h'.2.2.2.2.1, fun s' hs' => ?_⟩
  rw [sB_uS, sZ_uS]
  by_cases q : s' = s
  · rw [if_pos q, if_pos q]; exact ⟨hb, hz, h0⟩
  · rw [if_neg q, if_neg q]; exact h'.2.2.2.2.2 s' hs'
theorem CI.sheet {s b z : Nat} {r : Nat → Int64} {h' : HP} (hI : CI σ h) (hW : WS c σ) (hs4 : s < 4) (h1 : ∀ a k, a ≠ 109 + 2 * s → gi h' a k = gi h a k) (h2 : ∀ a k, a ≠ 110 + 2 * s → gl h' a k = gl h a k) (g1 : gi h' (109 + 2 * s) 1 = nI b) (g2 : gi h' (109 + 2 * s) 2 = nI z) (g3 : ∀ i, i < 40 → gl h' (110 + 2 * s) i = r i) : CI (uS σ s b z r) h' := by
  obtain ⟨a, ⟨b1, b2⟩, c', ⟨d1, d2⟩, e⟩ := hI
  have hs := hW.small
  have hc : ∀ w v, w + 29 ≤ 109 → vS v ≤ 6 → vL v ≤ 10 → HC w v h → HC w v h' := by
    intro w v hw hS hL hC
    obtain ⟨⟨a1, a2, a3, a4⟩, b, c, d⟩ := hC
    refine ⟨⟨?_, ?_, ?_, ?_⟩, fun s hs k hk => ?_, fun l hl k hk => ?_, fun l hl k hk => ?_⟩
    · rw [h1 _ _ (by omega)]; exact a1
    · rw [h1 _ _ (by omega)]; exact a2
    · rw [h1 _ _ (by omega)]; exact a3
    · rw [h1 _ _ (by omega)]; exact a4
    · rw [h1 _ _ (by omega)]; exact b s hs k hk
    · rw [h1 _ _ (by omega)]; exact c l hl k hk
    · rw [h1 _ _ (by omega)]; exact d l hl k hk
  refine ⟨hc 1 _ (by omega) hs.1 hs.2.1 a, ⟨by rw [h1 _ _ (by omega)]; exact b1, fun q => hc 30 _ (by omega) (hs.2.2 q).1 (hs.2.2 q).2 (b2 q)⟩, fun k hk => by rw [h1 _ _ (by omega)]; exact c' k hk, ⟨by rw [h1 _ _ (by omega)]; exact d1, fun i hi => by rw [h1 _ _ (by omega)]; exact d2 i hi⟩, fun s' hs' => ?_⟩
  rw [sB_uS, sZ_uS, sN_uS]
  by_cases q : s' = s
  · rw [if_pos q, if_pos q, if_pos q, q]; exact ⟨g1, g2, g3⟩
  · rw [if_neg q, if_neg q, if_neg q, h1 _ _ (by omega), h1 _ _ (by omega)]
    exact ⟨(e s' hs').1, (e s' hs').2.1, fun i hi => by rw [h2 _ _ (by omega)]; exact (e s' hs').2.2 i hi⟩
theorem MI.sheet {s b z : Nat} {r : Nat → Int64} {h' : HP} (hI : MI σ h) (h1 : ∀ a k, ¬ (k = s ∧ (a = 140 ∨ a = 141)) → gi h' a k = gi h a k) (h2 : ∀ k, ¬ (40 * s ≤ k ∧ k < 40 * s + 40) → gl h' 142 k = gl h 142 k) (g1 : gi h' 140 s = nI b) (g2 : gi h' 141 s = nI z) (g3 : ∀ i, i < 40 → gl h' 142 (40 * s + i) = r i) : MI (uS σ s b z r) h' := by
  obtain ⟨a, ⟨b1, b2⟩, c', ⟨d1, d2⟩, e⟩ := hI
  have hM : HM (sV σ) h' := by
    obtain ⟨⟨a1, a2, a3, a4⟩, b, c, d, e, f⟩ := a
    refine ⟨⟨?_, ?_, ?_, ?_⟩, fun s hs => ⟨?_, ?_, ?_⟩, fun l hl k hk => ?_, fun l hl => ?_, fun l hl k hk => ?_, fun l h1' h2' k hk => ?_⟩
    · rw [h1 _ _ (by omega)]; exact a1
    · rw [h1 _ _ (by omega)]; exact a2
    · rw [h1 _ _ (by omega)]; exact a3
    · rw [h1 _ _ (by omega)]; exact a4
    · rw [h1 _ _ (by omega)]; exact (b s hs).1
    · rw [h1 _ _ (by omega)]; exact (b s hs).2.1
    · rw [h1 _ _ (by omega)]; exact (b s hs).2.2
    · rw [h1 _ _ (by omega)]; exact c l hl k hk
    · rw [h1 _ _ (by omega)]; exact d l hl
    · rw [h1 _ _ (by omega)]; exact e l hl k hk
    · rw [h1 _ _ (by omega)]; exact f l h1' h2' k hk
  refine ⟨hM, ⟨by rw [h1 _ _ (by omega)]; exact b1, fun q => ?_⟩, fun k hk => by rw [h1 _ _ (by omega)]; exact c' k hk, ⟨by rw [h1 _ _ (by omega)]; exact d1, fun i hi => by rw [h1 _ _ (by omega)]; exact d2 i hi⟩, fun s' hs' => ?_⟩
  · obtain ⟨⟨x1, x2, x3, x4⟩, y, z, u, p, q⟩ := b2 q
    refine ⟨⟨?_, ?_, ?_, ?_⟩, fun s hs => ⟨?_, ?_, ?_⟩, fun l hl k hk => ?_, fun l hl => ?_, fun l hl k hk => ?_, fun l h1' h2' k hk => ?_⟩
    · rw [h1 _ _ (by omega)]; exact x1
    · rw [h1 _ _ (by omega)]; exact x2
    · rw [h1 _ _ (by omega)]; exact x3
    · rw [h1 _ _ (by omega)]; exact x4
    · rw [h1 _ _ (by omega)]; exact (y s hs).1
    · rw [h1 _ _ (by omega)]; exact (y s hs).2.1
    · rw [h1 _ _ (by omega)]; exact (y s hs).2.2
    · rw [h1 _ _ (by omega)]; exact z l hl k hk
    · rw [h1 _ _ (by omega)]; exact u l hl
    · rw [h1 _ _ (by omega)]; exact p l hl k hk
    · rw [h1 _ _ (by omega)]; exact q l h1' h2' k hk
  · rw [sB_uS, sZ_uS, sN_uS]
    by_cases q : s' = s
    · rw [if_pos q, if_pos q, if_pos q, q]; exact ⟨g1, g2, g3⟩
    · rw [if_neg q, if_neg q, if_neg q, h1 _ _ (by omega), h1 _ _ (by omega)]
      exact ⟨(e s' hs').1, (e s' hs').2.1, fun i hi => by rw [h2 _ (by omega)]; exact (e s' hs').2.2 i hi⟩
theorem sh_lt {x : Int32} (hx : InR x 0 3) : x = nI (nt x) ∧ nt x < 4 := ⟨nt_nI hx.1, by unfold nt; omega⟩
theorem b4 (hW : WS c σ) {s : Nat} (hs : s < 4) : sB σ s < 100 := by
  rcases (hW.2.2.2.2.2 s hs).1 with q | q | q | q <;> omega
theorem c_sheetF {x : Int32} (hW : WS c σ) (hI : CI σ h) (h1 : ¬ InR x 0 3 → Q (fnd 0) h) (h2 : InR x 0 3 → sB σ (nt x) = 0 → Q (fnd 5) h) (h3 : InR x 0 3 → sB σ (nt x) ≠ 0 → Q 0 h) : f_X7_sheetFault x h Q := by
  unfold f_X7_sheetFault
  refine c_in (a := 0) (b := 3) rfl rfl (fun p => br1 ?_) (fun p => br0 ?_)
  · have e := sh_lt p
    have hb := b4 hW e.2
    have ix1 : ix x = nt x := by
      have := ix_nI (k := nt x) (by omega)
      rw [← e.1] at this; exact this
    have g := (hI.2.2.2.2 (nt x) e.2).1
    rw [ix1, show 107 + 2 + 2 * nt x = 109 + 2 * nt x by omega, g]
    refine ⟨by rw [e.1]; exact vp_in_nI e.2 (by decide), ?_⟩
    by_cases q : sB σ (nt x) = 0
    · rw [if_pos (show nI (sB σ (nt x)) = 0 by rw [q]; rfl), fnd5]; exact h2 p q
    · rw [if_neg (nI_ne0 (by omega) (by omega))]; exact h3 p q
  · rw [fnd0]; exact h1 p
theorem fnd_n0 {k : Nat} (hk : k < 8) : ¬ fnd k = 0 := by
  have : ∀ k, k < 8 → ¬ fnd k = 0 := by decide +kernel
  exact this k hk
theorem m_isSheet {x : Int32} (h1 : InR x 0 3 → Q 1 h) (h0 : ¬ InR x 0 3 → Q 0 h) : f_X8_isSheet x h Q := by
  unfold f_X8_isSheet
  exact m_in (a := 0) (b := 3) rfl rfl h1 h0
/-- a sheet that can be used -/
abbrev isH (σ : ST) (x : Int32) : Prop := InR x 0 3 ∧ sB σ (nt x) ≠ 0
/-- the finding of one that can't -/
def hF5 (σ : ST) (x : Int32) : Nat := if InR x 0 3 then 5 else 0
theorem c_sheetU {x : Int32} {K : HP → Prop} (hW : WS c σ) (hI : CI σ h) (h1 : isH σ x → K h) (h0 : ¬ isH σ x → f_X7_found (fnd (hF5 σ x)) h (fun v h1 => Q v h1)) : f_X7_sheetFault x h (fun v2 h1 => (((v2 = 0) → K h1) ∧ (¬ (v2 = 0) → f_X7_found v2 h1 (fun v h2 => Q v h2)))) := by
  refine c_sheetF hW hI (fun p => br_f (fnd_n0 (by omega)) ?_) (fun p q => br_f (fnd_n0 (by omega)) ?_) (fun p q => br_t rfl (h1 ⟨p, q⟩))
  · have := h0 (fun z => p z.1)
    unfold hF5 at this
    rw [if_neg p] at this; exact this
  · have := h0 (fun z => z.2 q)
    unfold hF5 at this
    rw [if_pos p] at this; exact this
theorem m_sheetU {x : Int32} {K : HP → Prop} (hW : WS c σ) (hI : MI σ h) (h1 : isH σ x → K h) (h0 : ¬ isH σ x → f_X8_finds (fnd (hF5 σ x)) h (fun v h1 => Q v h1)) : f_X8_isSheet x h (fun v2 h1 => (((v2 = 0) → f_X8_finds (-1000000001 : Int32) h1 (fun v h2 => Q v h2)) ∧ (¬ (v2 = 0) → vp_in x 4 ∧ ((((gi h1 140 (ix x)) = 0) → f_X8_finds (-1000000006 : Int32) h1 (fun v h2 => Q v h2)) ∧ (¬ ((gi h1 140 (ix x)) = 0) → K h1))))) := by
  refine m_isSheet (fun p => br1 ?_) (fun p => br0 ?_)
  · have e := sh_lt p
    have hb := b4 hW e.2
    have ix1 : ix x = nt x := by
      have := ix_nI (k := nt x) (by omega)
      rw [← e.1] at this; exact this
    refine ⟨by rw [e.1]; exact vp_in_nI e.2 (by decide), ?_⟩
    rw [ix1, (hI.2.2.2.2 (nt x) e.2).1]
    refine br_eq (b := 0) (by omega) (by omega) (fun q => ?_) (fun q => h1 ⟨p, q⟩)
    have := h0 (fun z => z.2 q)
    unfold hF5 at this
    rw [if_pos p, ← fnd5] at this; exact this
  · have := h0 (fun z => p z.1)
    unfold hF5 at this
    rw [if_neg p, ← fnd0] at this; exact this
theorem hF5_lt {x : Int32} : hF5 σ x < 8 := by unfold hF5; split <;> omega
/-- lays: stocks from a row -/
def lyV (v : WV) (r : Nat → Int64) : Nat → WV × Nat
  | 0 => (v, 0)
  | k + 1 => if 0 ≤ (r k).toInt ∧ (r k).toInt ≤ 999 then (setS (lyV v r k).1 k 1 (r k).toInt.toNat, (lyV v r k).2 + 1) else lyV v r k
theorem ly_1 {v : WV} {r : Nat → Int64} : ∀ k, vS (lyV v r k).1 = vS v ∧ vL (lyV v r k).1 = vL v ∧ vT (lyV v r k).1 = vT v ∧ (lyV v r k).2 ≤ k
  | 0 => ⟨rfl, rfl, rfl, Nat.le_refl _⟩
  | k + 1 => by
    have ih := ly_1 (v := v) (r := r) k
    unfold lyV
    split
    · exact ⟨ih.1, ih.2.1, ih.2.2.1, by show (lyV v r k).2 + 1 ≤ k + 1; omega⟩
    · exact ⟨ih.1, ih.2.1, ih.2.2.1, by omega⟩
theorem WF_ly {m B : Nat} {v : WV} {r : Nat → Int64} (hF : WF m B v) : ∀ k, k ≤ vS v → B + 999 * k ≤ 4000000 → WF m (B + 999 * k) (lyV v r k).1
  | 0, _, _ => hF
  | k + 1, hk, hB => by
    have ih := WF_ly (r := r) hF k (by omega) (by omega)
    unfold lyV
    split
    · rename_i q
      exact WF_setS ih (by rw [(ly_1 k).1]; omega) ⟨by omega, by omega⟩ (by omega) hB
    · exact WF_up ih (by omega) hB
def lyN (σ : ST) (s : Nat) : Nat := min (sZ σ s) (vS (sV σ))
theorem lyN_f (σ : ST) (s : Nat) : lyN σ s ≤ sZ σ s ∧ lyN σ s ≤ vS (sV σ) ∧ (lyN σ s = sZ σ s ∨ lyN σ s = vS (sV σ)) := by unfold lyN; omega
noncomputable def o_lays (σ : ST) (x : Int32) : Int32 × ST := by
  classical exact if isH σ x then (nI (lyV (sV σ) (sN σ (nt x)) (lyN σ (nt x))).2, uV σ (lyV (sV σ) (sN σ (nt x)) (lyN σ (nt x))).1) else (fnd (hF5 σ x), uF σ (hF5 σ x))
theorem WS_lays {x : Int32} (hW : WS c σ) (hc : c < 512) : WS (c + 1) (o_lays σ x).2 := by
  have h6 := hW.small.1
  have mn := lyN_f σ (nt x)
  unfold o_lays
  split
  · refine WS_V hW hc (WF_up (WF_ly hW.2.1.1 _ mn.2.1 (by omega)) (by omega) (by omega)) ?_
    rw [(ly_1 _).2.2.1]; exact hW.2.1.2
  · exact WS_F hW hc
theorem c_lays {x : Int32} (hW : WS c σ) (hI : CI σ h) (hQ : ∀ h', CI (o_lays σ x).2 h' → LoF h h' → Q (o_lays σ x).1 h') : f_X7_lays x h Q := by
  have hs := hW.small
  unfold f_X7_lays
  unfold o_lays at hQ
  refine c_sheetU hW hI (fun p => ?_) (fun p => ?_)
  · rw [if_pos p] at hQ
    have e := sh_lt p.1
    generalize nt x = s at *
    have hz := (hW.2.2.2.2.2 s e.2).2.1
    rw [e.1, ix_nI (by omega), show 107 + 2 + 2 * s = 109 + 2 * s by omega]
    refine ⟨vp_in_nI e.2 (by decide), ?_⟩
    have I := hI.2.2.2.2 s e.2
    have mn := lyN_f σ s
    have key := loop_up (L := fun f k => ∀ h1, HC 1 (lyV (sV σ) (sN σ s) k).1 h1 → FrI (cellsC 1) h h1 → f_X7_lays_L29 (109 + 2 * s) Q f (nI (lyV (sV σ) (sN σ s) k).2) (nI k) h1) (lyN σ s) 0 (by omega) (fun f h1 k1 k2 => ?_) (fun k f _ hk ih h1 k1 k2 => ?_)
    · obtain ⟨f, hf⟩ := key
      exact ⟨f, hf h hI.1 FrI.rf⟩
    · unfold f_X7_lays_L29
      have fin := hQ h1 (hI.world hW k1 k2) (k2.lo (by intro a k; simp only [cellsC]; omega))
      have ly := ly_1 (v := sV σ) (r := sN σ s) (lyN σ s)
      rw [k2.1 _ _ (by simp only [cellsC]; omega), I.2.1, k1.1.2.2.1, ly.1]
      refine br_le (by omega) (by omega) (fun _ => fin) (fun z => br_le (by omega) (by omega) (fun _ => fin) (fun z2 => by omega))
    · unfold f_X7_lays_L29
      have ly := ly_1 (v := sV σ) (r := sN σ s) k
      rw [k2.1 _ _ (by simp only [cellsC]; omega), I.2.1, k1.1.2.2.1, ly.1]
      refine br_le (by omega) (by omega) (fun z => by omega) (fun _ => br_le (by omega) (by omega) (fun z => by omega) (fun _ => ⟨vp_in_nI (by omega) (by decide), ?_⟩))
      intro x6 e6
      rw [ix_nI (by omega), k2.2.1, show 109 + 2 * s + 1 = 110 + 2 * s by omega, I.2.2 k (by omega)] at e6
      unfold lyV at ih
      simp only [cmp_lt, cmp_gt]
      rw [i64_lt, i64_lt, i64_0, show (999 : Int64).toInt = 999 by rfl, e6]
      refine ⟨fun z y ey => ?_, fun z => ⟨fun z2 y ey => ?_, fun z2 => ⟨vp_in_nI (by omega) (by decide), ?_⟩⟩⟩
      · rw [ey, nI_1]
        rw [if_neg (by omega)] at ih
        exact ih h1 k1 k2
      · rw [ey, nI_1]
        rw [if_neg (by omega)] at ih
        exact ih h1 k1 k2
      · intro h14 e14 y ey w ew
        rw [ey, ew, nI_1, nI_1]
        rw [if_pos ⟨by omega, by omega⟩] at ih
        have er : sN σ s k = lN (sN σ s k).toInt.toNat := lN_of (by omega) (by omega)
        have C := hc_setS k1 (by rw [ly.1]; exact hs.1) (by rw [ly.2.1]; exact hs.2.1) (s := k) (k := 1) (x := (sN σ s k).toInt.toNat) (by rw [ly.1]; omega) (by omega)
        rw [er, lN_i, ix_nI (by omega), show 2 + 2 + k = 1 + 3 + k by omega] at e14
        rw [← e14] at C
        have f14 : FrI (cellsC 1) h1 h14 := by rw [e14]; exact FrI.si ⟨by omega, by omega⟩
        exact ih h14 C (k2.trans f14)
  · rw [if_neg p] at hQ
    exact c_found hF5_lt hI hQ rfl hs
theorem m_lays {x : Int32} (hW : WS c σ) (hI : MI σ h) (hQ : ∀ h', MI (o_lays σ x).2 h' → HiF h h' → Q (o_lays σ x).1 h') : f_X8_lays x h Q := by
  have hs := hW.small
  unfold f_X8_lays
  unfold o_lays at hQ
  refine m_sheetU hW hI (fun p => ?_) (fun p => ?_)
  · rw [if_pos p] at hQ
    have e := sh_lt p.1
    generalize nt x = s at *
    have hz := (hW.2.2.2.2.2 s e.2).2.1
    rw [e.1]
    have I := hI.2.2.2.2 s e.2
    have mn := lyN_f σ s
    have key := loop_up (L := fun f k => ∀ h1, HM (lyV (sV σ) (sN σ s) k).1 h1 → FrI cellsM h h1 → f_X8_lays_L35 (nI s) Q f (nI (lyV (sV σ) (sN σ s) k).2) (nI k) h1) (lyN σ s) 0 (by omega) (fun f h1 k1 k2 => ?_) (fun k f _ hk ih h1 k1 k2 => ?_)
    · obtain ⟨f, hf⟩ := key
      exact ⟨f, hf h hI.1 FrI.rf⟩
    · unfold f_X8_lays_L35
      have fin := hQ h1 (hI.world k1 k2) (k2.hi (by intro a k; simp only [cellsM]; omega))
      have ly := ly_1 (v := sV σ) (r := sN σ s) (lyN σ s)
      rw [ix_nI (by omega), k2.1 _ _ (by simp only [cellsM]; omega), I.2.1, k1.1.2.2.1, ly.1]
      refine ⟨vp_in_nI e.2 (by decide), br_le (by omega) (by omega) (fun _ => fin) (fun z => br_le (by omega) (by omega) (fun _ => fin) (fun z2 => by omega))⟩
    · unfold f_X8_lays_L35
      have ly := ly_1 (v := sV σ) (r := sN σ s) k
      rw [ix_nI (by omega), k2.1 _ _ (by simp only [cellsM]; omega), I.2.1, k1.1.2.2.1, ly.1]
      refine ⟨vp_in_nI e.2 (by decide), br_le (by omega) (by omega) (fun z => by omega) (fun _ => br_le (by omega) (by omega) (fun z => by omega) (fun _ => ?_))⟩
      rw [lit 40, nI_mul, nI_add, ix_nI (by omega)]
      refine ⟨vp_in_nI (by omega) (by decide), ?_⟩
      intro x4 e4
      rw [k2.2.1, I.2.2 k (by omega)] at e4
      rw [e4]
      unfold lyV at ih
      apply t_in
      have zi : ((0 : Int64) ≤ sN σ s k ∧ sN σ s k ≤ 999) ↔ (0 ≤ (sN σ s k).toInt ∧ (sN σ s k).toInt ≤ 999) := by
        rw [i64_le, i64_le, i64_0, show (999 : Int64).toInt = 999 by rfl]
      by_cases z : 0 ≤ (sN σ s k).toInt ∧ (sN σ s k).toInt ≤ 999
      · rw [if_pos z] at ih
        rw [if_pos (zi.mpr z)]
        refine br1 ⟨vp_in_nI (by omega) (by decide), ?_⟩
        intro h16 e16 y ey w ew
        rw [ey, ew, nI_1, nI_1]
        have er : sN σ s k = lN (sN σ s k).toInt.toNat := lN_of (by omega) (by omega)
        have C := hm_setS k1 (s := k) (k := 1) (x := (sN σ s k).toInt.toNat) (by omega)
        rw [er, lN_i, ix_nI (by omega)] at e16
        rw [← e16] at C
        have f16 : FrI cellsM h1 h16 := by rw [e16]; exact FrI.si (by simp [cellsM])
        exact ih h16 C (k2.trans f16)
      · rw [if_neg z] at ih
        rw [if_neg (fun q => z (zi.mp q))]
        refine br0 ?_
        intro y ey
        rw [ey, nI_1]
        exact ih h1 k1 k2
  · rw [if_neg p] at hQ
    exact m_finds hF5_lt hI hQ rfl
end Ops
