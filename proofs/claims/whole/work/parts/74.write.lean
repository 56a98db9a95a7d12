/-! sheet, write -/
def nrw (b : Nat) (v : Int64) : Int64 := if b = 16 then ((v.toInt32).toInt16.toInt32).toInt64 else if b = 32 then (v.toInt32).toInt64 else v
def upL (r : Nat → Int64) (i : Nat) (v : Int64) : Nat → Int64 := fun j => if j = i then v else r j
section Ops
variable {c : Nat} {σ : ST} {h : HP} {Q : Int32 → HP → Prop}
theorem c_put {Q : HP → Prop} {a b i : Nat} {v : Int64} (hb : gi h a 1 = nI b) (hb2 : b < 100) (hi : i < 40) (hQ : ∀ h', h' = sl h (a + 1) i (nrw b v) → Q h') : f_X2_put a (nI i) v h Q := by
  unfold f_X2_put
  rw [hb, ix_nI (by omega)]
  have vp : vp_in (nI i) 40 := vp_in_nI hi (by decide)
  unfold nrw at hQ
  refine br_eq (b := 16) (by omega) (by omega) (fun z => ⟨vp, fun h' e => ?_⟩) (fun z => ?_)
  · rw [if_pos z] at hQ; exact hQ h' e
  · rw [if_neg z] at hQ
    refine br_eq (b := 32) (by omega) (by omega) (fun z2 => ⟨vp, fun h' e => ?_⟩) (fun z2 => ⟨vp, fun h' e => ?_⟩)
    · rw [if_pos z2] at hQ; exact hQ h' e
    · rw [if_neg z2] at hQ; exact hQ h' e
theorem m_narrow {Q : Int64 → HP → Prop} {b : Nat} {v : Int64} (hb2 : b < 100) (hQ : Q (nrw b v) h) : f_X8_narrow (nI b) v h Q := by
  unfold f_X8_narrow
  unfold nrw at hQ
  refine br_eq (b := 16) (by omega) (by omega) (fun z => ?_) (fun z => ?_)
  · rw [if_pos z] at hQ; exact hQ
  · rw [if_neg z] at hQ
    refine br_eq (b := 32) (by omega) (by omega) (fun z2 => ?_) (fun z2 => ?_)
    · rw [if_pos z2] at hQ; exact hQ
    · rw [if_neg z2] at hQ; exact hQ
theorem CI.put {s i : Nat} {v : Int64} {h' : HP} (hI : CI σ h) (hW : WS c σ) (hs : s < 4) (hi : i < 40) (e : h' = sl h (109 + 2 * s + 1) i v) : CI (uS σ s (sB σ s) (sZ σ s) (upL (sN σ s) i v)) h' := by
  have I := hI.2.2.2.2 s hs
  refine hI.sheet hW hs (fun a k _ => by rw [e]; rfl) (fun a k q => by rw [e, gl_sl, if_neg (fun z => q (by omega))]) (by rw [e]; exact I.1) (by rw [e]; exact I.2.1) (fun j hj => ?_)
  rw [e, gl_sl]
  unfold upL
  by_cases z : j = i
  · rw [if_pos ⟨by omega, z⟩, if_pos z]
  · rw [if_neg (fun q => z q.2), if_neg z]; exact I.2.2 j hj
theorem MI.put {s i : Nat} {v : Int64} {h' : HP} (hI : MI σ h) (hs : s < 4) (hi : i < 40) (e : h' = sl h 142 (40 * s + i) v) : MI (uS σ s (sB σ s) (sZ σ s) (upL (sN σ s) i v)) h' := by
  have I := hI.2.2.2.2 s hs
  refine hI.sheet (fun a k _ => by rw [e]; rfl) (fun k q => by rw [e, gl_sl, if_neg (fun z => q (by omega))]) (by rw [e]; exact I.1) (by rw [e]; exact I.2.1) (fun j hj => ?_)
  rw [e, gl_sl]
  unfold upL
  by_cases z : j = i
  · rw [if_pos ⟨rfl, by omega⟩, if_pos z]
  · rw [if_neg (fun q => z (by omega)), if_neg z]; exact I.2.2 j hj
theorem LoF.sl {a k : Nat} {v : Int64} (ha : a < 117) : LoF h (sl h a k v) := ⟨fun _ _ _ => rfl, fun b j hb => by rw [gl_sl, if_neg (fun q => by omega)]⟩
theorem HiF.sl {a k : Nat} {v : Int64} (ha : 117 ≤ a) : HiF h (sl h a k v) := ⟨fun _ _ _ => rfl, fun b j hb => by rw [gl_sl, if_neg (fun q => by omega)], fun _ => rfl⟩
noncomputable def o_write (σ : ST) (x1 x2 : Int32) (x3 : Int64) : Int64 × ST := by
  classical exact if isH σ x1 then (if InR x2 0 ((sZ σ (nt x1) : Int) - 1) then (sN σ (nt x1) (nt x2), uS σ (nt x1) (sB σ (nt x1)) (sZ σ (nt x1)) (upL (sN σ (nt x1)) (nt x2) (nrw (sB σ (nt x1)) x3))) else ((fnd 0).toInt64, uF σ 0)) else ((fnd (hF5 σ x1)).toInt64, uF σ (hF5 σ x1))
theorem WS_write {x1 x2 : Int32} {x3 : Int64} (hW : WS c σ) (hc : c < 512) : WS (c + 1) (o_write σ x1 x2 x3).2 := by
  unfold o_write
  split
  · rename_i p
    have w := hW.2.2.2.2.2 (nt x1) (sh_lt p.1).2
    split
    · exact WS_S hW hc w.1 w.2.1 w.2.2
    · exact WS_F hW hc
  · exact WS_F hW hc
theorem c_write {Q : Int64 → HP → Prop} {x1 x2 : Int32} {x3 : Int64} (hW : WS c σ) (hI : CI σ h) (hQ : ∀ h', CI (o_write σ x1 x2 x3).2 h' → LoF h h' → Q (o_write σ x1 x2 x3).1 h') : f_X7_write x1 x2 x3 h Q := by
  have hs := hW.small
  unfold f_X7_write
  unfold o_write at hQ
  refine c_sheetU (Q := fun v h1 => Q v.toInt64 h1) hW hI (fun p => ?_) (fun p => ?_)
  · rw [if_pos p] at hQ
    have e := sh_lt p.1
    have hb := b4 hW e.2
    have w := hW.2.2.2.2.2 (nt x1) e.2
    generalize nt x1 = s at *
    have I := hI.2.2.2.2 s e.2
    rw [e.1, ix_nI (by omega), show 107 + 2 + 2 * s = 109 + 2 * s by omega, I.2.1]
    refine ⟨vp_in_nI e.2 (by decide), ?_⟩
    refine c_in (a := 0) (b := (sZ σ s : Int) - 1) rfl (nI_pre (by omega)) (fun p2 => br1 ?_) (fun p2 => br0 ?_)
    · rw [if_pos p2] at hQ
      have e2 := nt_nI p2.1
      have l2 : nt x2 < 40 := by unfold nt; omega
      generalize nt x2 = i at *
      rw [e2, ix_nI (by omega)]
      refine ⟨vp_in_nI l2 (by decide), ?_⟩
      intro x7 e7
      rw [show 109 + 2 * s + 1 = 110 + 2 * s by omega, I.2.2 i l2] at e7
      refine c_put I.1 hb l2 (fun h' e' => ?_)
      rw [e7]
      exact hQ h' (hI.put hW e.2 l2 e') (by rw [e']; exact LoF.sl (by omega))
    · rw [if_neg p2] at hQ
      exact c_found (Q := fun v h1 => Q v.toInt64 h1) (by omega) hI hQ fnd0 hs
  · rw [if_neg p] at hQ
    exact c_found (Q := fun v h1 => Q v.toInt64 h1) hF5_lt hI hQ rfl hs
theorem m_write {Q : Int64 → HP → Prop} {x1 x2 : Int32} {x3 : Int64} (hW : WS c σ) (hI : MI σ h) (hQ : ∀ h', MI (o_write σ x1 x2 x3).2 h' → HiF h h' → Q (o_write σ x1 x2 x3).1 h') : f_X8_write x1 x2 x3 h Q := by
  have hs := hW.small
  unfold f_X8_write
  unfold o_write at hQ
  refine m_sheetU (Q := fun v h1 => Q v.toInt64 h1) hW hI (fun p => ?_) (fun p => ?_)
  · rw [if_pos p] at hQ
    have e := sh_lt p.1
    have hb := b4 hW e.2
    have w := hW.2.2.2.2.2 (nt x1) e.2
    generalize nt x1 = s at *
    have I := hI.2.2.2.2 s e.2
    rw [e.1, ix_nI (by omega), I.2.1]
    refine ⟨vp_in_nI e.2 (by decide), ?_⟩
    refine m_in (a := 0) (b := (sZ σ s : Int) - 1) rfl (by rw [w_toInt, nI_pre (by omega)]) (fun p2 => br1 ?_) (fun p2 => br0 ?_)
    · rw [if_pos p2] at hQ
      have e2 := nt_nI p2.1
      have l2 : nt x2 < 40 := by unfold nt; omega
      generalize nt x2 = i at *
      rw [e2, lit 40, nI_mul, nI_add, ix_nI (by omega)]
      refine ⟨vp_in_nI (by omega) (by decide), ?_⟩
      intro x5 e5
      rw [I.2.2 i l2] at e5
      refine ⟨vp_in_nI e.2 (by decide), ?_⟩
      rw [I.1]
      refine m_narrow hb ⟨vp_in_nI (by omega) (by decide), ?_⟩
      intro h' e'
      rw [e5]
      exact hQ h' (hI.put e.2 l2 e') (by rw [e']; exact HiF.sl (by omega))
    · rw [if_neg p2] at hQ
      exact m_finds (Q := fun v h1 => Q v.toInt64 h1) (by omega) hI hQ fnd0
  · rw [if_neg p] at hQ
    exact m_finds (Q := fun v h1 => Q v.toInt64 h1) hF5_lt hI hQ rfl
theorem t_fillL {Q : HP → Prop} {a n : Nat} {x : Int64} (hn : kn a = n) (hk : n < 2 ^ 31) (hQ : ∀ h', (∀ k, k < n → gl h' a k = x) → (∀ b k, b ≠ a → gl h' b k = gl h b k) → (∀ b k, gi h' b k = gi h b k) → Q h') : f_J7_fill_d0a16 a x h Q := by
  unfold f_J7_fill_d0a16
  intro x4 e4
  rw [hn, ofN] at e4
  rw [e4]
  have key := loop_up (L := fun f i => ∀ g, (∀ k, k < i → gl g a k = x) → (∀ b k, b ≠ a → gl g b k = gl h b k) → (∀ b k, gi g b k = gi h b k) → f_J7_fill_d0a16_L6 a x (nI n) Q f (nI i) g) n 0 (by omega) (fun f g g1 g2 g3 => ?_) (fun i f _ hi ih g g1 g2 g3 => ?_)
  · obtain ⟨f, hf⟩ := key
    exact ⟨f, hf h (fun k hk => by omega) (fun _ _ _ => rfl) (fun _ _ => rfl)⟩
  · unfold f_J7_fill_d0a16_L6
    exact br_le (by omega) (by omega) (fun _ => hQ g g1 g2 g3) (fun z => by omega)
  · unfold f_J7_fill_d0a16_L6
    rw [hn, ix_nI (by omega)]
    refine br_le (by omega) (by omega) (fun z => by omega) (fun _ => ⟨vp_in_nI hi hk, ?_⟩)
    intro h4 e4 y ey
    rw [ey, nI_1]
    refine ih h4 (fun k hk => ?_) (fun b k hb => ?_) (fun b k => by rw [e4]; exact g3 b k)
    · rw [e4, gl_sl]
      by_cases z : k = i
      · rw [if_pos ⟨rfl, z⟩]
      · rw [if_neg (fun q => z q.2)]; exact g1 k (by omega)
    · rw [e4, gl_sl, if_neg (fun q => hb q.1)]; exact g2 b k hb
def o_sheet (σ : ST) (x1 x2 x3 : Int32) : Int32 × ST :=
  if InR x1 0 3 ∧ (x2 = 0 ∨ x2 = 16 ∨ x2 = 32 ∨ x2 = 64) then (if x2 = 0 then (0, uS σ (nt x1) 0 0 (fun _ => 0)) else if x3.toInt < 0 then (fnd 6, uF σ 6) else if 40 < x3.toInt then (fnd 0, uF σ 0) else (x3, uS σ (nt x1) (nt x2) (nt x3) (fun _ => 0))) else (fnd 0, uF σ 0)
theorem bit_nt {x : Int32} (h : x = 0 ∨ x = 16 ∨ x = 32 ∨ x = 64) : x = nI (nt x) ∧ bits4 (nt x) ∧ (x ≠ 0 → nt x ≠ 0) := by
  rcases h with rfl | rfl | rfl | rfl
  · exact ⟨by decide +kernel, Or.inl (by decide +kernel), fun q => absurd rfl q⟩
  · exact ⟨by decide +kernel, Or.inr (Or.inl (by decide +kernel)), fun _ => by decide +kernel⟩
  · exact ⟨by decide +kernel, Or.inr (Or.inr (Or.inl (by decide +kernel))), fun _ => by decide +kernel⟩
  · exact ⟨by decide +kernel, Or.inr (Or.inr (Or.inr (by decide +kernel))), fun _ => by decide +kernel⟩
theorem WS_sheet {x1 x2 x3 : Int32} (hW : WS c σ) (hc : c < 512) : WS (c + 1) (o_sheet σ x1 x2 x3).2 := by
  unfold o_sheet
  split
  · rename_i p
    have b := bit_nt p.2
    split
    · exact WS_S hW hc (Or.inl rfl) (by omega) (fun _ => rfl)
    · rename_i q
      split
      · exact WS_F hW hc
      · split
        · exact WS_F hW hc
        · exact WS_S hW hc b.2.1 (by unfold nt; omega) (fun z => absurd z (b.2.2 q))
  · exact WS_F hW hc
theorem kn_row {s : Nat} (hs : s < 4) : kn (109 + 2 * s + 1) = 40 := by
  have : ∀ s, s < 4 → kn (109 + 2 * s + 1) = 40 := by decide +kernel
  exact this s hs
theorem c_renew {s b z : Nat} {K : HP → Prop} (hW : WS c σ) (hI : CI σ h) (hs : s < 4) (hK : ∀ h', CI (uS σ s b z (fun _ => 0)) h' → LoF h h' → K h') : f_X2_renew (109 + 2 * s) (nI b) (nI z) h K := by
  unfold f_X2_renew
  intro h1 e1 h2 e2
  refine t_fillL (kn_row hs) (by decide) (fun h3 g1 g2 g3 => ?_)
  have up : ∀ a k, gi h3 a k = if a = 109 + 2 * s ∧ k = 2 then nI z else if a = 109 + 2 * s ∧ k = 1 then nI b else gi h a k := by
    intro a k; rw [g3, e2, gi_si, e1, gi_si]
  have upl : ∀ a k, a ≠ 109 + 2 * s + 1 → gl h3 a k = gl h a k := fun a k q => by rw [g2 a k q, e2, e1]; rfl
  refine hK h3 (hI.sheet hW hs (fun a k q => by rw [up, if_neg (fun z => q z.1), if_neg (fun z => q z.1)]) (fun a k q => upl a k (by omega)) (by rw [up, if_neg (by omega), if_pos ⟨rfl, rfl⟩]) (by rw [up, if_pos ⟨rfl, rfl⟩]) (fun i hi => ?_)) ⟨fun a k q => by rw [up, if_neg (by omega), if_neg (by omega)], fun a k q => upl a k (by omega)⟩
  rw [show 110 + 2 * s = 109 + 2 * s + 1 by omega]; exact g1 i hi
theorem c_sheet {x1 x2 x3 : Int32} (hW : WS c σ) (hI : CI σ h) (hQ : ∀ h', CI (o_sheet σ x1 x2 x3).2 h' → LoF h h' → Q (o_sheet σ x1 x2 x3).1 h') : f_X7_sheet x1 x2 x3 h Q := by
  have hs := hW.small
  unfold f_X7_sheet
  unfold o_sheet at hQ
  refine c_in (a := 0) (b := 3) rfl rfl (fun p => br1 ?_) (fun p => br0 ?_)
  · have e := sh_lt p
    have K : (x2 = 0 ∨ x2 = 16 ∨ x2 = 32 ∨ x2 = 64) → (((x2 = 0) → vp_in x1 4 ∧ f_X2_renew (107 + 2 + 2 * ix x1) 0 0 h (fun h19 => Q 0 h19)) ∧ (¬ (x2 = 0) → (((0 ≤ x3) → (((x3 ≤ 40) → vp_in x1 4 ∧ f_X2_renew (107 + 2 + 2 * ix x1) x2 x3 h (fun h13 => Q x3 h13)) ∧ (¬ (x3 ≤ 40) → f_X7_found (-1000000001 : Int32) h (fun v15 h14 => Q v15 h14)))) ∧ (¬ (0 ≤ x3) → f_X7_found (-1000000007 : Int32) h (fun v17 h16 => Q v17 h16))))) := by
      intro pb
      rw [if_pos ⟨p, pb⟩] at hQ
      have ix1 : ix x1 = nt x1 := by
        have := ix_nI (k := nt x1) (by omega)
        rw [← e.1] at this; exact this
      have vp : vp_in x1 4 := by rw [e.1]; exact vp_in_nI e.2 (by decide)
      rw [ix1, show 107 + 2 + 2 * nt x1 = 109 + 2 * nt x1 by omega, i32_le, i32_le, i32_0, show (40 : Int32).toInt = 40 by rfl]
      refine ⟨fun z => ?_, fun z => ⟨fun z2 => ⟨fun z3 => ?_, fun z3 => ?_⟩, fun z2 => ?_⟩⟩
      · rw [if_pos z] at hQ
        exact ⟨vp, c_renew (b := 0) (z := 0) hW hI e.2 hQ⟩
      · rw [if_neg z, if_neg (by omega), if_neg (by omega)] at hQ
        have b2 := (bit_nt pb).1
        have b3 := nt_nI z2
        rw [show f_X2_renew (109 + 2 * nt x1) x2 x3 h = f_X2_renew (109 + 2 * nt x1) (nI (nt x2)) (nI (nt x3)) h by rw [← b2, ← b3]]
        exact ⟨vp, c_renew hW hI e.2 hQ⟩
      · rw [if_neg z, if_neg (by omega), if_pos (by omega)] at hQ
        exact c_found (by omega) hI hQ fnd0 hs
      · rw [if_neg z, if_pos (by omega)] at hQ
        exact c_found (by omega) hI hQ fnd6 hs
    unfold f_X2_hasBits
    refine ⟨fun z => br1 (K (Or.inl z)), fun z0 => ⟨fun z => br1 (K (Or.inr (Or.inl z))), fun z1 => ⟨fun z => br1 (K (Or.inr (Or.inr (Or.inl z)))), fun z2 => ⟨fun z => br1 (K (Or.inr (Or.inr (Or.inr z)))), fun z3 => br0 ?_⟩⟩⟩⟩
    rw [if_neg (fun q => by rcases q.2 with q | q | q | q <;> contradiction)] at hQ
    exact c_found (by omega) hI hQ fnd0 hs
  · rw [if_neg (fun q => p q.1)] at hQ
    exact c_found (by omega) hI hQ fnd0 hs
theorem m_sheet {x1 x2 x3 : Int32} (hI : MI σ h) (hQ : ∀ h', MI (o_sheet σ x1 x2 x3).2 h' → HiF h h' → Q (o_sheet σ x1 x2 x3).1 h') : f_X8_sheet x1 x2 x3 h Q := by
  unfold f_X8_sheet
  unfold o_sheet at hQ
  refine m_isSheet (fun p => br1 ?_) (fun p => br0 ?_)
  · have e := sh_lt p
    have ix1 : ix x1 = nt x1 := by
      have := ix_nI (k := nt x1) (by omega)
      rw [← e.1] at this; exact this
    have vp : vp_in x1 4 := by rw [e.1]; exact vp_in_nI e.2 (by decide)
    have J : ∀ b z, (x2 = nI b) → (if x2 = 0 then (0 : Int32) else x3) = nI z → (∀ h', MI (uS σ (nt x1) b z (fun _ => 0)) h' → HiF h h' → Q (nI z) h') → f_X8_sheet_J69 x1 x2 x3 Q h := by
      intro b z eb ez hK
      unfold f_X8_sheet_J69
      rw [ix1, ez]
      refine ⟨vp, ?_⟩
      intro h10 e10
      refine ⟨vp, ?_⟩
      intro h14 e14
      have up : ∀ a k, gi h14 a k = if a = 141 ∧ k = nt x1 then nI z else if a = 140 ∧ k = nt x1 then nI b else gi h a k := by
        intro a k; rw [e14, gi_si, e10, gi_si, eb]
      have key := loop_up (L := fun f i => ∀ g, (∀ k, k < i → gl g 142 (40 * nt x1 + k) = 0) → (∀ b k, ¬ (b = 142 ∧ 40 * nt x1 ≤ k ∧ k < 40 * nt x1 + 40) → gl g b k = gl h b k) → (∀ b k, gi g b k = gi h14 b k) → (∀ j, gw g j = gw h j) → f_X8_sheet_L94 x1 Q f (nI i) g) 40 0 (by omega) (fun f g g1 g2 g3 g4 => ?_) (fun i f _ hi ih g g1 g2 g3 g4 => ?_)
      · obtain ⟨f, hf⟩ := key
        exact ⟨f, hf h14 (fun k hk => by omega) (fun b k _ => by rw [e14, e10]; rfl) (fun _ _ => rfl) (fun j => by rw [e14, e10]; rfl)⟩
      · unfold f_X8_sheet_L94
        refine br_le (a := 40) (by omega) (by omega) (fun _ => ⟨vp, ?_⟩) (fun z => by omega)
        rw [ix1, g3, up, if_pos ⟨rfl, rfl⟩]
        refine hK g (hI.sheet (fun a k q => ?_) (fun k q => g2 _ _ (fun z => q z.2)) ?_ ?_ g1) ⟨fun a k q => ?_, fun a k q => g2 _ _ (by omega), g4⟩
        · rw [g3, up, if_neg (by omega), if_neg (by omega)]
        · rw [g3, up, if_neg (by omega), if_pos ⟨rfl, rfl⟩]
        · rw [g3, up, if_pos ⟨rfl, rfl⟩]
        · rw [g3, up, if_neg (by omega), if_neg (by omega)]
      · unfold f_X8_sheet_L94
        refine br_le (a := 40) (by omega) (by omega) (fun z => by omega) (fun _ => ?_)
        rw [e.1, lit 40, nI_mul, nI_add, ix_nI (by omega)]
        refine ⟨vp_in_nI (by omega) (by decide), ?_⟩
        intro h18 e18 y ey
        rw [ey, nI_1 i, ← e.1]
        refine ih h18 (fun k hk => ?_) (fun b k q => ?_) (fun b k => by rw [e18]; exact g3 b k) (fun j => by rw [e18]; exact g4 j)
        · rw [e18, gl_sl]
          by_cases z : k = i
          · rw [if_pos ⟨rfl, by omega⟩]
          · rw [if_neg (by omega)]; exact g1 k (by omega)
        · rw [e18, gl_sl, if_neg (by omega)]; exact g2 b k q
    have K : (x2 = 0 ∨ x2 = 16 ∨ x2 = 32 ∨ x2 = 64) → f_X8_sheet_J36 x1 x2 x3 Q h := by
      intro pb
      rw [if_pos ⟨p, pb⟩] at hQ
      have b2 := bit_nt pb
      unfold f_X8_sheet_J36 f_X8_sheet_J52
      rw [i32_le, i32_le, i32_0, show (40 : Int32).toInt = 40 by rfl]
      refine ⟨fun z => ⟨fun _ => ?_, fun q => absurd z q⟩, fun z => ⟨fun z2 => ⟨fun q => absurd q z, fun _ => ⟨fun z3 => ?_, fun z3 => ?_⟩⟩, fun z2 => ?_⟩⟩
      · rw [if_pos z] at hQ
        exact J 0 0 z (by rw [if_pos z]; rfl) hQ
      · rw [if_neg z, if_neg (by omega), if_neg (by omega)] at hQ
        have b3 := nt_nI z2
        refine J (nt x2) (nt x3) b2.1 (by rw [if_neg z]; exact b3) (fun h' a b => ?_)
        rw [← b3]; exact hQ h' a b
      · rw [if_neg z, if_neg (by omega), if_pos (by omega)] at hQ
        exact m_finds (by omega) hI hQ fnd0
      · rw [if_neg z, if_pos (by omega)] at hQ
        exact m_finds (by omega) hI hQ fnd6
    refine ⟨fun z => K (Or.inl z), fun z0 => ⟨fun z => K (Or.inr (Or.inl z)), fun z1 => ⟨fun z => K (Or.inr (Or.inr (Or.inl z))), fun z2 => ⟨fun z => K (Or.inr (Or.inr (Or.inr z))), fun z3 => ?_⟩⟩⟩⟩
    rw [if_neg (fun q => by rcases q.2 with q | q | q | q <;> contradiction)] at hQ
    exact m_finds (by omega) hI hQ fnd0
  · rw [if_neg (fun q => p q.1)] at hQ
    exact m_finds (by omega) hI hQ fnd0
end Ops
