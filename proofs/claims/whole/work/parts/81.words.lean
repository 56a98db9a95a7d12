/-! words, the reference's tokens -/
abbrev wdN (w : Nat) : Nat := leS.getD w 0
abbrev wdC (w i : Nat) : Int32 := (byS.getD w []).getD i 0
def wd8 (k : Nat) : Int32 := if k % 8 < wdN (k / 8) then wdC (k / 8) (k % 8) else 32
def WD (h : HP) : Prop := ∀ k, k < 128 → gi h 139 k = wd8 k
/-- word w lies at P till E -/
abbrev wmP (b : Nat → Int32) (P E w : Nat) : Prop := E - P = wdN w ∧ ∀ i, i < wdN w → b (P + i) = wdC w i
def wlF (b : Nat → Int32) (P E : Nat) : Nat → Int32
  | 0 => -2
  | k + 1 => if wmP b P E k then 10 + nI k else wlF b P E k
def wmt (n : Nat) (b : Nat → Int32) (p w : Nat) : Prop := tK n b p = 1 ∧ wmP b (tP n b p) (tE n b p) w
def cdF (n : Nat) (b : Nat → Int32) (p : Nat) : Int32 := if tK n b p = 0 then -1 else if tK n b p = 3 then 0 else if tK n b p = 2 then (if tV n b p ≤ 999 then 1 else -2) else if tK n b p = 1 then wlF b (tP n b p) (tE n b p) 16 else -2
theorem wd_b {w : Nat} (hw : w < 16) : 1 ≤ wdN w ∧ wdN w ≤ 7 ∧ ∀ i, i < wdN w → wdC w i ≠ 32 := by
  have : ∀ w, w < 16 → 1 ≤ wdN w ∧ wdN w ≤ 7 ∧ ∀ i, i < wdN w → wdC w i ≠ 32 := by decide +kernel
  exact this w hw
theorem wd_ne {w w' : Nat} (hw : w < 16) (hw' : w' < 16) (hne : w ≠ w') : wdN w ≠ wdN w' ∨ ∃ i, i < wdN w ∧ wdC w i ≠ wdC w' i := by
  have : ∀ w, w < 16 → ∀ w', w' < 16 → w ≠ w' → wdN w ≠ wdN w' ∨ ∃ i, i < wdN w ∧ wdC w i ≠ wdC w' i := by decide +kernel
  exact this w hw w' hw' hne
theorem wm_one {b : Nat → Int32} {P E w w' : Nat} (hw : w < 16) (hw' : w' < 16) (h1 : wmP b P E w) (h2 : wmP b P E w') : w = w' := by
  apply Decidable.byContradiction
  intro q
  rcases wd_ne hw hw' q with z | ⟨i, i1, i2⟩
  · exact z (h1.1.symm.trans h2.1)
  · have e : wdN w = wdN w' := h1.1.symm.trans h2.1
    exact i2 ((h1.2 i i1).symm.trans (h2.2 i (by omega)))
theorem wl_iff {b : Nat → Int32} {P E w : Nat} (hw : w < 16) : ∀ k, k ≤ 16 → (wlF b P E k = 10 + nI w ↔ w < k ∧ wmP b P E w)
  | 0, _ => by
    unfold wlF
    refine ⟨fun q => ?_, fun q => by omega⟩
    rw [lit 10, nI_add] at q
    have := congrArg Int32.toInt q
    rw [nI_toInt (by omega), show (-2 : Int32).toInt = -2 by rfl] at this
    omega
  | k + 1, hk => by
    unfold wlF
    have ih := wl_iff (b := b) (P := P) (E := E) hw k (by omega)
    by_cases z : wmP b P E k
    · rw [if_pos z]
      refine ⟨fun q => ?_, fun q => ?_⟩
      · rw [lit 10, nI_add, nI_add] at q
        have e := (nI_eq (by omega) (by omega)).mp q
        have : k = w := by omega
        exact ⟨by omega, by rw [← this]; exact z⟩
      · rw [wm_one hw (by omega) q.2 z]
    · rw [if_neg z, ih]
      refine ⟨fun q => ⟨by omega, q.2⟩, fun q => ⟨?_, q.2⟩⟩
      by_cases z2 : w = k
      · rw [z2] at q; exact absurd q.2 z
      · omega
theorem wl_low {b : Nat → Int32} {P E : Nat} : ∀ k, k ≤ 16 → (wlF b P E k = -2 ∨ ∃ w, w < 16 ∧ wlF b P E k = nI (10 + w))
  | 0, _ => Or.inl rfl
  | k + 1, hk => by
    unfold wlF
    split
    · exact Or.inr ⟨k, by omega, by rw [lit 10, nI_add]⟩
    · exact wl_low k (by omega)
section Tok
variable {n p : Nat} {b : Nat → Int32} {h : HP}
theorem m2_ne {x : Nat} (hx : x < 100) : (-2 : Int32) ≠ nI x := by
  intro q
  have := congrArg Int32.toInt q
  rw [nI_toInt (by omega), show (-2 : Int32).toInt = -2 by rfl] at this
  omega
theorem m1_ne {x : Nat} (hx : x < 100) : (-1 : Int32) ≠ nI x := by
  intro q
  have := congrArg Int32.toInt q
  rw [nI_toInt (by omega), show (-1 : Int32).toInt = -1 by rfl] at this
  omega
theorem kcd_w {w : Nat} (hw : w < 16) : cdF n b p = 10 + nI w ↔ wmt n b p w := by
  unfold cdF wmt
  have e10 : (10 : Int32) + nI w = nI (10 + w) := by rw [lit 10, nI_add]
  by_cases k0 : tK n b p = 0
  · rw [if_pos k0, e10]
    exact ⟨fun q => absurd q (m1_ne (by omega)), fun q => by omega⟩
  · rw [if_neg k0]
    by_cases k3 : tK n b p = 3
    · rw [if_pos k3, e10, lit 0, nI_eq (by omega) (by omega)]
      exact ⟨fun q => by omega, fun q => by omega⟩
    · rw [if_neg k3]
      by_cases k2 : tK n b p = 2
      · rw [if_pos k2, e10]
        split
        · rw [lit 1, nI_eq (by omega) (by omega)]
          exact ⟨fun q => by omega, fun q => by omega⟩
        · exact ⟨fun q => absurd q (m2_ne (by omega)), fun q => by omega⟩
      · rw [if_neg k2]
        by_cases k1 : tK n b p = 1
        · rw [if_pos k1, wl_iff hw 16 (Nat.le_refl _)]
          exact ⟨fun q => ⟨k1, q.2⟩, fun q => ⟨hw, q.2⟩⟩
        · rw [if_neg k1, e10]
          exact ⟨fun q => absurd q (m2_ne (by omega)), fun q => absurd q.1 k1⟩
theorem kcd_s : cdF n b p = 0 ↔ tK n b p = 3 := by
  unfold cdF
  by_cases k0 : tK n b p = 0
  · rw [if_pos k0]
    exact ⟨fun q => absurd q (m1_ne (x := 0) (by omega)), fun q => by omega⟩
  · rw [if_neg k0]
    by_cases k3 : tK n b p = 3
    · rw [if_pos k3]; exact ⟨fun _ => k3, fun _ => rfl⟩
    · rw [if_neg k3]
      refine ⟨fun q => ?_, fun q => absurd q k3⟩
      split at q
      · split at q
        · exact absurd q (by decide)
        · exact absurd q (m2_ne (x := 0) (by omega))
      · split at q
        · rcases wl_low (b := b) (P := tP n b p) (E := tE n b p) 16 (Nat.le_refl _) with e | ⟨w, hw, e⟩
          · rw [e] at q; exact absurd q (m2_ne (x := 0) (by omega))
          · rw [e, lit 0, nI_eq (by omega) (by omega)] at q; omega
        · exact absurd q (m2_ne (x := 0) (by omega))
theorem kcd_e : cdF n b p = -1 ↔ tK n b p = 0 := by
  unfold cdF
  by_cases k0 : tK n b p = 0
  · rw [if_pos k0]; exact ⟨fun _ => k0, fun _ => rfl⟩
  · rw [if_neg k0]
    refine ⟨fun q => ?_, fun q => absurd q k0⟩
    split at q
    · exact absurd q (by decide)
    · split at q
      · split at q
        · exact absurd q (by decide)
        · exact absurd q (by decide)
      · split at q
        · rcases wl_low (b := b) (P := tP n b p) (E := tE n b p) 16 (Nat.le_refl _) with e | ⟨w, hw, e⟩
          · rw [e] at q; exact absurd q (by decide)
          · rw [e] at q; exact absurd q.symm (m1_ne (by omega))
        · exact absurd q (by decide)
theorem kcd_n : cdF n b p = 1 ↔ (tK n b p = 2 ∧ tV n b p ≤ 999) := by
  unfold cdF
  by_cases k0 : tK n b p = 0
  · rw [if_pos k0]
    exact ⟨fun q => absurd q (by decide), fun q => by omega⟩
  · rw [if_neg k0]
    by_cases k3 : tK n b p = 3
    · rw [if_pos k3]
      exact ⟨fun q => absurd q (by decide), fun q => by omega⟩
    · rw [if_neg k3]
      by_cases k2 : tK n b p = 2
      · rw [if_pos k2]
        by_cases z : tV n b p ≤ 999
        · rw [if_pos z]; exact ⟨fun _ => ⟨k2, z⟩, fun _ => rfl⟩
        · rw [if_neg z]; exact ⟨fun q => absurd q (by decide), fun q => absurd q.2 z⟩
      · rw [if_neg k2]
        refine ⟨fun q => ?_, fun q => absurd q.1 k2⟩
        split at q
        · rcases wl_low (b := b) (P := tP n b p) (E := tE n b p) 16 (Nat.le_refl _) with e | ⟨w, hw, e⟩
          · rw [e] at q; exact absurd q (by decide)
          · rw [e, lit 1, nI_eq (by omega) (by omega)] at q; omega
        · exact absurd q (by decide)
theorem c_isWord {Q : Int32 → HP → Prop} {a w : Nat} (hn : n ≤ 120) (hp : p ≤ n) (hw : w < 16) (ha : a - 6000 = w) (hT : TC n b p h) (h1 : wmt n b p w → Q 1 h) (h0 : ¬ wmt n b p w → Q 0 h) : f_X5_isWord a h Q := by
  unfold f_X5_isWord
  have tb := tP_b (b := b) hp
  have eb := tE_b (b := b) hp
  have wb := wd_b hw
  obtain ⟨t1, t2, t3, t4, t5, t6⟩ := hT
  have kl : tK n b p ≤ 4 := by
    unfold tK
    have := kcF_pos (x := b (tP n b p))
    split <;> omega
  have eW : leS.getD w 0 = wdN w := rfl
  rw [t3, t4, t5, nI_sub eb.1, ha, eW]
  unfold wmt at h1 h0
  generalize tP n b p = P at *
  generalize tE n b p = E at *
  refine br_eq (b := 1) (by omega) (by omega) (fun z => ?_) (fun z => h0 (fun q => z q.1))
  refine br_eq (by omega) (by omega) (fun z2 => ?_) (fun z2 => h0 (fun q => z2 q.2.1))
  have key := loop_up (L := fun f i => (∀ j, j < i → b (P + j) = wdC w j) → f_X5_isWord_L28 a Q f (nI i) h) (wdN w) 0 (by omega) (fun f hi => ?_) (fun i f _ hi ih hj => ?_)
  · obtain ⟨f, hf⟩ := key
    exact ⟨f, hf (fun j hj => by omega)⟩
  · unfold f_X5_isWord_L28
    rw [ha, eW]
    exact br_le (by omega) (by omega) (fun _ => h1 ⟨z, z2, hi⟩) (fun q => by omega)
  · unfold f_X5_isWord_L28
    rw [ha, eW, t4, nI_add, ix_nI (by omega), ix_nI (by omega), t2 _ (by omega)]
    refine br_le (by omega) (by omega) (fun q => by omega) (fun _ => ⟨vp_in_nI (by omega) (by decide), vp_in_nI hi (by omega), fun q => ?_, fun q => h0 (fun r => q (r.2.2 i hi))⟩)
    intro y ey
    rw [ey, nI_1]
    refine ih (fun j hj' => ?_)
    by_cases z3 : j = i
    · rw [z3]; exact q
    · exact hj j (by omega)
/-- the reference's token behind p -/
def TM (n : Nat) (b : Nat → Int32) (p : Nat) (h : HP) : Prop := gi h 117 26 = nI n ∧ (∀ i, i < n → gi h 138 i = b i) ∧ gi h 117 29 = cdF n b p ∧ gi h 117 28 = nI (tP n b p) ∧ gi h 117 27 = nI (tE n b p) ∧ (tK n b p = 2 → tV n b p ≤ 999 → gi h 117 30 = nI (tV n b p))
abbrev cellsQ : Nat → Nat → Prop := fun a k => a = 117 ∧ 27 ≤ k ∧ k ≤ 30
theorem m_byteAt {Q : Int32 → HP → Prop} {i : Nat} (hn : n ≤ 120) (hi : i ≤ 130) (h1 : gi h 117 26 = nI n) (ht : ∀ i, i < n → gi h 138 i = b i) (hQ : Q (if i < n then b i else -1) h) : f_X8_byteAt (nI i) h Q := by
  unfold f_X8_byteAt
  rw [h1, ix_nI (by omega)]
  by_cases z : i < n
  · have z1 : ¬ nI n ≤ nI i := fun q => by have := (nI_leI (by omega) (by omega)).mp q; omega
    rw [if_pos z] at hQ
    rw [if_neg z1, ht i z]
    exact ⟨fun _ => vp_in_nI (by omega) (by decide), hQ⟩
  · have z1 : nI n ≤ nI i := nI_le (by omega) (by omega)
    rw [if_neg z] at hQ
    rw [if_pos z1]
    exact ⟨fun q => absurd z1 q, hQ⟩
theorem m_wordFrom {Q : Int32 → HP → Prop} {P E w : Nat} (hn : n ≤ 120) (hw : w < 16) (hPE : P ≤ E) (hE : E ≤ n) (hd : ∀ i, P ≤ i → i < E → kcF (b i) = 1) (h1 : gi h 117 26 = nI n) (ht : ∀ i, i < n → gi h 138 i = b i) (h7 : gi h 117 27 = nI E) (h8 : gi h 117 28 = nI P) (hD : WD h) (hY : wmP b P E w → Q 1 h) (hN : ¬ wmP b P E w → Q 0 h) : f_X8_isWordFrom (nI w) h Q := by
  unfold f_X8_isWordFrom
  intro x2 e2
  have wb := wd_b hw
  rw [h7, h8, nI_sub hPE] at e2
  have stop : ∀ f i, Q 0 h → f_X8_isWordFrom_L22 (nI w) Q (f + 1) 0 (nI i) h := by
    intro f i q
    unfold f_X8_isWordFrom_L22
    exact ⟨fun _ => q, fun _ => ⟨fun _ => q, fun z => absurd rfl z⟩⟩
  by_cases z : 8 < E - P
  · have zz : (8 : Int32) < nI (E - P) := (nI_ltI (a := 8) (by omega) (by omega)).mpr z
    rw [if_pos zz] at e2
    rw [e2]
    exact ⟨1, stop 0 0 (hN (fun q => by have := q.1; omega))⟩
  · have zz : ¬ (8 : Int32) < nI (E - P) := fun q => z ((nI_ltI (a := 8) (by omega) (by omega)).mp q)
    rw [if_neg zz] at e2
    rw [e2]
    have key := loop_up (L := fun f i => (∀ j, j < i → wd8 (8 * w + j) = if P + j < E then b (P + j) else 32) → f_X8_isWordFrom_L22 (nI w) Q (f + 1) 1 (nI i) h) 8 0 (by omega) (fun f hj => ?_) (fun i f _ hi ih hj => ?_)
    · obtain ⟨f, hf⟩ := key
      exact ⟨f + 1, hf (fun j hj => by omega)⟩
    · unfold f_X8_isWordFrom_L22
      refine br_le (a := 8) (by omega) (by omega) (fun _ => hY ?_) (fun q => by omega)
      have g8 : ∀ j, j < 8 → (8 * w + j) % 8 = j ∧ (8 * w + j) / 8 = w := fun j hj => by omega
      have up : ∀ i, i < wdN w → P + i < E ∧ b (P + i) = wdC w i := by
        intro i hi
        have q := hj i (by omega)
        unfold wd8 at q
        rw [(g8 i (by omega)).1, (g8 i (by omega)).2, if_pos hi] at q
        by_cases q2 : P + i < E
        · rw [if_pos q2] at q; exact ⟨q2, q.symm⟩
        · rw [if_neg q2] at q; exact absurd q (wb.2.2 i hi)
      have lo : E - P ≤ wdN w := by
        have q := hj (wdN w) (by omega)
        unfold wd8 at q
        rw [(g8 _ (by omega)).1, (g8 _ (by omega)).2, if_neg (by omega)] at q
        by_cases q2 : P + wdN w < E
        · rw [if_pos q2] at q
          have := kc_1.mp (hd _ (by omega) q2)
          rw [← q, show (32 : Int32).toInt = 32 by rfl] at this
          omega
        · omega
      have hi := (up (wdN w - 1) (by omega)).1
      exact ⟨by omega, fun i hi => (up i hi).2⟩
    · unfold f_X8_isWordFrom_L22
      refine br_le (a := 8) (by omega) (by omega) (fun q => by omega) (fun _ => ⟨fun q => absurd q (by decide), fun _ => ?_⟩)
      rw [lit 8, nI_mul, nI_add, h7, h8, nI_add, ix_nI (by omega), hD _ (by omega)]
      refine ⟨vp_in_nI (by omega) (by decide), ?_⟩
      have go : ∀ x, x = (if P + i < E then b (P + i) else 32) → f_X8_isWordFrom_J71 (nI w) (nI i) x (wd8 (8 * w + i)) (f_X8_isWordFrom_L22 (nI w) Q (f + 1)) Q h := by
        intro x ex
        unfold f_X8_isWordFrom_J71
        intro y ey u eu
        rw [eu, nI_1]
        by_cases q : wd8 (8 * w + i) = x
        · rw [if_pos q] at ey
          rw [ey]
          refine ih (fun j hj' => ?_)
          by_cases q2 : j = i
          · rw [q2, q, ex]
          · exact hj j (by omega)
        · rw [if_neg q] at ey
          rw [ey]
          refine stop f (i + 1) (hN (fun m => q ?_))
          rw [ex]
          unfold wd8
          rw [show (8 * w + i) % 8 = i by omega, show (8 * w + i) / 8 = w by omega]
          by_cases q3 : i < wdN w
          · rw [if_pos q3, if_pos (by have := m.1; omega)]; exact (m.2 i q3).symm
          · rw [if_neg q3, if_neg (by have := m.1; omega)]
      refine br_le (by omega) (by omega) (fun q => go 32 (by rw [if_neg (by omega)])) (fun q => ?_)
      refine m_byteAt (b := b) hn (by omega) h1 ht ?_
      rw [if_pos (by omega)]
      exact go _ (by rw [if_pos q])
end Tok
