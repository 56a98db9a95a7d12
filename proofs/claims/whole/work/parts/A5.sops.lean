/-! steady, rate, gain, reach -/
theorem lB_toInt {n : Nat} (h : n < 2 ^ 63) : (lN n).toInt = (n : Int) := lg_ofNat_toInt h
theorem lB_le {a b : Nat} (ha : a < 2 ^ 63) (hb : b < 2 ^ 63) : lN a ≤ lN b ↔ a ≤ b := by rw [i64_le, lB_toInt ha, lB_toInt hb]; omega
theorem lB_lt {a b : Nat} (ha : a < 2 ^ 63) (hb : b < 2 ^ 63) : lN a < lN b ↔ a < b := by rw [i64_lt, lB_toInt ha, lB_toInt hb]; omega
theorem lB_half {n : Nat} (h : n < 2 ^ 62) : lN n / 2 = lN (n / 2) := by
  apply Int64.toInt_inj.mp
  rw [lg_ldiv_nonneg (by rw [lB_toInt (by omega)]; omega) (by decide), lB_toInt (by omega), lB_toInt (by omega)]
  have : (2 : Int64).toInt = 2 := rfl
  rw [this]
  omega
theorem cmp_ge0 (x y : Int64) : 0 ≤ lg_cmp x y ↔ y ≤ x := by
  have := cmp_lt x y
  rw [i64_le]
  rw [i64_lt] at this
  have h2 : (0 : Int32) ≤ lg_cmp x y ↔ ¬ lg_cmp x y < 0 := by rw [i32_le, i32_lt]; omega
  rw [h2, this]
  omega
theorem cmp_le0 (x y : Int64) : lg_cmp x y ≤ 0 ↔ x ≤ y := by
  have := cmp_gt x y
  rw [i64_le]
  rw [i64_lt] at this
  have h2 : lg_cmp x y ≤ (0 : Int32) ↔ ¬ 0 < lg_cmp x y := by rw [i32_le, i32_lt]; omega
  rw [h2, this]
  omega
def bhT (G : Nat → Nat) (n d : Nat) : Nat := if d ≤ n then G d * (n + 1 - d) else 0
def bhd (G : Nat → Nat) (n : Nat) : Nat := sm (bhT G n) 121
theorem bh_le {G : Nat → Nat} {n : Nat} : ∀ k, sm (bhT G n) k ≤ sm G k * (n + 1)
  | 0 => by show 0 ≤ _; omega
  | k + 1 => by
    rw [sm, sm, Nat.add_mul]
    have := bh_le (G := G) (n := n) k
    have h2 : bhT G n k ≤ G k * (n + 1) := by
      unfold bhT
      split
      · exact Nat.mul_le_mul_left _ (by omega)
      · omega
    omega
theorem bh_end {G : Nat → Nat} {n d : Nat} (hd : n < d) (h1 : d ≤ 121) : sm (bhT G n) d = bhd G n := by
  unfold bhd
  rw [sm_zero (m := d) (n := 121) (fun i h1 h2 => by unfold bhT; rw [if_neg (by omega)]) h1]
theorem bh_big {G : Nat → Nat} {n y : Nat} (hn : y + 120 ≤ n) (h1 : 1 ≤ sm G 121) : y ≤ bhd G n := by
  have key : ∀ k, k ≤ 121 → sm G k * y ≤ sm (bhT G n) k := by
    intro k
    induction k with
    | zero => intro _; show 0 * y ≤ 0; omega
    | succ k ih =>
      intro hk
      rw [sm, sm, Nat.add_mul]
      have := ih (by omega)
      have h2 : G k * y ≤ bhT G n k := by
        unfold bhT
        rw [if_pos (by omega)]
        exact Nat.mul_le_mul_left _ (by omega)
      omega
  have h3 := key 121 (Nat.le_refl _)
  have h4 : 1 * y ≤ sm G 121 * y := Nat.mul_le_mul_right _ h1
  unfold bhd
  omega
theorem bh_mono {G : Nat → Nat} {n n' : Nat} (h : n ≤ n') : bhd G n ≤ bhd G n' := by
  unfold bhd
  refine smle1 121 (fun d _ => ?_)
  unfold bhT
  split
  · rename_i q
    rw [if_pos (by omega)]
    exact Nat.mul_le_mul_left _ (by omega)
  · omega
section Ops
variable {c : Nat} {σ : ST} {h : HP} {G : Nat → Nat}
theorem bh_63 {n k : Nat} (hn : n < 2 ^ 33) (hG : sm G 121 ≤ 3000) (hk : k ≤ 121) : sm (bhT G n) k < 2 ^ 46 := by
  have h1 := bh_le (G := G) (n := n) k
  have h2 := sm_mono (f := G) hk
  have h3 : sm G k * (n + 1) ≤ 3000 * 2 ^ 33 := Nat.mul_le_mul (by omega) (by omega)
  omega
theorem c_sbehind {n : Nat} {Q : Int64 → HP → Prop} (hn : n < 2 ^ 33) (hG : sm G 121 ≤ 3000) (hg : ∀ d, d < 121 → gi h 100 d = nI (G d)) (hQ : Q (lN (bhd G n)) h) : f_X4_behind (lN n) h Q := by
  unfold f_X4_behind
  intro x0 e0
  subst e0
  refine loop_up (L := fun f d => f_X4_behind_L5 (lN n) Q f (lN (sm (bhT G n) d)) (nI d) h) 121 0 (by omega) (fun f => ?_) (fun d f _ hd ih => ?_)
  · unfold f_X4_behind_L5
    exact br_le (a := 121) (by omega) (by omega) (fun _ => hQ) (fun z => by omega)
  · unfold f_X4_behind_L5
    refine br_le (a := 121) (by omega) (by omega) (fun z => by omega) (fun _ => ?_)
    rw [nI_l (by omega), cmp_gt, lB_lt (by omega) (by omega), ix_nI (by omega), hg d hd]
    refine ⟨fun z => ?_, fun z => ⟨vp_in_nI (by omega) (by decide), ?_⟩⟩
    · rw [bh_end z (by omega)]; exact hQ
    · intro x3 e3 x5 e5
      have gd := sm_le (f := G) hd
      have t : bhT G n d = G d * (n + 1 - d) := by unfold bhT; rw [if_pos (by omega)]
      have e3' : x3 = lN (sm (bhT G n) (d + 1)) := by
        rw [e3, nI_l (by omega), lN_1, lN_sub (by omega), lN_mul, lN_add, sm, t]
      rw [e3', e5, nI_1]
      exact ih
theorem m_sbehind {n : Nat} {Q : Int64 → HP → Prop} (hn : n < 2 ^ 33) (hG : sm G 121 ≤ 3000) (hg : ∀ d, d < 121 → gi h 137 d = nI (G d)) (hQ : Q (lN (bhd G n)) h) : f_X8_steadyBehind (lN n) h Q := by
  unfold f_X8_steadyBehind
  intro x0 e0
  subst e0
  refine loop_up (L := fun f d => f_X8_steadyBehind_L5 (lN n) Q f (lN (sm (bhT G n) d)) (nI d) h) 121 0 (by omega) (fun f => ?_) (fun d f _ hd ih => ?_)
  · unfold f_X8_steadyBehind_L5
    exact br_le (a := 121) (by omega) (by omega) (fun _ => hQ) (fun z => by omega)
  · unfold f_X8_steadyBehind_L5
    refine br_le (a := 121) (by omega) (by omega) (fun z => by omega) (fun _ => ?_)
    rw [nI_l (by omega), cmp_gt, lB_lt (by omega) (by omega), ix_nI (by omega), hg d hd]
    refine ⟨fun z => ?_, fun z => ⟨vp_in_nI (by omega) (by decide), ?_⟩⟩
    · rw [bh_end z (by omega)]; exact hQ
    · intro x3 e3 x5 e5
      have gd := sm_le (f := G) hd
      have t : bhT G n d = G d * (n + 1 - d) := by unfold bhT; rw [if_pos (by omega)]
      have e3' : x3 = lN (sm (bhT G n) (d + 1)) := by
        rw [e3, nI_l (by omega), lN_1, lN_sub (by omega), lN_mul, lN_add, sm, t]
      rw [e3', e5, nI_1]
      exact ih
/-- the least n behind which so much has come -/
def Lst (G : Nat → Nat) (y n : Nat) : Prop := y ≤ bhd G n ∧ ∀ k, k < n → bhd G k < y
noncomputable def rchV (G : Nat → Nat) (y : Nat) : Nat := by
  classical exact if q : ∃ n, Lst G y n then Classical.choose q else 0
theorem rch_eq {y n : Nat} (hn : Lst G y n) : rchV G y = n := by
  unfold rchV
  rw [dif_pos ⟨n, hn⟩]
  have h2 := Classical.choose_spec (⟨n, hn⟩ : ∃ n, Lst G y n)
  generalize Classical.choose (⟨n, hn⟩ : ∃ n, Lst G y n) = k at *
  apply Nat.le_antisymm
  · apply Nat.le_of_not_lt
    intro q
    have := h2.2 n q
    have := hn.1
    omega
  · apply Nat.le_of_not_lt
    intro q
    have := hn.2 k q
    have := h2.1
    omega
theorem c_search {y : Nat} {Q : Int64 → HP → Prop} (hy : y < 2 ^ 31) (hG : sm G 121 ≤ 3000) (hg : ∀ d, d < 121 → gi h 100 d = nI (G d)) (hQ : ∀ n, Lst G y n → n < 2 ^ 33 → Q (lN n) h) : ∀ r k lo hi, k + r = 64 → lo ≤ hi → hi < 2 ^ 32 → hi - lo < 2 ^ r → y ≤ bhd G hi → (∀ j, j < lo → bhd G j < y) → f_X4_ticksUntil_L21 (nI y) Q (r + 1) (lN lo) (lN hi) (nI k) h := by
  intro r
  induction r with
  | zero =>
    intro k lo hi h1 h2 h3 h4 h5 h6
    unfold f_X4_ticksUntil_L21
    refine br_le (a := 64) (by omega) (by omega) (fun _ => ?_) (fun z => by omega)
    have : lo = hi := by omega
    exact hQ hi ⟨h5, by rw [← this]; exact h6⟩ (by omega)
  | succ r ih =>
    intro k lo hi h1 h2 h3 h4 h5 h6
    unfold f_X4_ticksUntil_L21
    refine br_le (a := 64) (by omega) (by omega) (fun z => by omega) (fun _ => ?_)
    rw [cmp_ge0, lB_le (by omega) (by omega)]
    refine ⟨fun z => ?_, fun z => ?_⟩
    · have : lo = hi := by omega
      exact hQ hi ⟨h5, by rw [← this]; exact h6⟩ (by omega)
    · intro x7 e7
      rw [lN_add, lB_half (by omega)] at e7
      subst e7
      have hp : 2 ^ (r + 1) = 2 * 2 ^ r := by rw [Nat.pow_succ]; omega
      refine c_sbehind (n := (lo + hi) / 2) (by omega) hG hg ?_
      have b63 := bh_63 (G := G) (n := (lo + hi) / 2) (k := 121) (by omega) hG (Nat.le_refl _)
      have b63' : bhd G ((lo + hi) / 2) < 2 ^ 46 := b63
      rw [cmp_lt, nI_l hy, lB_lt (by omega) (by omega)]
      refine ⟨fun q => ?_, fun q => ?_⟩
      · intro y1 e1 y2 e2
        rw [lN_1] at e1
        rw [e1, e2, nI_1]
        refine ih (k + 1) _ _ (by omega) (by omega) h3 (by omega) h5 (fun j hj => ?_)
        have := bh_mono (G := G) (n := j) (n' := (lo + hi) / 2) (by omega)
        omega
      · intro y2 e2
        rw [e2, nI_1]
        exact ih (k + 1) _ _ (by omega) (by omega) (by omega) (by omega) (by omega) h6
theorem m_search {y : Nat} {k106 : Int64 → HP → Prop} {Q : Int32 → HP → Prop} (hy : y < 2 ^ 31) (hG : sm G 121 ≤ 3000) (hg : ∀ d, d < 121 → gi h 137 d = nI (G d)) (hQ : ∀ n, Lst G y n → n < 2 ^ 33 → k106 (lN n) h) : ∀ r lo hi, lo ≤ hi → hi < 2 ^ 32 → hi - lo < 2 ^ r → y ≤ bhd G hi → (∀ j, j < lo → bhd G j < y) → f_X8_reach_L59 (nI y) k106 Q (r + 1) (lN lo) (lN hi) h := by
  intro r
  induction r with
  | zero =>
    intro lo hi h2 h3 h4 h5 h6
    unfold f_X8_reach_L59
    rw [cmp_ge0, lB_le (by omega) (by omega)]
    have : lo = hi := by omega
    refine ⟨fun z => ?_, fun z => by omega⟩
    rw [this]
    exact hQ hi ⟨h5, by rw [← this]; exact h6⟩ (by omega)
  | succ r ih =>
    intro lo hi h2 h3 h4 h5 h6
    unfold f_X8_reach_L59
    rw [cmp_ge0, lB_le (by omega) (by omega)]
    refine ⟨fun z => ?_, fun z => ?_⟩
    · have : lo = hi := by omega
      rw [this]
      exact hQ hi ⟨h5, by rw [← this]; exact h6⟩ (by omega)
    · intro x7 e7
      rw [lN_add, lB_half (by omega)] at e7
      subst e7
      have hp : 2 ^ (r + 1) = 2 * 2 ^ r := by rw [Nat.pow_succ]; omega
      refine m_sbehind (n := (lo + hi) / 2) (by omega) hG hg ?_
      have b63 := bh_63 (G := G) (n := (lo + hi) / 2) (k := 121) (by omega) hG (Nat.le_refl _)
      have b63' : bhd G ((lo + hi) / 2) < 2 ^ 46 := b63
      rw [cmp_lt, nI_l hy, lB_lt (by omega) (by omega)]
      refine ⟨fun q => ?_, fun q => ?_⟩
      · intro y1 e1
        rw [lN_1] at e1
        rw [e1]
        refine ih _ _ (by omega) h3 (by omega) h5 (fun j hj => ?_)
        have := bh_mono (G := G) (n := j) (n' := (lo + hi) / 2) (by omega)
        omega
      · exact ih _ _ (by omega) (by omega) (by omega) (by omega) h6
abbrev isTw (σ : ST) (x1 x2 : Int32) : Prop := isS σ x1 ∧ isS σ x2 ∧ x1 ≠ x2
noncomputable def sg (σ : ST) (x1 x2 : Int32) : Nat → Nat := sgnV (sV σ) (nt x1) (nt x2)
/-- an answer that may be too large -/
noncomputable def bigA (σ : ST) (n : Nat) : Int32 × ST := if n ≤ 2147483647 then (nI n, σ) else (fnd 7, uF σ 7)
theorem bigA_s (σ : ST) (n : Nat) : (bigA σ n).2 = σ ∨ ∃ k, (bigA σ n).2 = uF σ k := by
  unfold bigA
  split
  · exact Or.inl rfl
  · exact Or.inr ⟨7, rfl⟩
noncomputable def o_steady (σ : ST) (x1 x2 x3 : Int32) : Int32 × ST := by
  classical exact if isTw σ x1 x2 ∧ 0 ≤ x3.toInt then bigA σ (bhd (sg σ x1 x2) (nt x3)) else (fnd 0, uF σ 0)
noncomputable def o_rate (σ : ST) (x1 x2 : Int32) : Int32 × ST := by
  classical exact if isTw σ x1 x2 then (nI (sm (sg σ x1 x2) 121), σ) else (fnd 0, uF σ 0)
noncomputable def o_gain (σ : ST) (x1 x2 x3 : Int32) : Int32 × ST := by
  classical exact if isTw σ x1 x2 ∧ InR x3 0 120 then (nI (sg σ x1 x2 (nt x3)), σ) else (fnd 0, uF σ 0)
noncomputable def o_reach (σ : ST) (x1 x2 x3 : Int32) : Int32 × ST := by
  classical exact if isTw σ x1 x2 ∧ 0 ≤ x3.toInt then (if nt x3 ≠ 0 ∧ sm (sg σ x1 x2) 121 = 0 then (fnd 3, uF σ 3) else bigA σ (rchV (sg σ x1 x2) (nt x3))) else (fnd 0, uF σ 0)
theorem WS_steady {x1 x2 x3 : Int32} (hW : WS c σ) (hc : c < 512) : WS (c + 1) (o_steady σ x1 x2 x3).2 := by
  refine WS_q hW hc ?_
  unfold o_steady
  split
  · exact bigA_s _ _
  · exact Or.inr ⟨0, rfl⟩
theorem WS_rate {x1 x2 : Int32} (hW : WS c σ) (hc : c < 512) : WS (c + 1) (o_rate σ x1 x2).2 := by
  refine WS_q hW hc ?_
  unfold o_rate
  split
  · exact Or.inl rfl
  · exact Or.inr ⟨0, rfl⟩
theorem WS_gain {x1 x2 x3 : Int32} (hW : WS c σ) (hc : c < 512) : WS (c + 1) (o_gain σ x1 x2 x3).2 := by
  refine WS_q hW hc ?_
  unfold o_gain
  split
  · exact Or.inl rfl
  · exact Or.inr ⟨0, rfl⟩
theorem WS_reach {x1 x2 x3 : Int32} (hW : WS c σ) (hc : c < 512) : WS (c + 1) (o_reach σ x1 x2 x3).2 := by
  refine WS_q hW hc ?_
  unfold o_reach
  split
  · split
    · exact Or.inr ⟨3, rfl⟩
    · exact bigA_s _ _
  · exact Or.inr ⟨0, rfl⟩
theorem c_solve' {x1 x2 : Int32} {Q : HP → Prop} (hW : WS c σ) (hI : CI σ h) (p : isTw σ x1 x2)
    (hQ : ∀ h', CI σ h' → LoF h h' → (∀ d, d < 121 → gi h' 100 d = nI (sg σ x1 x2 d)) → gi h' 99 2 = nI (sm (sg σ x1 x2) 121) → sm (sg σ x1 x2) 121 ≤ 3000 → Q h') : f_X4_solve 1 x1 x2 h Q := by
  have hF := hW.2.1.1
  have h6 := hF.1.2.1
  have hT := hW.2.1.2
  obtain ⟨e1, l1⟩ := isS_lt p.1
  obtain ⟨e2, l2⟩ := isS_lt p.2.1
  have ne : nt x2 ≠ nt x1 := fun q => p.2.2 (by rw [e1, e2, q])
  unfold sg at hQ
  generalize nt x1 = a at *
  generalize nt x2 = b at *
  rw [e1, e2]
  exact c_solve hF hI.1 (by omega) (by omega) (by omega) ne (fun h' C g t f => hQ h' (hI.junk hW f) f.lo g t (sgnV_le hF (by omega) ne))
theorem m_solve' {x1 x2 : Int32} {Q : HP → Prop} (hW : WS c σ) (hI : MI σ h) (p : isTw σ x1 x2)
    (hQ : ∀ h', MI σ h' → HiF h h' → (∀ d, d < 121 → gi h' 137 d = nI (sg σ x1 x2 d)) → sm (sg σ x1 x2) 121 ≤ 3000 → Q h') : f_X8_findsGains x1 x2 h Q := by
  have hF := hW.2.1.1
  have h6 := hF.1.2.1
  obtain ⟨e1, l1⟩ := isS_lt p.1
  obtain ⟨e2, l2⟩ := isS_lt p.2.1
  have ne : nt x2 ≠ nt x1 := fun q => p.2.2 (by rw [e1, e2, q])
  unfold sg at hQ
  generalize nt x1 = a at *
  generalize nt x2 = b at *
  rw [e1, e2]
  refine m_findsGains hF hI.1 l1 l2 ne (fun h' M g f => ?_)
  have fj : FrI junkM h h' := f.jm (by intro a k; simp only [clsY, junkM]; omega)
  exact hQ h' (hI.junk fj) (jm_hi fj) g (sgnV_le hF (by omega) ne)
theorem ge0_i {x : Int32} : (0 : Int32) ≤ x ↔ 0 ≤ x.toInt := by rw [i32_le]; rfl
theorem c_bigA {n : Nat} {Q : Int32 → HP → Prop} (hW : WS c σ) (hI : CI σ h) (hn : n < 2 ^ 63) (hQ : ∀ h', CI (bigA σ n).2 h' → LoF h h' → Q (bigA σ n).1 h') : (lg_cmp (lN n) (2147483647 : Int64) ≤ 0 → Q ((lN n : Int64).toInt32) h) ∧ (¬ lg_cmp (lN n) (2147483647 : Int64) ≤ 0 → f_X7_found (-1000000008 : Int32) h (fun v h' => Q v h')) := by
  have e : lg_cmp (lN n) (2147483647 : Int64) ≤ 0 ↔ n ≤ 2147483647 := by
    rw [cmp_le0]
    exact lB_le (b := 2147483647) hn (by omega)
  rw [e]
  unfold bigA at hQ
  refine ⟨fun z => ?_, fun z => ?_⟩
  · rw [if_pos z] at hQ
    rw [lN_i]
    exact hQ h hI LoF.rf
  · rw [if_neg z] at hQ
    exact c_found (by omega) hI hQ fnd7 hW.small
theorem m_bigA {n : Nat} {Q : Int32 → HP → Prop} (hI : MI σ h) (hn : n < 2 ^ 63) (hQ : ∀ h', MI (bigA σ n).2 h' → HiF h h' → Q (bigA σ n).1 h') : (lg_cmp (lN n) (2147483647 : Int64) ≤ 0 → Q ((lN n : Int64).toInt32) h) ∧ (¬ lg_cmp (lN n) (2147483647 : Int64) ≤ 0 → f_X8_finds (-1000000008 : Int32) h (fun v h' => Q v h')) := by
  have e : lg_cmp (lN n) (2147483647 : Int64) ≤ 0 ↔ n ≤ 2147483647 := by
    rw [cmp_le0]
    exact lB_le (b := 2147483647) hn (by omega)
  rw [e]
  unfold bigA at hQ
  refine ⟨fun z => ?_, fun z => ?_⟩
  · rw [if_pos z] at hQ
    rw [lN_i]
    exact hQ h hI HiF.rf
  · rw [if_neg z] at hQ
    exact m_finds (by omega) hI hQ fnd7
variable {Q : Int32 → HP → Prop}
theorem c_steady {x1 x2 x3 : Int32} (hW : WS c σ) (hI : CI σ h) (hQ : ∀ h', CI (o_steady σ x1 x2 x3).2 h' → LoF h h' → Q (o_steady σ x1 x2 x3).1 h') : f_X7_steady x1 x2 x3 h Q := by
  unfold f_X7_steady
  unfold o_steady at hQ
  refine c_areTwo hI.1 hW.small.1 (fun p => br1 ?_) (fun p => br0 ?_)
  · rw [ge0_i]
    refine ⟨fun z => ?_, fun z => ?_⟩
    · rw [if_pos ⟨p, z⟩] at hQ
      refine c_solve' hW hI p (fun h1 I1 f1 g1 _ b1 => ?_)
      have e3 := nt_nI z
      have l3 : nt x3 < 2 ^ 31 := by have := nt_lt x3; unfold nt; omega
      generalize nt x3 = n at *
      rw [e3, nI_l l3]
      have b63 := bh_63 (G := sg σ x1 x2) (n := n) (k := 121) (by omega) b1 (Nat.le_refl _)
      have b63' : bhd (sg σ x1 x2) n < 2 ^ 46 := b63
      exact c_sbehind (by omega) b1 g1 (c_bigA hW I1 (by omega) (fun h2 I2 f2 => hQ h2 I2 (f1.trans f2)))
    · rw [if_neg (fun q => z q.2)] at hQ
      exact c_found (by omega) hI hQ fnd0 hW.small
  · rw [if_neg (fun q => p q.1)] at hQ
    exact c_found (by omega) hI hQ fnd0 hW.small
theorem m_steady {x1 x2 x3 : Int32} (hW : WS c σ) (hI : MI σ h) (hQ : ∀ h', MI (o_steady σ x1 x2 x3).2 h' → HiF h h' → Q (o_steady σ x1 x2 x3).1 h') : f_X8_steady x1 x2 x3 h Q := by
  unfold f_X8_steady
  unfold o_steady at hQ
  refine m_areTwo hI.1 hW.small.1 (fun p => br1 ?_) (fun p => br0 ?_)
  · rw [ge0_i]
    refine ⟨fun z => ?_, fun z => ?_⟩
    · rw [if_pos ⟨p, z⟩] at hQ
      refine m_solve' hW hI p (fun h1 I1 f1 g1 b1 => ?_)
      have e3 := nt_nI z
      have l3 : nt x3 < 2 ^ 31 := by have := nt_lt x3; unfold nt; omega
      generalize nt x3 = n at *
      rw [e3, nI_l l3]
      have b63 := bh_63 (G := sg σ x1 x2) (n := n) (k := 121) (by omega) b1 (Nat.le_refl _)
      have b63' : bhd (sg σ x1 x2) n < 2 ^ 46 := b63
      exact m_sbehind (by omega) b1 g1 (m_bigA I1 (by omega) (fun h2 I2 f2 => hQ h2 I2 (f1.trans f2)))
    · rw [if_neg (fun q => z q.2)] at hQ
      exact m_finds (by omega) hI hQ fnd0
  · rw [if_neg (fun q => p q.1)] at hQ
    exact m_finds (by omega) hI hQ fnd0
theorem c_rate {x1 x2 : Int32} (hW : WS c σ) (hI : CI σ h) (hQ : ∀ h', CI (o_rate σ x1 x2).2 h' → LoF h h' → Q (o_rate σ x1 x2).1 h') : f_X7_rate x1 x2 h Q := by
  unfold f_X7_rate
  unfold o_rate at hQ
  refine c_areTwo hI.1 hW.small.1 (fun p => br1 ?_) (fun p => br0 ?_)
  · rw [if_pos p] at hQ
    refine c_solve' hW hI p (fun h1 I1 f1 g1 t1 b1 => ?_)
    rw [t1]
    exact hQ h1 I1 f1
  · rw [if_neg p] at hQ
    exact c_found (by omega) hI hQ fnd0 hW.small
theorem m_rate {x1 x2 : Int32} (hW : WS c σ) (hI : MI σ h) (hQ : ∀ h', MI (o_rate σ x1 x2).2 h' → HiF h h' → Q (o_rate σ x1 x2).1 h') : f_X8_rate x1 x2 h Q := by
  unfold f_X8_rate
  unfold o_rate at hQ
  refine m_areTwo hI.1 hW.small.1 (fun p => br1 ?_) (fun p => br0 ?_)
  · rw [if_pos p] at hQ
    refine m_solve' hW hI p (fun h1 I1 f1 g1 b1 => ?_)
    exact m_sumOf (n := 121) (by decide +kernel) (by decide +kernel) g1 (hQ h1 I1 f1)
  · rw [if_neg p] at hQ
    exact m_finds (by omega) hI hQ fnd0
theorem c_gain {x1 x2 x3 : Int32} (hW : WS c σ) (hI : CI σ h) (hQ : ∀ h', CI (o_gain σ x1 x2 x3).2 h' → LoF h h' → Q (o_gain σ x1 x2 x3).1 h') : f_X7_gain x1 x2 x3 h Q := by
  unfold f_X7_gain
  unfold o_gain at hQ
  refine c_areTwo hI.1 hW.small.1 (fun p => br1 ?_) (fun p => br0 ?_)
  · refine c_in (a := 0) (b := 120) rfl rfl (fun p2 => br1 ?_) (fun p2 => br0 ?_)
    · rw [if_pos ⟨p, p2⟩] at hQ
      refine c_solve' hW hI p (fun h1 I1 f1 g1 t1 b1 => ?_)
      have e3 := nt_nI p2.1
      have l3 : nt x3 < 121 := by have := p2.2; unfold nt; omega
      generalize nt x3 = n at *
      rw [e3, ix_nI (by omega), g1 n l3]
      exact ⟨vp_in_nI l3 (by decide), hQ h1 I1 f1⟩
    · rw [if_neg (fun q => p2 q.2)] at hQ
      exact c_found (by omega) hI hQ fnd0 hW.small
  · rw [if_neg (fun q => p q.1)] at hQ
    exact c_found (by omega) hI hQ fnd0 hW.small
theorem m_gain {x1 x2 x3 : Int32} (hW : WS c σ) (hI : MI σ h) (hQ : ∀ h', MI (o_gain σ x1 x2 x3).2 h' → HiF h h' → Q (o_gain σ x1 x2 x3).1 h') : f_X8_gain x1 x2 x3 h Q := by
  unfold f_X8_gain
  unfold o_gain at hQ
  refine m_areTwo hI.1 hW.small.1 (fun p => br1 ?_) (fun p => br0 ?_)
  · refine m_in (a := 0) (b := 120) rfl rfl (fun p2 => br1 ?_) (fun p2 => br0 ?_)
    · rw [if_pos ⟨p, p2⟩] at hQ
      refine m_solve' hW hI p (fun h1 I1 f1 g1 b1 => ?_)
      have e3 := nt_nI p2.1
      have l3 : nt x3 < 121 := by have := p2.2; unfold nt; omega
      generalize nt x3 = n at *
      rw [e3, ix_nI (by omega), g1 n l3]
      exact ⟨vp_in_nI l3 (by decide), hQ h1 I1 f1⟩
    · rw [if_neg (fun q => p2 q.2)] at hQ
      exact m_finds (by omega) hI hQ fnd0
  · rw [if_neg (fun q => p q.1)] at hQ
    exact m_finds (by omega) hI hQ fnd0
theorem c_reachJ {n : Nat} (hW : WS c σ) (hI : CI σ h) (hn : n < 2 ^ 31) (hG : sm G 121 ≤ 3000) (hg : ∀ d, d < 121 → gi h 100 d = nI (G d)) (h1 : n = 0 ∨ 1 ≤ sm G 121) (hQ : ∀ h', CI (bigA σ (rchV G n)).2 h' → LoF h h' → Q (bigA σ (rchV G n)).1 h') : f_X7_reach_J57 (nI n) Q h := by
  unfold f_X7_reach_J57 f_X4_ticksUntil
  intro x2 e2 x4 e4
  have e4' : x4 = lN (if n = 0 then 0 else n + 120) := by
    rw [e4, ite_l hn, nI_l hn]
    by_cases z : n = 0
    · rw [if_pos z, if_pos z]; rfl
    · rw [if_neg z, if_neg z, show (120 : Int64) = lN 120 from rfl, lN_add]
  rw [e2, e4']
  refine ⟨65, c_search hn hG hg (fun k hk h33 => ?_) 64 0 0 _ (by omega) (Nat.zero_le _) (by split <;> omega) ?_ ?_ (fun j hj => by omega)⟩
  · rw [← rch_eq hk] at *
    exact c_bigA hW hI (by omega) hQ
  · have : (2 : Nat) ^ 64 = 18446744073709551616 := by decide
    rw [this]
    split <;> omega
  · by_cases z : n = 0
    · rw [z]; exact Nat.zero_le _
    · rw [if_neg z]
      exact bh_big (Nat.le_refl _) (h1.resolve_left z)
theorem m_reachJ {n : Nat} (hI : MI σ h) (hn : n < 2 ^ 31) (hG : sm G 121 ≤ 3000) (hg : ∀ d, d < 121 → gi h 137 d = nI (G d)) (h1 : n = 0 ∨ 1 ≤ sm G 121) (hQ : ∀ h', MI (bigA σ (rchV G n)).2 h' → HiF h h' → Q (bigA σ (rchV G n)).1 h') : f_X8_reach_J51 (nI n) Q h := by
  unfold f_X8_reach_J51
  intro x2 e2 x4 e4
  rw [e2, e4]
  refine ⟨33, m_search hn hG hg (fun k hk h33 => ?_) 32 0 3000000000 (Nat.zero_le _) (by omega) (by decide) ?_ (fun j hj => by omega)⟩
  · rw [← rch_eq hk] at *
    exact m_bigA hI (by omega) hQ
  · by_cases z : n = 0
    · rw [z]; exact Nat.zero_le _
    · exact bh_big (by omega) (h1.resolve_left z)
theorem c_reach {x1 x2 x3 : Int32} (hW : WS c σ) (hI : CI σ h) (hQ : ∀ h', CI (o_reach σ x1 x2 x3).2 h' → LoF h h' → Q (o_reach σ x1 x2 x3).1 h') : f_X7_reach x1 x2 x3 h Q := by
  unfold f_X7_reach
  unfold o_reach at hQ
  refine c_areTwo hI.1 hW.small.1 (fun p => br1 ?_) (fun p => br0 ?_)
  · rw [ge0_i]
    refine ⟨fun z => ?_, fun z => ?_⟩
    · rw [if_pos ⟨p, z⟩] at hQ
      refine c_solve' hW hI p (fun h1 I1 f1 g1 t1 b1 => ?_)
      have e3 := nt_nI z
      have l3 : nt x3 < 2 ^ 31 := by have := nt_lt x3; unfold nt; omega
      generalize nt x3 = n at *
      rw [e3, t1]
      refine br_le (b := 0) l3 (by omega) (fun q => ?_) (fun q => ?_)
      · rw [if_neg (fun k => k.1 (by omega))] at hQ
        exact c_reachJ hW I1 l3 b1 g1 (Or.inl (by omega)) (fun h2 I2 f2 => hQ h2 I2 (f1.trans f2))
      · refine br_eq (b := 0) (by omega) (by omega) (fun k => ?_) (fun k => ?_)
        · rw [if_pos ⟨by omega, k⟩] at hQ
          exact c_found (by omega) I1 (fun h2 I2 f2 => hQ h2 I2 (f1.trans f2)) fnd3 hW.small
        · rw [if_neg (fun w => k w.2)] at hQ
          exact c_reachJ hW I1 l3 b1 g1 (Or.inr (by omega)) (fun h2 I2 f2 => hQ h2 I2 (f1.trans f2))
    · rw [if_neg (fun q => z q.2)] at hQ
      exact c_found (by omega) hI hQ fnd0 hW.small
  · rw [if_neg (fun q => p q.1)] at hQ
    exact c_found (by omega) hI hQ fnd0 hW.small
theorem m_reach {x1 x2 x3 : Int32} (hW : WS c σ) (hI : MI σ h) (hQ : ∀ h', MI (o_reach σ x1 x2 x3).2 h' → HiF h h' → Q (o_reach σ x1 x2 x3).1 h') : f_X8_reach x1 x2 x3 h Q := by
  unfold f_X8_reach
  unfold o_reach at hQ
  refine m_areTwo hI.1 hW.small.1 (fun p => br1 ?_) (fun p => br0 ?_)
  · rw [ge0_i]
    refine ⟨fun z => ?_, fun z => ?_⟩
    · rw [if_pos ⟨p, z⟩] at hQ
      refine m_solve' hW hI p (fun h1 I1 f1 g1 b1 => ?_)
      have e3 := nt_nI z
      have l3 : nt x3 < 2 ^ 31 := by have := nt_lt x3; unfold nt; omega
      generalize nt x3 = n at *
      rw [e3]
      refine br_le (b := 0) l3 (by omega) (fun q => ?_) (fun q => ?_)
      · rw [if_neg (fun k => k.1 (by omega))] at hQ
        exact m_reachJ I1 l3 b1 g1 (Or.inl (by omega)) (fun h2 I2 f2 => hQ h2 I2 (f1.trans f2))
      · refine m_sumOf (n := 121) (by decide +kernel) (by decide +kernel) g1 ?_
        refine br_eq (b := 0) (by omega) (by omega) (fun k => ?_) (fun k => ?_)
        · rw [if_pos ⟨by omega, k⟩] at hQ
          exact m_finds (by omega) I1 (fun h2 I2 f2 => hQ h2 I2 (f1.trans f2)) fnd3
        · rw [if_neg (fun w => k w.2)] at hQ
          exact m_reachJ I1 l3 b1 g1 (Or.inr (by omega)) (fun h2 I2 f2 => hQ h2 I2 (f1.trans f2))
    · rw [if_neg (fun q => z q.2)] at hQ
      exact m_finds (by omega) hI hQ fnd0
  · rw [if_neg (fun q => p q.1)] at hQ
    exact m_finds (by omega) hI hQ fnd0
end Ops
