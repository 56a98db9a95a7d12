/-! tokens -/
def kcF (x : Int32) : Nat := if 97 ≤ x.toInt ∧ x.toInt ≤ 122 then 1 else if 48 ≤ x.toInt ∧ x.toInt ≤ 57 then 2 else if x = 59 then 3 else 4
def skF (b : Nat → Int32) : Nat → Nat → Nat
  | 0, p => p
  | r + 1, p => if b p = 32 then skF b r (p + 1) else p
def rnF (b : Nat → Int32) (k : Nat) : Nat → Nat → Nat
  | 0, p => p
  | r + 1, p => if kcF (b p) = k then rnF b k r (p + 1) else p
def vlF (b : Nat → Int32) : Nat → Nat → Nat → Nat
  | 0, v, _ => v
  | r + 1, v, p => vlF b r (if v ≤ 999 then 10 * v + ((b p).toInt.toNat - 48) else v) (p + 1)
def tP (n : Nat) (b : Nat → Int32) (p : Nat) : Nat := skF b (n - p) p
def tK (n : Nat) (b : Nat → Int32) (p : Nat) : Nat := if tP n b p < n then kcF (b (tP n b p)) else 0
def tE (n : Nat) (b : Nat → Int32) (p : Nat) : Nat := if tK n b p = 1 ∨ tK n b p = 2 then rnF b (tK n b p) (n - (tP n b p + 1)) (tP n b p + 1) else if tK n b p = 0 then tP n b p else tP n b p + 1
def tV (n : Nat) (b : Nat → Int32) (p : Nat) : Nat := vlF b (tE n b p - tP n b p) 0 (tP n b p)
theorem kcF_pos {x : Int32} : 1 ≤ kcF x ∧ kcF x ≤ 4 := by unfold kcF; split <;> (try split) <;> (try split) <;> omega
theorem sk_b {b : Nat → Int32} : ∀ r p, p ≤ skF b r p ∧ skF b r p ≤ p + r
  | 0, p => by unfold skF; omega
  | r + 1, p => by
    unfold skF
    split
    · have := sk_b (b := b) r (p + 1); omega
    · omega
theorem rn_b {b : Nat → Int32} {k : Nat} : ∀ r p, p ≤ rnF b k r p ∧ rnF b k r p ≤ p + r ∧ ∀ i, p ≤ i → i < rnF b k r p → kcF (b i) = k
  | 0, p => by unfold rnF; exact ⟨by omega, by omega, fun i h1 h2 => by omega⟩
  | r + 1, p => by
    unfold rnF
    split
    · rename_i z
      have := rn_b (b := b) (k := k) r (p + 1)
      refine ⟨by omega, by omega, fun i h1 h2 => ?_⟩
      by_cases q : i = p
      · rw [q]; exact z
      · exact this.2.2 i (by omega) h2
    · exact ⟨by omega, by omega, fun i h1 h2 => by omega⟩
section Tok
variable {n p : Nat} {b : Nat → Int32} {h : HP}
theorem tP_b (hp : p ≤ n) : p ≤ tP n b p ∧ tP n b p ≤ n := by
  have := sk_b (b := b) (n - p) p
  unfold tP; omega
theorem tK_0 : tK n b p = 0 ↔ n ≤ tP n b p := by
  unfold tK
  have := kcF_pos (x := b (tP n b p))
  split <;> omega
theorem tE_b (hp : p ≤ n) : tP n b p ≤ tE n b p ∧ tE n b p ≤ n ∧ (tK n b p ≠ 0 → tP n b p < tE n b p) := by
  have a := tP_b (b := b) hp
  have k0 := tK_0 (n := n) (p := p) (b := b)
  unfold tE
  split
  · rename_i z
    have := rn_b (b := b) (k := tK n b p) (n - (tP n b p + 1)) (tP n b p + 1)
    have : ¬ n ≤ tP n b p := fun q => by have := k0.mpr q; omega
    omega
  · split
    · omega
    · rename_i z
      have : ¬ n ≤ tP n b p := fun q => z (k0.mpr q)
      omega
theorem tK_run (hp : p ≤ n) (hk : tK n b p = 1 ∨ tK n b p = 2) : ∀ i, tP n b p ≤ i → i < tE n b p → kcF (b i) = tK n b p := by
  intro i h1 h2
  have lt : tP n b p < n := by
    have k0 := tK_0 (n := n) (p := p) (b := b)
    have : ¬ n ≤ tP n b p := fun q => by have := k0.mpr q; omega
    omega
  have eK : tK n b p = kcF (b (tP n b p)) := by unfold tK; rw [if_pos lt]
  unfold tE at h2
  rw [if_pos hk] at h2
  have r := rn_b (b := b) (k := tK n b p) (n - (tP n b p + 1)) (tP n b p + 1)
  by_cases q : i = tP n b p
  · rw [q, ← eK]
  · exact r.2.2 i (by omega) h2
theorem kc_1 {x : Int32} : kcF x = 1 ↔ 97 ≤ x.toInt ∧ x.toInt ≤ 122 := by
  unfold kcF
  split
  · rename_i z; exact ⟨fun _ => z, fun _ => rfl⟩
  · rename_i z
    refine ⟨fun q => ?_, fun q => absurd q z⟩
    split at q
    · omega
    · split at q <;> omega
theorem kc_2 {x : Int32} : kcF x = 2 ↔ 48 ≤ x.toInt ∧ x.toInt ≤ 57 := by
  unfold kcF
  split
  · rename_i z; exact ⟨fun q => by omega, fun q => by omega⟩
  · split
    · rename_i z; exact ⟨fun _ => z, fun _ => rfl⟩
    · rename_i z
      refine ⟨fun q => ?_, fun q => absurd q z⟩
      split at q <;> omega
theorem kc_3 {x : Int32} : kcF x = 3 ↔ x = 59 := by
  have e : (59 : Int32).toInt = 59 := by rfl
  unfold kcF
  split
  · rename_i z; exact ⟨fun q => by omega, fun q => by rw [q, e] at z; omega⟩
  · split
    · rename_i z; exact ⟨fun q => by omega, fun q => by rw [q, e] at z; omega⟩
    · split
      · rename_i z; exact ⟨fun _ => z, fun _ => rfl⟩
      · rename_i z; exact ⟨fun q => by omega, fun q => absurd q z⟩
theorem c_sortOf {Q : Int32 → HP → Prop} {x : Int32} (hQ : Q (nI (kcF x)) h) : f_X5_sortOf x h Q := by
  unfold f_X5_sortOf f_X5_sortOf_J14 f_X5_sortOf_J28
  simp only [i32_lt]
  rw [show (97 : Int32).toInt = 97 by rfl, show (122 : Int32).toInt = 122 by rfl, show (48 : Int32).toInt = 48 by rfl, show (57 : Int32).toInt = 57 by rfl]
  have tail : ¬ (48 ≤ x.toInt ∧ x.toInt ≤ 57) → ¬ (97 ≤ x.toInt ∧ x.toInt ≤ 122) → Q (if x = 59 then (3 : Int32) else 4) h := by
    intro z1 z2
    unfold kcF at hQ
    rw [if_neg z2, if_neg z1] at hQ
    by_cases z : x = 59
    · rw [if_pos z] at hQ ⊢; exact hQ
    · rw [if_neg z] at hQ ⊢; exact hQ
  have mid : ¬ (97 ≤ x.toInt ∧ x.toInt ≤ 122) → 48 ≤ x.toInt → x.toInt ≤ 57 → Q 2 h := by
    intro z2 z3 z4
    rw [kc_2.mpr ⟨z3, z4⟩] at hQ
    exact hQ
  refine ⟨fun z => ⟨fun z2 => tail (by omega) (by omega), fun z2 => ⟨fun z3 => tail (by omega) (by omega), fun z3 => mid (by omega) (by omega) (by omega)⟩⟩, fun z => ⟨fun z2 => ⟨fun z3 => tail (by omega) (by omega), fun z3 => ⟨fun z4 => tail (by omega) (by omega), fun z4 => mid (by omega) (by omega) (by omega)⟩⟩, fun z2 => ?_⟩⟩
  rw [kc_1.mpr ⟨by omega, by omega⟩] at hQ
  exact hQ
/-- the class's token behind p -/
def TC (n : Nat) (b : Nat → Int32) (p : Nat) (h : HP) : Prop := gi h 105 1 = nI n ∧ (∀ i, i < n → gi h 106 i = b i) ∧ gi h 105 3 = nI (tK n b p) ∧ gi h 105 4 = nI (tP n b p) ∧ gi h 105 5 = nI (tE n b p) ∧ (tK n b p = 2 → gi h 105 6 = nI (min (tV n b p) 1000))
abbrev cellsK : Nat → Nat → Prop := fun a k => a = 105 ∧ 3 ≤ k ∧ k ≤ 6
theorem dig {x : Int32} (hx : kcF x = 2) : x = nI (x.toInt.toNat) ∧ 48 ≤ x.toInt.toNat ∧ x.toInt.toNat ≤ 57 := by
  have := kc_2.mp hx
  exact ⟨nt_nI (by omega), by omega, by omega⟩
theorem vl_up {b : Nat → Int32} : ∀ r v p, 1000 ≤ v → vlF b r v p = v
  | 0, v, p, _ => rfl
  | r + 1, v, p, hv => by unfold vlF; rw [if_neg (by omega)]; exact vl_up r v (p + 1) hv
theorem c_valueOf {Q : Int32 → HP → Prop} {P E : Nat} (hn : n ≤ 120) (hPE : P ≤ E) (hE : E ≤ n) (hd : ∀ i, P ≤ i → i < E → kcF (b i) = 2) (h4 : gi h 105 4 = nI P) (h5 : gi h 105 5 = nI E) (ht : ∀ i, i < n → gi h 106 i = b i) (hQ : Q (nI (min (vlF b (E - P) 0 P) 1000)) h) : f_X5_valueOfToken h Q := by
  unfold f_X5_valueOfToken
  intro x2 e2
  rw [h4] at e2
  rw [e2]
  have key : ∀ r i v, i + r = E → P ≤ i → v ≤ 999 → Q (nI (min (vlF b r v i) 1000)) h → f_X5_valueOfToken_L7 Q (r + 1) (nI v) (nI i) h := by
    intro r
    induction r with
    | zero =>
      intro i v hi hP hv hQ'
      unfold f_X5_valueOfToken_L7
      rw [h5]
      unfold vlF at hQ'
      rw [show min v 1000 = v by omega] at hQ'
      exact br_le (by omega) (by omega) (fun _ => hQ') (fun z => by omega)
    | succ r ih =>
      intro i v hi hP hv hQ'
      unfold f_X5_valueOfToken_L7
      rw [h5]
      refine br_le (by omega) (by omega) (fun z => by omega) (fun _ => ⟨vp_in_nI (by omega) (by decide), ?_⟩)
      intro x1 e1
      have dg := dig (hd i hP (by omega))
      rw [ix_nI (by omega), ht i (by omega), dg.1, lit 10, nI_mul, nI_add, lit 48, nI_sub (by omega)] at e1
      rw [e1, show 10 * v + (b i).toInt.toNat - 48 = 10 * v + ((b i).toInt.toNat - 48) by omega]
      unfold vlF at hQ'
      rw [if_pos hv] at hQ'
      have dl : (b i).toInt.toNat - 48 ≤ 9 := by omega
      generalize (b i).toInt.toNat - 48 = d at *
      refine br_le (b := 999) (by omega) (by omega) (fun z => ?_) (fun z => ?_)
      · intro y ey
        rw [ey, nI_1]
        exact ih (i + 1) _ (by omega) (by omega) z hQ'
      · rw [vl_up _ _ _ (by omega), show min (10 * v + d) 1000 = 1000 by omega] at hQ'
        exact hQ'
  exact ⟨_, key (E - P) P 0 (by omega) (Nat.le_refl _) (by omega) hQ⟩
theorem c_readToken {Q : HP → Prop} (hn : n ≤ 120) (hp : p ≤ n) (h1 : gi h 105 1 = nI n) (ht : ∀ i, i < n → gi h 106 i = b i) (h5 : gi h 105 5 = nI p) (hQ : ∀ h', TC n b p h' → FrI cellsK h h' → Q h') : f_X5_readToken h Q := by
  unfold f_X5_readToken
  have tb := tP_b (b := b) hp
  have eb := tE_b (b := b) hp
  have k0 := tK_0 (n := n) (p := p) (b := b)
  -- the value
  have fin : ∀ g, gi g 105 3 = nI (tK n b p) → gi g 105 4 = nI (tP n b p) → gi g 105 5 = nI (tE n b p) → FrI cellsK h g → f_X5_readToken_J147 Q g := by
    intro g g3 g4 g5 gf
    unfold f_X5_readToken_J147
    have gt : ∀ i, i < n → gi g 106 i = b i := fun i hi => by rw [gf.1 _ _ (by simp only [cellsK]; omega)]; exact ht i hi
    have g1 : gi g 105 1 = nI n := by rw [gf.1 _ _ (by simp only [cellsK]; omega)]; exact h1
    rw [g3]
    have kl : tK n b p ≤ 4 := by
      unfold tK
      have := kcF_pos (x := b (tP n b p))
      split <;> omega
    refine br_eq (b := 2) (by omega) (by omega) (fun z => ?_) (fun z => ?_)
    · refine c_valueOf (b := b) hn eb.1 eb.2.1 (fun i i1 i2 => by rw [tK_run hp (Or.inr z) i i1 i2, z]) g4 g5 gt ?_
      intro h20 e20
      have f20 : FrI cellsK g h20 := by rw [e20]; exact FrI.si ⟨rfl, by omega, by omega⟩
      refine hQ h20 ⟨?_, fun i hi => ?_, ?_, ?_, ?_, fun _ => ?_⟩ (gf.trans f20)
      · rw [e20, gi_si, if_neg (by omega)]; exact g1
      · rw [e20, gi_si, if_neg (by omega)]; exact gt i hi
      · rw [e20, gi_si, if_neg (by omega)]; exact g3
      · rw [e20, gi_si, if_neg (by omega)]; exact g4
      · rw [e20, gi_si, if_neg (by omega)]; exact g5
      · rw [e20, gi_si, if_pos ⟨rfl, rfl⟩]; rfl
    · exact hQ g ⟨g1, gt, g3, g4, g5, fun q => absurd q z⟩ gf
  -- the run
  have run : ∀ r i g, i + r = n → tE n b p = rnF b (tK n b p) r i → (tK n b p = 1 ∨ tK n b p = 2) → gi g 105 3 = nI (tK n b p) → gi g 105 4 = nI (tP n b p) → gi g 105 5 = nI i → FrI cellsK h g → f_X5_readToken_L104 (fun h16 => f_X5_readToken_J147 Q h16) Q (r + 1) g := by
    intro r
    induction r with
    | zero =>
      intro i g hi he hk g3 g4 g5 gf
      unfold f_X5_readToken_L104
      have g1 : gi g 105 1 = nI n := by rw [gf.1 _ _ (by simp only [cellsK]; omega)]; exact h1
      rw [g1, g5]
      refine br_le (by omega) (by omega) (fun _ => fin g g3 g4 ?_ gf) (fun z => by omega)
      rw [he]; exact g5
    | succ r ih =>
      intro i g hi he hk g3 g4 g5 gf
      unfold f_X5_readToken_L104
      have g1 : gi g 105 1 = nI n := by rw [gf.1 _ _ (by simp only [cellsK]; omega)]; exact h1
      have gt : ∀ i, i < n → gi g 106 i = b i := fun i hi => by rw [gf.1 _ _ (by simp only [cellsK]; omega)]; exact ht i hi
      rw [g1, g5]
      refine br_le (by omega) (by omega) (fun z => by omega) (fun _ => ⟨vp_in_nI (by omega) (by decide), ?_⟩)
      rw [ix_nI (by omega), gt i (by omega)]
      refine c_sortOf ?_
      rw [g3]
      have kp := kcF_pos (x := b i)
      unfold rnF at he
      refine br_eq (by omega) (by omega) (fun z => ?_) (fun z => ?_)
      · rw [if_pos z] at he
        intro h15 e15
        rw [g5, nI_1] at e15
        have f15 : FrI cellsK g h15 := by rw [e15]; exact FrI.si ⟨rfl, by omega, by omega⟩
        refine ih (i + 1) h15 (by omega) he hk ?_ ?_ ?_ (gf.trans f15)
        · rw [e15, gi_si, if_neg (by omega)]; exact g3
        · rw [e15, gi_si, if_neg (by omega)]; exact g4
        · rw [e15, gi_si, if_pos ⟨rfl, rfl⟩]
      · rw [if_neg z] at he
        exact fin g g3 g4 (by rw [he]; exact g5) gf
  have j88 : ∀ g, gi g 105 3 = nI (tK n b p) → gi g 105 4 = nI (tP n b p) → gi g 105 5 = nI (if tK n b p = 0 then tP n b p else tP n b p + 1) → FrI cellsK h g → f_X5_readToken_J88 Q g := by
    intro g g3 g4 g5 gf
    unfold f_X5_readToken_J88
    rw [g3]
    have kl : tK n b p ≤ 4 := by
      unfold tK
      have := kcF_pos (x := b (tP n b p))
      split <;> omega
    have go : (tK n b p = 1 ∨ tK n b p = 2) → ∃ f, f_X5_readToken_L104 (fun h16 => f_X5_readToken_J147 Q h16) Q f g := by
      intro z
      rw [if_neg (by omega)] at g5
      have : ¬ n ≤ tP n b p := fun q => by have := k0.mpr q; omega
      exact ⟨_, run (n - (tP n b p + 1)) (tP n b p + 1) g (by omega) (by unfold tE; rw [if_pos z]) z g3 g4 g5 gf⟩
    refine br_eq (b := 1) (by omega) (by omega) (fun z => go (Or.inl z)) (fun z => br_eq (b := 2) (by omega) (by omega) (fun z2 => go (Or.inr z2)) (fun z2 => fin g g3 g4 ?_ gf))
    unfold tE
    rw [if_neg (by omega)]; exact g5
  have j38 : ∀ g, gi g 105 5 = nI (tP n b p) → FrI cellsK h g → f_X5_readToken_J38 Q g := by
    intro g g5 gf
    unfold f_X5_readToken_J38
    intro h6 e6 h7 e7
    have f7 : FrI cellsK h h7 := by
      have a : FrI cellsK g h6 := by rw [e6]; exact FrI.si ⟨rfl, by omega, by omega⟩
      have c : FrI cellsK h6 h7 := by rw [e7]; exact FrI.si ⟨rfl, by omega, by omega⟩
      exact (gf.trans a).trans c
    have q3 : gi h7 105 3 = 0 := by rw [e7, gi_si, if_pos ⟨rfl, rfl⟩]
    have q4 : gi h7 105 4 = nI (tP n b p) := by rw [e7, gi_si, if_neg (by omega), e6, gi_si, if_pos ⟨rfl, rfl⟩]; exact g5
    have q5 : gi h7 105 5 = nI (tP n b p) := by rw [e7, gi_si, if_neg (by omega), e6, gi_si, if_neg (by omega)]; exact g5
    have q1 : gi h7 105 1 = nI n := by rw [f7.1 _ _ (by simp only [cellsK]; omega)]; exact h1
    have qt : ∀ i, i < n → gi h7 106 i = b i := fun i hi => by rw [f7.1 _ _ (by simp only [cellsK]; omega)]; exact ht i hi
    rw [q1, q5]
    refine br_le (by omega) (by omega) (fun z => ?_) (fun z => ⟨vp_in_nI (by omega) (by decide), ?_⟩)
    · have kz := k0.mpr z
      exact j88 h7 (by rw [kz]; exact q3) q4 (by rw [if_pos kz]; exact q5) f7
    · rw [ix_nI (by omega), qt _ z]
      refine c_sortOf ?_
      intro h28 e28 h29 e29
      have eK : tK n b p = kcF (b (tP n b p)) := by unfold tK; rw [if_pos z]
      have kz : tK n b p ≠ 0 := fun q => by have := k0.mp q; omega
      have f29 : FrI cellsK h7 h29 := by
        have a : FrI cellsK h7 h28 := by rw [e28]; exact FrI.si ⟨rfl, by omega, by omega⟩
        have c : FrI cellsK h28 h29 := by rw [e29]; exact FrI.si ⟨rfl, by omega, by omega⟩
        exact a.trans c
      refine j88 h29 ?_ ?_ ?_ (f7.trans f29)
      · rw [e29, gi_si, if_neg (by omega), e28, gi_si, if_pos ⟨rfl, rfl⟩, eK]
      · rw [e29, gi_si, if_neg (by omega), e28, gi_si, if_neg (by omega)]; exact q4
      · rw [if_neg kz, e29, gi_si, if_pos ⟨rfl, rfl⟩, e28, gi_si, if_neg (by omega), q5, nI_1]
  have skip : ∀ r i g, i + r = n → tP n b p = skF b r i → gi g 105 5 = nI i → FrI cellsK h g → f_X5_readToken_L0 (fun h5 => f_X5_readToken_J38 Q h5) Q (r + 1) g := by
    intro r
    induction r with
    | zero =>
      intro i g hi he g5 gf
      unfold f_X5_readToken_L0
      have g1 : gi g 105 1 = nI n := by rw [gf.1 _ _ (by simp only [cellsK]; omega)]; exact h1
      rw [g1, g5]
      refine br_le (by omega) (by omega) (fun _ => j38 g ?_ gf) (fun z => by omega)
      rw [he]; exact g5
    | succ r ih =>
      intro i g hi he g5 gf
      unfold f_X5_readToken_L0
      have g1 : gi g 105 1 = nI n := by rw [gf.1 _ _ (by simp only [cellsK]; omega)]; exact h1
      have gt : ∀ i, i < n → gi g 106 i = b i := fun i hi => by rw [gf.1 _ _ (by simp only [cellsK]; omega)]; exact ht i hi
      rw [g1, g5]
      refine br_le (by omega) (by omega) (fun z => by omega) (fun _ => ⟨vp_in_nI (by omega) (by decide), ?_⟩)
      rw [ix_nI (by omega), gt i (by omega)]
      unfold skF at he
      refine ⟨fun z => ?_, fun z => ?_⟩
      · rw [if_pos z] at he
        intro h4 e4
        rw [nI_1] at e4
        have f4 : FrI cellsK g h4 := by rw [e4]; exact FrI.si ⟨rfl, by omega, by omega⟩
        exact ih (i + 1) h4 (by omega) he (by rw [e4, gi_si, if_pos ⟨rfl, rfl⟩]) (gf.trans f4)
      · rw [if_neg z] at he
        exact j38 g (by rw [he]; exact g5) gf
  exact ⟨_, skip (n - p) p h (by omega) rfl h5 FrI.rf⟩
end Tok
