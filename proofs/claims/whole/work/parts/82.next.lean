/-! the reference's next token -/
section Tok
variable {n p : Nat} {b : Nat → Int32} {h : HP}
theorem m_isK {Q : Int32 → HP → Prop} {x : Int32} (k : Nat) (hk : k = 1 ∨ k = 2) {lo hi : Int64} (h1 : k = 1 → lo = 97 ∧ hi = 122) (h2 : k = 2 → lo = 48 ∧ hi = 57) (hY : kcF x = k → Q 1 h) (hN : kcF x ≠ k → Q 0 h) : f_X8_in x.toInt64 lo hi h Q := by
  rcases hk with e | e
  · rw [(h1 e).1, (h1 e).2]
    rw [e] at hY hN
    exact m_in (a := 97) (b := 122) rfl rfl (fun q => hY (kc_1.mpr q)) (fun q => hN (fun z => q (kc_1.mp z)))
  · rw [(h2 e).1, (h2 e).2]
    rw [e] at hY hN
    exact m_in (a := 48) (b := 57) rfl rfl (fun q => hY (kc_2.mpr q)) (fun q => hN (fun z => q (kc_2.mp z)))
theorem m_isA {Q : Int32 → HP → Prop} {x : Int32} (hY : kcF x = 1 → Q 1 h) (hN : kcF x ≠ 1 → Q 0 h) : f_X8_in x.toInt64 97 122 h Q := m_isK 1 (Or.inl rfl) (fun _ => ⟨rfl, rfl⟩) (fun q => by omega) hY hN
theorem m_isD {Q : Int32 → HP → Prop} {x : Int32} (hY : kcF x = 2 → Q 1 h) (hN : kcF x ≠ 2 → Q 0 h) : f_X8_in x.toInt64 48 57 h Q := m_isK 2 (Or.inr rfl) (fun q => by omega) (fun _ => ⟨rfl, rfl⟩) hY hN
theorem kc_m1 : kcF (-1) = 4 := by decide +kernel
theorem m_next {Q : HP → Prop} (hn : n ≤ 120) (hp : p ≤ n) (hb : ∀ i, i < n → 0 ≤ (b i).toInt) (hD : WD h) (h1 : gi h 117 26 = nI n) (ht : ∀ i, i < n → gi h 138 i = b i) (h5 : gi h 117 27 = nI p) (hQ : ∀ h', TM n b p h' → FrI cellsQ h h' → Q h') : f_X8_next h Q := by
  unfold f_X8_next
  have tb := tP_b (b := b) hp
  have eb := tE_b (b := b) hp
  have k0 := tK_0 (n := n) (p := p) (b := b)
  have g1 : ∀ {g}, FrI cellsQ h g → gi g 117 26 = nI n := fun gf => by rw [gf.1 _ _ (by simp only [cellsQ]; omega)]; exact h1
  have gt : ∀ {g}, FrI cellsQ h g → ∀ i, i < n → gi g 138 i = b i := fun gf i hi => by rw [gf.1 _ _ (by simp only [cellsQ]; omega)]; exact ht i hi
  have gD : ∀ {g}, FrI cellsQ h g → WD g := fun gf k hk => by rw [gf.1 _ _ (by simp only [cellsQ]; omega)]; exact hD k hk
  -- all but a number: the end
  have fin : ∀ x1 g, kcF x1 ≠ 2 → tK n b p ≠ 2 → gi g 117 29 = cdF n b p → gi g 117 28 = nI (tP n b p) → gi g 117 27 = nI (tE n b p) → FrI cellsQ h g → f_X8_next_J194 x1 Q g := by
    intro x1 g z z2 g9 g8 g7 gf
    unfold f_X8_next_J194
    exact m_isD (fun q => absurd q z) (fun _ => br0 (hQ g ⟨g1 gf, gt gf, g9, g8, g7, fun q => absurd q z2⟩ gf))
  -- words
  have words : ∀ g, tK n b p = 1 → gi g 117 29 = -2 → gi g 117 28 = nI (tP n b p) → gi g 117 27 = nI (tE n b p) → FrI cellsQ h g → ∀ x1, kcF x1 = 1 → ∃ f, f_X8_next_L159 x1 (fun h49 => f_X8_next_J194 x1 Q h49) Q f 0 g := by
    intro g kz g9 g8 g7 gf x1 hx
    have key := loop_up (L := fun f w => ∀ g, gi g 117 29 = wlF b (tP n b p) (tE n b p) w → gi g 117 28 = nI (tP n b p) → gi g 117 27 = nI (tE n b p) → FrI cellsQ h g → f_X8_next_L159 x1 (fun h49 => f_X8_next_J194 x1 Q h49) Q f (nI w) g) 16 0 (by omega) (fun f g q9 q8 q7 qf => ?_) (fun w f _ hw ih g q9 q8 q7 qf => ?_)
    · obtain ⟨f, hf⟩ := key
      exact ⟨f, hf g g9 g8 g7 gf⟩
    · unfold f_X8_next_L159
      refine br_le (a := 16) (by omega) (by omega) (fun _ => fin x1 g (by omega) (by omega) ?_ q8 q7 qf) (fun z => by omega)
      unfold cdF
      rw [if_neg (by omega), if_neg (by omega), if_neg (by omega), if_pos kz]; exact q9
    · unfold f_X8_next_L159
      refine br_le (a := 16) (by omega) (by omega) (fun z => by omega) (fun _ => ?_)
      have nx : ∀ v : Int32, (v = 0 ↔ ¬ wmP b (tP n b p) (tE n b p) w) → ∀ h47 : HP, h47 = si g 117 29 (if v = 0 then ((gi g 117 29) : Int32) else (10 + nI w)) → ∀ x2_48 : Int32, x2_48 = (nI w + 1) → f_X8_next_L159 x1 (fun h49 => f_X8_next_J194 x1 Q h49) Q f x2_48 h47 := by
        intro v ev h47 e47 y ey
        rw [ey, nI_1]
        have f47 : FrI cellsQ g h47 := by rw [e47]; exact FrI.si ⟨rfl, by omega, by omega⟩
        refine ih h47 ?_ ?_ ?_ (qf.trans f47)
        · rw [e47, gi_si, if_pos ⟨rfl, rfl⟩]
          unfold wlF
          by_cases z : wmP b (tP n b p) (tE n b p) w
          · rw [if_pos z, if_neg (fun q => ev.mp q z)]
          · rw [if_neg z, if_pos (ev.mpr z)]; exact q9
        · rw [e47, gi_si, if_neg (by omega)]; exact q8
        · rw [e47, gi_si, if_neg (by omega)]; exact q7
      exact m_wordFrom (b := b) hn hw eb.1 eb.2.1 (fun i i1 i2 => by rw [tK_run hp (Or.inl kz) i i1 i2]; exact kz) (g1 qf) (gt qf) q7 q8 (gD qf) (fun z => nx 1 ⟨fun q => absurd q (by decide), fun q => absurd z q⟩) (fun z => nx 0 ⟨fun _ => z, fun _ => rfl⟩)
  -- letters
  have letters : ∀ x1, kcF x1 = 1 → ∀ r i g, i + r = n → tE n b p = rnF b 1 r i → tK n b p = 1 → gi g 117 29 = -2 → gi g 117 28 = nI (tP n b p) → gi g 117 27 = nI i → FrI cellsQ h g → f_X8_next_L123 x1 (fun h41 => ∃ n50, f_X8_next_L159 x1 (fun h49 => f_X8_next_J194 x1 Q h49) Q n50 0 h41) Q (r + 1) g := by
    intro x1 hx r
    induction r with
    | zero =>
      intro i g hi he kz g9 g8 g7 gf
      unfold f_X8_next_L123
      rw [g7]
      refine m_byteAt (b := b) hn (by omega) (g1 gf) (gt gf) ?_
      rw [if_neg (by omega)]
      refine m_isA (fun q => by rw [kc_m1] at q; omega) (fun _ => br0 (words g kz g9 g8 ?_ gf x1 hx))
      rw [he]; exact g7
    | succ r ih =>
      intro i g hi he kz g9 g8 g7 gf
      unfold f_X8_next_L123
      rw [g7]
      refine m_byteAt (b := b) hn (by omega) (g1 gf) (gt gf) ?_
      rw [if_pos (by omega)]
      unfold rnF at he
      refine m_isA (fun q => br1 ?_) (fun q => br0 ?_)
      · rw [if_pos q] at he
        intro h40 e40
        rw [g7, nI_1] at e40
        have f40 : FrI cellsQ g h40 := by rw [e40]; exact FrI.si ⟨rfl, by omega, by omega⟩
        refine ih (i + 1) h40 (by omega) he kz ?_ ?_ ?_ (gf.trans f40)
        · rw [e40, gi_si, if_neg (by omega)]; exact g9
        · rw [e40, gi_si, if_neg (by omega)]; exact g8
        · rw [e40, gi_si, if_pos ⟨rfl, rfl⟩]
      · rw [if_neg q] at he
        exact words g kz g9 g8 (by rw [he]; exact g7) gf x1 hx
  -- digits
  have digits : ∀ r i v g, i + r = n → tE n b p = rnF b 2 r i → tV n b p = vlF b (tE n b p - i) v i → v ≤ 9999 → tK n b p = 2 → gi g 117 30 = nI v → gi g 117 28 = nI (tP n b p) → gi g 117 27 = nI i → FrI cellsQ h g → f_X8_next_L213 (fun h30 => ∀ h33 : HP, h33 = si h30 117 29 (if (gi h30 117 30) ≤ 999 then (1 : Int32) else (-2 : Int32)) → Q h33) Q (r + 1) g := by
    have last : ∀ v g, tV n b p = v → v ≤ 9999 → tK n b p = 2 → gi g 117 30 = nI v → gi g 117 28 = nI (tP n b p) → gi g 117 27 = nI (tE n b p) → FrI cellsQ h g → ∀ h33 : HP, h33 = si g 117 29 (if (gi g 117 30) ≤ 999 then (1 : Int32) else (-2 : Int32)) → Q h33 := by
      intro v g ev hv kz g30 g8 g7 gf h33 e33
      have f33 : FrI cellsQ g h33 := by rw [e33]; exact FrI.si ⟨rfl, by omega, by omega⟩
      refine hQ h33 ⟨g1 (gf.trans f33), gt (gf.trans f33), ?_, ?_, ?_, fun _ _ => ?_⟩ (gf.trans f33)
      · rw [e33, gi_si, if_pos ⟨rfl, rfl⟩, g30]
        have ec : cdF n b p = if tV n b p ≤ 999 then 1 else -2 := by unfold cdF; rw [if_neg (by omega), if_neg (by omega), if_pos kz]
        rw [ec, ev]
        by_cases z : v ≤ 999
        · have zz : nI v ≤ (999 : Int32) := nI_le (b := 999) z (by omega)
          rw [if_pos z, if_pos zz]
        · have zz : ¬ nI v ≤ (999 : Int32) := fun q => z ((nI_leI (b := 999) (by omega) (by omega)).mp q)
          rw [if_neg z, if_neg zz]
      · rw [e33, gi_si, if_neg (by omega)]; exact g8
      · rw [e33, gi_si, if_neg (by omega)]; exact g7
      · rw [e33, gi_si, if_neg (by omega), ev]; exact g30
    intro r
    induction r with
    | zero =>
      intro i v g hi he ev hv kz g30 g8 g7 gf
      unfold f_X8_next_L213
      rw [g7]
      refine m_byteAt (b := b) hn (by omega) (g1 gf) (gt gf) ?_
      rw [if_neg (by omega)]
      have eE : tE n b p = i := by rw [he]; rfl
      refine m_isD (fun q => by rw [kc_m1] at q; omega) (fun _ => br0 (last v g ?_ hv kz g30 g8 (by rw [eE]; exact g7) gf))
      rw [ev, eE, Nat.sub_self]; rfl
    | succ r ih =>
      intro i v g hi he ev hv kz g30 g8 g7 gf
      unfold f_X8_next_L213
      rw [g7]
      refine m_byteAt (b := b) hn (by omega) (g1 gf) (gt gf) ?_
      rw [if_pos (by omega)]
      unfold rnF at he
      refine m_isD (fun q => br1 ?_) (fun q => br0 ?_)
      · rw [if_pos q] at he
        have rb := rn_b (b := b) (k := 2) r (i + 1)
        have dg := dig q
        rw [show tE n b p - i = (tE n b p - (i + 1)) + 1 by omega] at ev
        unfold vlF at ev
        have j271 : ∀ x v', x = nI v' → v' ≤ 9999 → v' = (if v ≤ 999 then 10 * v + ((b i).toInt.toNat - 48) else v) → f_X8_next_J271 x (f_X8_next_L213 (fun h30 => ∀ h33 : HP, h33 = si h30 117 29 (if (gi h30 117 30) ≤ 999 then (1 : Int32) else (-2 : Int32)) → Q h33) Q (r + 1)) Q g := by
          intro x v' ex lv e'
          unfold f_X8_next_J271
          intro h28 e28 h29 e29
          rw [← e'] at ev
          have a : FrI cellsQ g h28 := by rw [e28]; exact FrI.si ⟨rfl, by omega, by omega⟩
          have c : FrI cellsQ h28 h29 := by rw [e29]; exact FrI.si ⟨rfl, by omega, by omega⟩
          refine ih (i + 1) v' h29 (by omega) he ev lv kz ?_ ?_ ?_ ((gf.trans a).trans c)
          · rw [e29, gi_si, if_neg (by omega), e28, gi_si, if_pos ⟨rfl, rfl⟩, ex]
          · rw [e29, gi_si, if_neg (by omega), e28, gi_si, if_neg (by omega)]; exact g8
          · rw [e29, gi_si, if_pos ⟨rfl, rfl⟩, e28, gi_si, if_neg (by omega), g7, nI_1]
        rw [g30]
        refine br_le (b := 999) (by omega) (by omega) (fun z => ?_) (fun z => ?_)
        · rw [g7]
          refine m_byteAt (b := b) hn (by omega) (g1 gf) (gt gf) ?_
          rw [if_pos (by omega)]
          refine j271 _ (10 * v + ((b i).toInt.toNat - 48)) ?_ (by omega) (by rw [if_pos z])
          rw [dg.1, lit 10, nI_mul, nI_add, lit 48, nI_sub (by omega), ← dg.1, show 10 * v + (b i).toInt.toNat - 48 = 10 * v + ((b i).toInt.toNat - 48) by omega]
        · exact j271 _ v rfl hv (by rw [if_neg (by omega)])
      · rw [if_neg q] at he
        exact last v g (by rw [ev, he, Nat.sub_self]; rfl) hv kz g30 g8 (by rw [he]; exact g7) gf
  -- behind the first byte
  have j109 : ∀ x1 g, (tK n b p = 0 → kcF x1 = 4) → (tK n b p ≠ 0 → kcF x1 = tK n b p) → (tK n b p = 1 → gi g 117 29 = -2) → (tK n b p ≠ 1 → tK n b p ≠ 2 → gi g 117 29 = cdF n b p) → gi g 117 28 = nI (tP n b p) → gi g 117 27 = nI (if tK n b p = 3 ∨ tK n b p = 4 then tP n b p + 1 else tP n b p) → FrI cellsQ h g → f_X8_next_J109 x1 Q g := by
    intro x1 g x0 xk g9a g9b g8 g7 gf
    have kp := kcF_pos (x := x1)
    have kl : tK n b p ≤ 4 := by
      unfold tK
      have := kcF_pos (x := b (tP n b p))
      split <;> omega
    unfold f_X8_next_J109
    refine m_isA (fun q => br1 ?_) (fun q => br0 ?_)
    · have kz : tK n b p = 1 := by
        by_cases z : tK n b p = 0
        · have := x0 z; omega
        · have := xk z; omega
      rw [if_neg (by omega)] at g7
      have lt : tP n b p < n := by
        have : ¬ n ≤ tP n b p := fun q => by have := k0.mpr q; omega
        omega
      refine ⟨_, letters x1 q (n - tP n b p) (tP n b p) g (by omega) ?_ kz (g9a kz) g8 g7 gf⟩
      have eK : tK n b p = kcF (b (tP n b p)) := by unfold tK; rw [if_pos lt]
      unfold tE
      rw [if_pos (Or.inl kz), kz, show n - tP n b p = (n - (tP n b p + 1)) + 1 by omega]
      conv => rhs; unfold rnF
      rw [if_pos (by omega)]
    · by_cases kz : tK n b p = 2
      · have k2 := xk (by omega)
        rw [if_neg (by omega)] at g7
        unfold f_X8_next_J194
        refine m_isD (fun _ => br1 ?_) (fun q => by omega)
        intro h19 e19
        have f19 : FrI cellsQ g h19 := by rw [e19]; exact FrI.si ⟨rfl, by omega, by omega⟩
        have lt : tP n b p < n := by
          have : ¬ n ≤ tP n b p := fun q => by have := k0.mpr q; omega
          omega
        refine ⟨_, digits (n - tP n b p) (tP n b p) 0 h19 (by omega) ?_ rfl (by omega) kz ?_ ?_ ?_ (gf.trans f19)⟩
        · have eK : tK n b p = kcF (b (tP n b p)) := by unfold tK; rw [if_pos lt]
          unfold tE
          rw [if_pos (Or.inr kz), kz, show n - tP n b p = (n - (tP n b p + 1)) + 1 by omega]
          conv => rhs; unfold rnF
          rw [if_pos (by omega)]
        · rw [e19, gi_si, if_pos ⟨rfl, rfl⟩]; rfl
        · rw [e19, gi_si, if_neg (by omega)]; exact g8
        · rw [e19, gi_si, if_neg (by omega)]; exact g7
      · have k1 : tK n b p ≠ 1 := fun z => q (by have := xk (by omega); omega)
        refine fin x1 g (fun z => ?_) kz (g9b k1 kz) g8 ?_ gf
        · by_cases z0 : tK n b p = 0
          · have := x0 z0; omega
          · have := xk z0; omega
        · have eT : tE n b p = if tK n b p = 0 then tP n b p else tP n b p + 1 := by unfold tE; rw [if_neg (by omega)]
          rw [g7, eT]
          by_cases z0 : tK n b p = 0
          · have z1 : ¬ (tK n b p = 3 ∨ tK n b p = 4) := by omega
            rw [if_neg z1, if_pos z0]
          · have z1 : tK n b p = 3 ∨ tK n b p = 4 := by omega
            rw [if_pos z1, if_neg z0]
  have j64 : ∀ x1 xs g, (tK n b p = 0 → x1 = -1) → (tK n b p ≠ 0 → 0 ≤ x1.toInt ∧ kcF x1 = tK n b p) → (tK n b p = 1 → xs = -2) → (tK n b p ≠ 1 → tK n b p ≠ 2 → xs = cdF n b p) → gi g 117 28 = nI (tP n b p) → gi g 117 27 = nI (tP n b p) → FrI cellsQ h g → f_X8_next_J64 x1 xs Q g := by
    intro x1 xs g x0 xk s1 s2 g8 g7 gf
    unfold f_X8_next_J64
    intro h11 e11
    have f11 : FrI cellsQ g h11 := by rw [e11]; exact FrI.si ⟨rfl, by omega, by omega⟩
    have q9 : gi h11 117 29 = xs := by rw [e11, gi_si, if_pos ⟨rfl, rfl⟩]
    have q8 : gi h11 117 28 = nI (tP n b p) := by rw [e11, gi_si, if_neg (by omega)]; exact g8
    have q7 : gi h11 117 27 = nI (tP n b p) := by rw [e11, gi_si, if_neg (by omega)]; exact g7
    have y0 : tK n b p = 0 → kcF x1 = 4 := fun z => by rw [x0 z]; exact kc_m1
    have yk : tK n b p ≠ 0 → kcF x1 = tK n b p := fun z => (xk z).2
    have kl : tK n b p ≤ 4 := by
      unfold tK
      have := kcF_pos (x := b (tP n b p))
      split <;> omega
    have go : ¬ (tK n b p = 3 ∨ tK n b p = 4) → f_X8_next_J109 x1 Q h11 := fun z => j109 x1 h11 y0 yk (fun z => by rw [q9]; exact s1 z) (fun z z2 => by rw [q9]; exact s2 z z2) q8 (by rw [if_neg z]; exact q7) (gf.trans f11)
    rw [i32_lt, i32_0]
    refine ⟨fun z => go (fun q => ?_), fun z => ?_⟩
    · have := (xk (by omega)).1; omega
    · have nz : tK n b p ≠ 0 := fun q => by
        have := x0 q
        rw [this, show (-1 : Int32).toInt = -1 by rfl] at z
        omega
      refine m_isA (fun q => br1 (go (by have := yk nz; omega))) (fun q => br0 ?_)
      refine m_isD (fun q2 => br1 (go (by have := yk nz; omega))) (fun q2 => br0 ?_)
      intro h58 e58
      have f58 : FrI cellsQ h11 h58 := by rw [e58]; exact FrI.si ⟨rfl, by omega, by omega⟩
      refine j109 x1 h58 y0 yk (fun z => ?_) (fun z z2 => ?_) ?_ ?_ ((gf.trans f11).trans f58)
      · rw [e58, gi_si, if_neg (by omega), q9]; exact s1 z
      · rw [e58, gi_si, if_neg (by omega), q9]; exact s2 z z2
      · rw [e58, gi_si, if_neg (by omega)]; exact q8
      · have := yk nz
        rw [if_pos (by omega), e58, gi_si, if_pos ⟨rfl, rfl⟩, q7, nI_1]
  have j26 : ∀ g, gi g 117 27 = nI (tP n b p) → FrI cellsQ h g → ∀ h6 : HP, h6 = si g 117 28 (gi g 117 27) → f_X8_byteAt (gi h6 117 27) h6 (fun v8 h7 => (((0 ≤ v8) → (((v8 = 59) → f_X8_next_J64 v8 0 Q h7) ∧ (¬ (v8 = 59) → f_X8_next_J64 v8 (-2 : Int32) Q h7))) ∧ (¬ (0 ≤ v8) → f_X8_next_J64 v8 (-1 : Int32) Q h7))) := by
    intro g g7 gf h6 e6
    have f6 : FrI cellsQ g h6 := by rw [e6]; exact FrI.si ⟨rfl, by omega, by omega⟩
    have ff := gf.trans f6
    have q8 : gi h6 117 28 = nI (tP n b p) := by rw [e6, gi_si, if_pos ⟨rfl, rfl⟩]; exact g7
    have q7 : gi h6 117 27 = nI (tP n b p) := by rw [e6, gi_si, if_neg (by omega)]; exact g7
    rw [q7]
    refine m_byteAt (b := b) hn (by omega) (g1 ff) (gt ff) ?_
    by_cases z : tP n b p < n
    · have nz : tK n b p ≠ 0 := fun q => by have := k0.mp q; omega
      have eK : tK n b p = kcF (b (tP n b p)) := by unfold tK; rw [if_pos z]
      have b0 := hb _ z
      rw [if_pos z, i32_le, i32_0]
      refine ⟨fun _ => ⟨fun q => ?_, fun q => ?_⟩, fun q => absurd b0 q⟩
      · have k3 := kc_3.mpr q
        rw [← eK] at k3
        refine j64 _ _ h6 (fun q => absurd q nz) (fun _ => ⟨b0, eK.symm⟩) (fun q => by omega) (fun _ _ => ?_) q8 q7 ff
        rw [kcd_s.mpr k3]
      · have k3 : tK n b p ≠ 3 := fun z => q (kc_3.mp (by rw [← eK]; exact z))
        refine j64 _ _ h6 (fun q => absurd q nz) (fun _ => ⟨b0, eK.symm⟩) (fun _ => rfl) (fun q1 q2 => ?_) q8 q7 ff
        unfold cdF
        rw [if_neg nz, if_neg k3, if_neg q2, if_neg q1]
    · have kz := k0.mpr (by omega)
      rw [if_neg z]
      refine ⟨fun q => absurd q (by decide), fun _ => ?_⟩
      refine j64 _ _ h6 (fun _ => rfl) (fun q => absurd kz q) (fun q => by omega) (fun _ _ => ?_) q8 q7 ff
      rw [kcd_e.mpr kz]
  have skip : ∀ r i g, i + r = n → tP n b p = skF b r i → gi g 117 27 = nI i → FrI cellsQ h g → f_X8_next_L0 (fun h5 => ∀ h6 : HP, h6 = si h5 117 28 (gi h5 117 27) → f_X8_byteAt (gi h6 117 27) h6 (fun v8 h7 => (((0 ≤ v8) → (((v8 = 59) → f_X8_next_J64 v8 0 Q h7) ∧ (¬ (v8 = 59) → f_X8_next_J64 v8 (-2 : Int32) Q h7))) ∧ (¬ (0 ≤ v8) → f_X8_next_J64 v8 (-1 : Int32) Q h7)))) Q (r + 1) g := by
    intro r
    induction r with
    | zero =>
      intro i g hi he g7 gf
      unfold f_X8_next_L0
      rw [g7]
      refine m_byteAt (b := b) hn (by omega) (g1 gf) (gt gf) ?_
      rw [if_neg (by omega)]
      exact ⟨fun q => absurd q (by decide), fun _ => j26 g (by rw [he]; exact g7) gf⟩
    | succ r ih =>
      intro i g hi he g7 gf
      unfold f_X8_next_L0
      rw [g7]
      refine m_byteAt (b := b) hn (by omega) (g1 gf) (gt gf) ?_
      rw [if_pos (by omega)]
      unfold skF at he
      refine ⟨fun z => ?_, fun z => ?_⟩
      · rw [if_pos z] at he
        intro h4 e4
        rw [g7, nI_1] at e4
        have f4 : FrI cellsQ g h4 := by rw [e4]; exact FrI.si ⟨rfl, by omega, by omega⟩
        exact ih (i + 1) h4 (by omega) he (by rw [e4, gi_si, if_pos ⟨rfl, rfl⟩]) (gf.trans f4)
      · rw [if_neg z] at he
        exact j26 g (by rw [he]; exact g7) gf
  exact ⟨_, skip (n - p) p h (by omega) rfl h5 FrI.rf⟩
end Tok
