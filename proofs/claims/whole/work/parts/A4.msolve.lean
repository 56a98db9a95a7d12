/-! the stream of the reference: path, pushing, rounds -/
abbrev clsG : Nat → Nat → Prop := fun a _ => a = 134
section Str
variable {v : WV} {F F0 : Nat → Nat} {a b e s x i m B : Nat} {T : Nat → Prop} {π : Nat → Nat} {X : RX} {h h0 : HP}
theorem byM_lt (hF : WF m B v) (he : e < 2 * vL v) : byM e < 20 := by
  have := hF.1.2.2
  unfold byM
  split <;> omega
theorem m_stepBack {Q : Int32 → HP → Prop} (hF : WF m B v) (hM : HM v h) (hs : s < vS v) (he : e < 2 * vL v) (hd : gi h 136 s = nI (byM e)) (hQ : Q (nI (xt v e)) h) : f_X8_stepBack (nI s) h Q := by
  have hL := hF.1.2.2
  have hS := hF.1.2.1
  unfold f_X8_stepBack
  rw [ix_nI (by omega), hd]
  have hi : vp_in (nI s) 6 := vp_in_nI (by omega) (by decide)
  have hb := byM_lt hF he
  refine ⟨hi, br_le (a := 10) (by omega) (by omega) (fun z => ⟨hi, ?_⟩) (fun z => ⟨hi, ?_⟩)⟩
  · have k : ¬ e % 2 = 0 := fun k => by unfold byM at z; rw [if_pos k] at z; omega
    have e1 : byM e - 10 = e / 2 := by unfold byM; rw [if_neg k]; omega
    rw [lit 10, nI_sub z, e1]
    refine (m_at (k := 2) hF hM (by omega) (by omega)).mpr ?_
    have : xt v e = vl v (e / 2) 2 := by unfold xt; rw [if_neg k]
    rw [← this]
    exact hQ
  · have k : e % 2 = 0 := by
      apply Decidable.byContradiction
      intro k
      unfold byM at z
      rw [if_neg k] at z
      omega
    have e1 : byM e = e / 2 := by unfold byM; rw [if_pos k]
    rw [e1]
    refine (m_at (k := 1) hF hM (by omega) (by omega)).mpr ?_
    have : xt v e = vl v (e / 2) 1 := by unfold xt; rw [if_pos k]
    rw [← this]
    exact hQ
theorem m_snarrow {x2 : Int32} {k155 : Int32 → HP → Prop} {Q : HP → Prop} (hF : WF m B v) (ha : a < 6) (hx : Fx v F X) (hI : RI v F a T π i X) (hl : ∀ l, l < vL v → F l ≤ xro v l) (hM : HM v h) (hf : SMF v F h) (hd : SMD v a X h) : ∀ n s k, sxK X.2.2 s < n → X.1 s ≠ 1000000 → s < vS v → k < 2 ^ 31 → k155 (nI (sxN v F X a n s k)) h → f_X8_findsGains_L65 (nI a) x2 k155 Q n (nI k) (nI s) h := by
  intro n
  induction n with
  | zero => intro s k h2; omega
  | succ n ih =>
    intro s k h2 h3 h4 h5 hQ
    have hL := hF.1.2.2
    have hS := hF.1.2.1
    have hT := hF.1.1
    unfold f_X8_findsGains_L65
    refine br_eq (by omega) (by omega) (fun z => ?_) (fun z => ?_)
    · have e : sxN v F X a (n + 1) s k = k := if_pos z
      rw [e] at hQ
      exact hQ
    · have e : sxN v F X a (n + 1) s k = sxN v F X a n (sxP v X s) (if sxR v F (X.2.1 s) < k then sxR v F (X.2.1 s) else k) := if_neg z
      rw [e] at hQ
      obtain ⟨b1, b2, b3, b4, b5, b6⟩ := hI.2.2 s z h3
      have lt := sxK_lt (xt_6 hF b1).1 (fx_eq (m := m) (B := B) hx hI z h3).2
      have e4 : gi h 136 s = nI (byM (X.2.1 s)) := (hd s h4).2 z h3
      have r3 := sxR_le hF hl b1
      have hb := byM_lt hF b1
      have hi : vp_in (nI s) 6 := vp_in_nI (by omega) (by decide)
      have fin : f_X8_findsGains_J129 (nI a) x2 (nI k) (nI s) (nI (sxR v F (X.2.1 s))) (f_X8_findsGains_L65 (nI a) x2 k155 Q n) Q h := by
        unfold f_X8_findsGains_J129
        intro y ey
        refine m_stepBack hF hM h4 b1 e4 ?_
        have ey' : y = nI (if sxR v F (X.2.1 s) < k then sxR v F (X.2.1 s) else k) := by
          rw [ey]
          by_cases q : sxR v F (X.2.1 s) < k
          · rw [if_pos q, if_neg (nI_ge q h5)]
          · rw [if_neg q, if_pos (nI_le (by omega) (by omega))]
        rw [ey']
        exact ih _ _ (by omega) b4 (xt_S hF b1).1 (by split <;> omega) hQ
      rw [ix_nI (by omega), e4]
      refine ⟨hi, br_le (a := 10) (by omega) (by omega) (fun z2 => ⟨hi, ?_⟩) (fun z2 => ⟨hi, ?_⟩)⟩
      · have k2 : ¬ X.2.1 s % 2 = 0 := fun k => by unfold byM at z2; rw [if_pos k] at z2; omega
        have e1 : byM (X.2.1 s) - 10 = X.2.1 s / 2 := by unfold byM; rw [if_neg k2]; omega
        rw [lit 10, nI_sub z2, e1, ix_nI (by omega), hf _ (by omega)]
        refine ⟨vp_in_nI (by omega) (by decide), ?_⟩
        have : sxR v F (X.2.1 s) = F (X.2.1 s / 2) := by unfold sxR; rw [if_neg k2]
        rw [this] at fin
        exact fin
      · have k2 : X.2.1 s % 2 = 0 := by
          apply Decidable.byContradiction
          intro k
          unfold byM at z2
          rw [if_neg k] at z2
          omega
        have e1 : byM (X.2.1 s) = X.2.1 s / 2 := by unfold byM; rw [if_pos k2]
        rw [e1, hM.1.1]
        refine m_room hF hM (by omega) (by omega) ⟨hi, ?_⟩
        rw [e4, e1, ix_nI (by omega), hf _ (by omega)]
        refine ⟨vp_in_nI (by omega) (by decide), ?_⟩
        have : sxR v F (X.2.1 s) = xro v (X.2.1 s / 2) - F (X.2.1 s / 2) := by unfold sxR; rw [if_pos k2]
        rw [this, ← nI_sub (hl _ (by omega))] at fin
        exact fin
theorem m_spush {x2 : Int32} {k225 : HP → Prop} {Q : HP → Prop} (hF : WF m B v) (ha : a < 6) (hx : Fx v F0 X) (hI : RI v F0 a T π i X) (hxx : x ≤ 99999) : ∀ n s F h, sxK X.2.2 s < n → X.1 s ≠ 1000000 → s < vS v → HM v h → SMF v F h → SMD v a X h → sxI v F0 X a s F → sxA v X a (fun t => x ≤ sxR v F0 (X.2.1 t)) n s → FrI clsG h0 h → (∀ h', HM v h' → SMF v (sxU v X a x n s F) h' → FrI clsG h0 h' → k225 h') → f_X8_findsGains_L158 (nI a) x2 (nI x) k225 Q n (nI s) h := by
  intro n
  induction n with
  | zero => intro s F h h2; omega
  | succ n ih =>
    intro s F h h2 h3 h4 hM hf hd hi hA fr hQ
    have hL := hF.1.2.2
    have hS := hF.1.2.1
    unfold f_X8_findsGains_L158
    refine br_eq (by omega) (by omega) (fun z => ?_) (fun z => ?_)
    · have e : sxU v X a x (n + 1) s F = F := if_pos z
      rw [e] at hQ
      exact hQ h hM hf fr
    · have e : sxU v X a x (n + 1) s F = sxU v X a x n (sxP v X s) (sxC F (X.2.1 s) x) := if_neg z
      rw [e] at hQ
      obtain ⟨b1, b2, b3, b4, b5, b6⟩ := hI.2.2 s z h3
      have lt := sxK_lt (xt_6 hF b1).1 (fx_eq (m := m) (B := B) hx hI z h3).2
      have q := hA z
      have st := sxI.step (m := m) (B := B) hx hI z h3 hi q.1
      have e0 := hi.2.1 s z h3 (Nat.le_refl _)
      have hr : x ≤ sxR v F (X.2.1 s) := by
        have := q.1
        unfold sxR at this ⊢
        rw [e0]
        exact this
      have e4 : gi h 136 s = nI (byM (X.2.1 s)) := (hd s h4).2 z h3
      have hb := byM_lt hF b1
      have hv : vp_in (nI s) 6 := vp_in_nI (by omega) (by decide)
      have go : ∀ h', h' = si h 134 (X.2.1 s / 2) (nI (sxC F (X.2.1 s) x (X.2.1 s / 2))) → f_X8_findsGains_J214 (nI a) x2 (nI x) (nI s) (f_X8_findsGains_L158 (nI a) x2 (nI x) k225 Q n) Q h' := by
        intro h' e'
        have f2 : FrI clsG h h' := by rw [e']; exact FrI.si rfl
        have M2 := hM.fy f2 (by intro a k; simp only [clsG, clsY]; omega)
        unfold f_X8_findsGains_J214
        have e5 : gi h' 136 s = nI (byM (X.2.1 s)) := by rw [f2.1 _ _ (by simp only [clsG]; omega)]; exact e4
        refine m_stepBack hF M2 h4 b1 e5 ?_
        refine ih _ _ h' (by omega) b4 (xt_S hF b1).1 M2 ?_ ?_ st q.2 (fr.trans f2) hQ
        · intro l hl
          rw [e', gi_si]
          by_cases k : l = X.2.1 s / 2
          · rw [if_pos ⟨rfl, k⟩, k]
          · have oth : sxC F (X.2.1 s) x l = F l := if_neg k
            rw [if_neg (fun z => k z.2), oth]
            exact hf l hl
        · intro t ht
          rw [f2.1 _ _ (by simp only [clsG]; omega), f2.1 _ _ (by simp only [clsG]; omega)]
          exact hd t ht
      have own : sxC F (X.2.1 s) x (X.2.1 s / 2) = if X.2.1 s % 2 = 0 then F (X.2.1 s / 2) + x else F (X.2.1 s / 2) - x := if_pos rfl
      rw [ix_nI (by omega), e4]
      refine ⟨hv, br_le (a := 10) (by omega) (by omega) (fun z2 => ⟨hv, ?_⟩) (fun z2 => ⟨hv, ?_⟩)⟩
      · have k2 : ¬ X.2.1 s % 2 = 0 := fun k => by unfold byM at z2; rw [if_pos k] at z2; omega
        have e1 : byM (X.2.1 s) - 10 = X.2.1 s / 2 := by unfold byM; rw [if_neg k2]; omega
        rw [lit 10, nI_sub z2, e1, ix_nI (by omega), hf _ (by omega)]
        refine ⟨vp_in_nI (by omega) (by decide), vp_in_nI (by omega) (by decide), ?_⟩
        intro h' e'
        refine go h' ?_
        have hr' : x ≤ F (X.2.1 s / 2) := by unfold sxR at hr; rw [if_neg k2] at hr; exact hr
        rw [e', own, if_neg k2, nI_sub hr']
      · have k2 : X.2.1 s % 2 = 0 := by
          apply Decidable.byContradiction
          intro k
          unfold byM at z2
          rw [if_neg k] at z2
          omega
        have e1 : byM (X.2.1 s) = X.2.1 s / 2 := by unfold byM; rw [if_pos k2]
        rw [e1, ix_nI (by omega), hf _ (by omega)]
        refine ⟨vp_in_nI (by omega) (by decide), vp_in_nI (by omega) (by decide), ?_⟩
        intro h' e'
        refine go h' ?_
        rw [e', own, if_pos k2, nI_add]
/-- the reference shows a state -/
def SMH (v : WV) (s : XS) (h : HP) : Prop := HM v h ∧ SMF v s.1 h ∧ (∀ d, d < 121 → gi h 137 d = nI (s.2 d))
theorem m_rounds {Q : HP → Prop} (hF : WF m B v) (ha : a < vS v) (hb : b < vS v) (hab : b ≠ a) : ∀ n (s : XS) h, sxM v a s.1 ≤ n → SXI v a s → SMH v s h → SMD v a (sxX v s.1 a) h → FrI clsY h0 h → (∀ h', SMH v (sxG v a b (n + 1) s) h' → FrI clsY h0 h' → Q h') → f_X8_findsGains_L47 (nI a) (nI b) Q (n + 1) h := by
  have hS := hF.1.2.1
  intro n
  induction n with
  | zero =>
    intro s h h1 hI hH hd fr hQ
    unfold f_X8_findsGains_L47
    obtain ⟨⟨T, π, hP⟩, hl, hm⟩ := id hI
    have bd : (sxX v s.1 a).1 b ≤ 1000000 := ((RI.run hF hP 5).2.1 b).1
    rw [ix_nI (by omega), (hd b hb).1]
    refine ⟨vp_in_nI (by omega) (by decide), br_le (a := 1000000) (by omega) (by omega) (fun z => ?_) (fun z => ?_)⟩
    · have e : sxG v a b (0 + 1) s = s := if_pos (by omega)
      rw [e] at hQ
      exact hQ h hH fr
    · have nx := SXI.next hF (by omega) hab hI (by omega)
      omega
  | succ n ih =>
    intro s h h1 hI hH hd fr hQ
    unfold f_X8_findsGains_L47
    obtain ⟨⟨T, π, hP⟩, hl, hm⟩ := id hI
    have hR : RI v s.1 a T π (2 * vL v * 5) (sxX v s.1 a) := RI.run hF hP 5
    have bd : (sxX v s.1 a).1 b ≤ 1000000 := (hR.2.1 b).1
    rw [ix_nI (by omega), (hd b hb).1]
    refine ⟨vp_in_nI (by omega) (by decide), br_le (a := 1000000) (by omega) (by omega) (fun z => ?_) (fun z => ?_)⟩
    · have e : sxG v a b (n + 1 + 1) s = s := if_pos (by omega)
      rw [e] at hQ
      exact hQ h hH fr
    · have z' : (sxX v s.1 a).1 b ≠ 1000000 := by omega
      have e : sxG v a b (n + 1 + 1) s = sxG v a b (n + 1) (sxS v a b s) := if_neg z'
      rw [e] at hQ
      obtain ⟨n1, n2, n3, n4, n5, n6⟩ := SXI.next hF (by omega) hab hI z'
      have hx := sx_fx hF hP (by omega)
      have k5 := sxK_5 (t := (sxX v s.1 a).2.2) (s := b) (by omega)
      refine ⟨6, m_snarrow (k := 99999) hF (by omega) hx hR hl hH.1 hH.2.1 hd 6 b (by omega) z' hb (by omega) ?_⟩
      have hi : sxI v s.1 (sxX v s.1 a) a b s.1 := ⟨hl, fun _ _ _ _ => rfl, fun e _ q => Or.inl q⟩
      have hA : sxA v (sxX v s.1 a) a (fun t => sxQ v a b s.1 ≤ sxR v s.1 ((sxX v s.1 a).2.1 t)) 6 b := sxN_all 6 b 99999
      have vb : sxQ v a b s.1 ≤ 99999 := sxN_le 6 b 99999
      have eV : sxN v s.1 (sxX v s.1 a) a 6 b 99999 = sxQ v a b s.1 := rfl
      rw [eV]
      refine ⟨6, m_spush (h0 := h) hF (by omega) hx hR vb 6 b s.1 h (by omega) z' hb hH.1 hH.2.1 hd hi hA FrI.rf (fun h2 M2 f2 fr2 => ?_)⟩
      have d2 : gi h2 135 b = nI ((sxX v s.1 a).1 b) := by
        rw [fr2.1 _ _ (by simp only [clsG]; omega)]
        exact (hd b hb).1
      rw [d2]
      refine ⟨vp_in_nI (by omega) (by decide), vp_in_nI (by omega) (by decide), vp_in_nI (by omega) (by decide), ?_⟩
      intro h4 e4
      rw [ix_nI (by omega)] at e4
      have f4 : FrI clsY h2 h4 := by rw [e4]; exact FrI.si (by simp only [clsY]; omega)
      have fx : FrI clsY h h4 := (fr2.mono (fun a k q => by simp only [clsG] at q; simp only [clsY]; omega)).trans f4
      have M4 : HM v h4 := hH.1.fy fx (fun _ _ q => q)
      have F4 : SMF v (sxS v a b s).1 h4 := by
        intro l hl2
        rw [e4, gi_si, if_neg (by omega)]
        exact f2 l hl2
      obtain ⟨⟨T2, π2, hP2⟩, hl2, hm2⟩ := id n1
      refine m_measures hF hP2 ha hl2 M4 F4 (fun h5 M5 F5 D5 fr5 => ?_)
      have fx5 : FrI clsY h4 h5 := fr5.mono (fun a k q => by simp only [clsE] at q; simp only [clsY]; omega)
      refine ih (sxS v a b s) h5 (by omega) n1 ⟨M5, F5, fun d hd2 => ?_⟩ D5 (fr.trans (fx.trans fx5)) hQ
      rw [fr5.1 _ _ (by simp only [clsE]; omega)]
      show gi h4 137 d = nI (xup s.2 ((sxX v s.1 a).1 b) (s.2 ((sxX v s.1 a).1 b) + sxQ v a b s.1) d)
      have g137 : ∀ d, d < 121 → gi h2 137 d = nI (s.2 d) := fun d hd => by
        rw [fr2.1 _ _ (by simp only [clsG]; omega)]
        exact hH.2.2 d hd
      rw [e4, gi_si]
      unfold xup
      by_cases q : d = (sxX v s.1 a).1 b
      · rw [if_pos ⟨rfl, q⟩, if_pos q, g137 _ (by omega), nI_add]
      · rw [if_neg (fun z => q z.2), if_neg q]; exact g137 d hd2
theorem m_findsGains {Q : HP → Prop} (hF : WF m B v) (hM : HM v h) (ha : a < vS v) (hb : b < vS v) (hab : b ≠ a)
    (hQ : ∀ h', HM v h' → (∀ d, d < 121 → gi h' 137 d = nI (sgnV v a b d)) → FrI clsY h h' → Q h') : f_X8_findsGains (nI a) (nI b) h Q := by
  have hL := hF.1.2.2
  unfold f_X8_findsGains
  refine loop_up (L := fun f l => ∀ h', FrI clsY h h' → (∀ l', l' < l → gi h' 134 l' = nI 0) → f_X8_findsGains_L2 (nI a) (nI b) (fun h5 => ∃ n53, f_X8_findsGains_L23 (nI a) (nI b) (fun h10 => f_X8_measures (nI a) h10 (fun h11 => ∃ n52, f_X8_findsGains_L47 (nI a) (nI b) Q n52 h11)) Q n53 0 h5) Q f (nI l) h') 10 0 (by omega) (fun f => ?_) (fun l f _ hl ih => ?_) |>.imp (fun n q => q h FrI.rf (fun _ z => by omega))
  · intro h1 fr1 g1
    unfold f_X8_findsGains_L2
    refine br_le (a := 10) (by omega) (by omega) (fun _ => ?_) (fun z => by omega)
    refine loop_up (L := fun f d => ∀ h', FrI clsY h h' → (∀ l', l' < 10 → gi h' 134 l' = nI 0) → (∀ d', d' < d → gi h' 137 d' = nI 0) → f_X8_findsGains_L23 (nI a) (nI b) (fun h10 => f_X8_measures (nI a) h10 (fun h11 => ∃ n52, f_X8_findsGains_L47 (nI a) (nI b) Q n52 h11)) Q f (nI d) h') 121 0 (by omega) (fun f => ?_) (fun d f _ hd ih => ?_) |>.imp (fun n q => q h1 fr1 g1 (fun _ z => by omega))
    · intro h2 fr2 g2 g3
      unfold f_X8_findsGains_L23
      refine br_le (a := 121) (by omega) (by omega) (fun _ => ?_) (fun z => by omega)
      have M2 := hM.fy fr2 (fun _ _ q => q)
      have I0 := SXI.start (a := a) hF
      obtain ⟨⟨T, π, hP⟩, hl0, hm0⟩ := id I0
      refine m_measures (F := fun _ => 0) hF hP ha hl0 M2 (fun l hl => g2 l (by omega)) (fun h5 M5 F5 D5 fr5 => ?_)
      have fx5 : FrI clsY h2 h5 := fr5.mono (fun a k q => by simp only [clsE] at q; simp only [clsY]; omega)
      refine ⟨3001, m_rounds (h0 := h) (s := (fun _ => 0, fun _ => 0)) hF ha hb hab 3000 h5 (by omega) I0 ⟨M5, F5, fun d hd => ?_⟩ D5 (fr2.trans fx5) (fun h6 s6 f6 => ?_)⟩
      · rw [fr5.1 _ _ (by simp only [clsE]; omega)]
        exact g3 d hd
      · exact hQ h6 s6.1 s6.2.2 f6
    · intro h2 fr2 g2 g3
      unfold f_X8_findsGains_L23
      refine br_le (a := 121) (by omega) (by omega) (fun z => by omega) (fun _ => ⟨vp_in_nI (by omega) (by decide), ?_⟩)
      intro h3 e3 y ey
      rw [ix_nI (by omega)] at e3
      rw [ey, nI_1]
      refine ih h3 (fr2.trans (by rw [e3]; exact FrI.si (by simp only [clsY]; omega))) (fun l' hl' => ?_) (fun d' hd' => ?_)
      · rw [e3, gi_si, if_neg (by omega)]; exact g2 l' hl'
      · rw [e3, gi_si]
        by_cases q : d' = d
        · rw [if_pos ⟨rfl, q⟩]; rfl
        · rw [if_neg (fun z => q z.2)]; exact g3 d' (by omega)
  · intro h1 fr1 g1
    unfold f_X8_findsGains_L2
    refine br_le (a := 10) (by omega) (by omega) (fun z => by omega) (fun _ => ⟨vp_in_nI (by omega) (by decide), ?_⟩)
    intro h3 e3 y ey
    rw [ix_nI (by omega)] at e3
    rw [ey, nI_1]
    refine ih h3 (fr1.trans (by rw [e3]; exact FrI.si (by simp only [clsY]; omega))) (fun l' hl' => ?_)
    rw [e3, gi_si]
    by_cases q : l' = l
    · rw [if_pos ⟨rfl, q⟩]; rfl
    · rw [if_neg (fun z => q z.2)]; exact g1 l' (by omega)
end Str
