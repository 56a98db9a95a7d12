/-! plans -/
def ntL (x : Int64) : Nat := x.toInt.toNat
/-- the threes of a tick, up to k: one more than the three that fails, or 0; the world then -/
noncomputable def sdF (r : Nat → Int64) (i : Nat) (v : WV) : Nat → Nat × WV
  | 0 => (0, v)
  | k + 1 => by
    classical exact if (sdF r i v k).1 ≠ 0 then sdF r i v k else if r (3 * k + 1) = lN i then (if Can (sdF r i v k).2 (r (3 * k)) (r (3 * k + 2)) then (0, sendV (sdF r i v k).2 (ntL (r (3 * k))) (ntL (r (3 * k + 2)))) else (k + 1, (sdF r i v k).2)) else sdF r i v k
/-- so many ticks by a plan -/
noncomputable def plF (r : Nat → Int64) (K : Nat) (v : WV) : Nat → Nat × WV
  | 0 => (0, v)
  | i + 1 => if (plF r K v i).1 ≠ 0 then plF r K v i else if (sdF r i (plF r K v i).2 K).1 ≠ 0 then sdF r i (plF r K v i).2 K else (0, tickV (sdF r i (plF r K v i).2 K).2)
theorem sdF_s {r : Nat → Int64} {i : Nat} {v : WV} {k : Nat} : ((sdF r i v k).1 ≠ 0 → sdF r i v (k + 1) = sdF r i v k) ∧ ((sdF r i v k).1 = 0 → (r (3 * k + 1) ≠ lN i → sdF r i v (k + 1) = sdF r i v k) ∧ (r (3 * k + 1) = lN i → (Can (sdF r i v k).2 (r (3 * k)) (r (3 * k + 2)) → sdF r i v (k + 1) = (0, sendV (sdF r i v k).2 (ntL (r (3 * k))) (ntL (r (3 * k + 2))))) ∧ (¬ Can (sdF r i v k).2 (r (3 * k)) (r (3 * k + 2)) → sdF r i v (k + 1) = (k + 1, (sdF r i v k).2)))) := by
  refine ⟨fun z => ?_, fun z => ⟨fun z1 => ?_, fun z1 => ⟨fun z2 => ?_, fun z2 => ?_⟩⟩⟩
  · show (if _ then _ else _) = _
    rw [if_pos z]
  · show (if _ then _ else _) = _
    rw [if_neg (fun q => q z), if_neg z1]
  · show (if _ then _ else _) = _
    rw [if_neg (fun q => q z), if_pos z1, if_pos z2]
  · show (if _ then _ else _) = _
    rw [if_neg (fun q => q z), if_pos z1, if_neg z2]
theorem ntL_lN {n : Nat} (h : n < 2 ^ 31) : ntL (lN n) = n := by unfold ntL; rw [lN_toInt h]; rfl
theorem can_nt {m B : Nat} {v : WV} {x y : Int64} (hF : WF m B v) (h : Can v x y) : CanV v (ntL x) (ntL y) ∧ x = lN (ntL x) ∧ y = lN (ntL y) := by
  obtain ⟨l, a, e1, e2, q⟩ := h
  have b := can_b hF l a q
  rw [e1, e2, ntL_lN b.1, ntL_lN b.2]
  exact ⟨q, rfl, rfl⟩
theorem WF_sd {m B : Nat} {r : Nat → Int64} {i : Nat} {v : WV} (hF : WF m B v) : ∀ k, WF m B (sdF r i v k).2 ∧ vT (sdF r i v k).2 = vT v ∧ vS (sdF r i v k).2 = vS v ∧ vL (sdF r i v k).2 = vL v ∧ (sdF r i v k).1 ≤ k
  | 0 => ⟨hF, rfl, rfl, rfl, Nat.le_refl _⟩
  | k + 1 => by
    have ih := WF_sd (r := r) (i := i) hF k
    have s := sdF_s (r := r) (i := i) (v := v) (k := k)
    by_cases z : (sdF r i v k).1 = 0
    · by_cases z1 : r (3 * k + 1) = lN i
      · by_cases z2 : Can (sdF r i v k).2 (r (3 * k)) (r (3 * k + 2))
        · rw [((s.2 z).2 z1).1 z2]
          exact ⟨WF_send ih.1 (can_nt ih.1 z2).1, ih.2.1, ih.2.2.1, ih.2.2.2.1, Nat.zero_le _⟩
        · rw [((s.2 z).2 z1).2 z2]
          exact ⟨ih.1, ih.2.1, ih.2.2.1, ih.2.2.2.1, Nat.le_refl _⟩
      · rw [(s.2 z).1 z1]
        exact ⟨ih.1, ih.2.1, ih.2.2.1, ih.2.2.2.1, by omega⟩
    · rw [s.1 z]
      exact ⟨ih.1, ih.2.1, ih.2.2.1, ih.2.2.2.1, by omega⟩
theorem vS_tick (v : WV) : vS (tickV v) = vS v ∧ vL (tickV v) = vL v := by
  have h1 := itB_1 (setT (itA v (vS v)) (vT v + 1)) (vL v)
  have h2 := itA_1 v (vS v)
  exact ⟨h1.2.1.trans h2.2.1, h1.2.2.1.trans h2.2.2.1⟩
theorem WF_pl {m B : Nat} {r : Nat → Int64} {K : Nat} {v : WV} (hF : WF m B v) : ∀ i, vT v + i ≤ 100100 → WF m B (plF r K v i).2 ∧ vT (plF r K v i).2 ≤ vT v + i ∧ vS (plF r K v i).2 = vS v ∧ vL (plF r K v i).2 = vL v ∧ (plF r K v i).1 ≤ K
  | 0, _ => ⟨hF, Nat.le_refl _, rfl, rfl, Nat.zero_le _⟩
  | i + 1, h => by
    have ih := WF_pl (r := r) (K := K) hF i (by omega)
    have s := WF_sd (r := r) (i := i) ih.1 K
    unfold plF
    split
    · exact ⟨ih.1, by omega, ih.2.2.1, ih.2.2.2.1, ih.2.2.2.2⟩
    · split
      · exact ⟨s.1, by omega, s.2.2.1.trans ih.2.2.1, s.2.2.2.1.trans ih.2.2.2.1, s.2.2.2.2⟩
      · have t := vS_tick (sdF r i (plF r K v i).2 K).2
        refine ⟨WF_tick s.1 (by omega), ?_, t.1.trans (s.2.2.1.trans ih.2.2.1), t.2.trans (s.2.2.2.1.trans ih.2.2.2.1), Nat.zero_le _⟩
        show vT (tickV (sdF r i (plF r K v i).2 K).2) ≤ _
        rw [vT_tick]; omega
theorem pl_stay {r : Nat → Int64} {K : Nat} {v : WV} (i d : Nat) (q : (plF r K v i).1 ≠ 0) : plF r K v (i + d) = plF r K v i := by
  induction d with
  | zero => rfl
  | succ d ihd =>
    show (if (plF r K v (i + d)).1 ≠ 0 then plF r K v (i + d) else _) = _
    rw [if_pos (by rw [ihd]; exact q), ihd]
section Ops
variable {c : Nat} {σ : ST} {h : HP} {Q : Int32 → HP → Prop}
theorem c_follow {m B n a z : Nat} {v : WV} {r : Nat → Int64} (hF : WF m B v) (hC : HC 59 v h) (hT : vT v + n ≤ 100100) (hn : n ≤ 24) (ha : 109 ≤ a ∧ a ≤ 115) (hz : gi h a 2 = nI z) (hz2 : z ≤ 40) (hr : ∀ i, i < 40 → gl h (a + 1) i = r i)
    (hQ : ∀ h', HC 59 (plF r (z / 3) v n).2 h' → FrI (cellsC 59) h h' → Q (cd (plF r (z / 3) v n).1) h') : f_X6_follow 59 a (nI n) h Q := by
  unfold f_X6_follow
  intro x3 e3
  rw [hz, lit 3, nI_div (by omega) (by omega) (by omega)] at e3
  rw [e3]
  generalize hK : z / 3 = K at *
  have key := loop_up (L := fun f i => ∀ h1, (plF r K v i).1 = 0 → HC 59 (plF r K v i).2 h1 → FrI (cellsC 59) h h1 → f_X6_follow_L10 59 a (nI n) (nI K) Q f (nI i) h1) n 0 (by omega) (fun f h1 k1 k2 k3 => ?_) (fun i f _ hi ih h1 k1 k2 k3 => ?_)
  · obtain ⟨f, hf⟩ := key
    exact ⟨f, hf h rfl hC FrI.rf⟩
  · unfold f_X6_follow_L10
    refine br_le (by omega) (by omega) (fun _ => ?_) (fun z => by omega)
    have := hQ h1 k2 k3
    rw [k1, cd_0] at this
    exact this
  · unfold f_X6_follow_L10
    refine br_le (by omega) (by omega) (fun z => by omega) (fun _ => ?_)
    have W := WF_pl (r := r) (K := K) hF i (by omega)
    have pl1 : plF r K v (i + 1) = if (sdF r i (plF r K v i).2 K).1 ≠ 0 then sdF r i (plF r K v i).2 K else (0, tickV (sdF r i (plF r K v i).2 K).2) := by
      show (if _ then _ else _) = _
      rw [if_neg (fun q => q k1)]
    have key2 := loop_up (L := fun f2 k => ∀ h2, (sdF r i (plF r K v i).2 k).1 = 0 → HC 59 (sdF r i (plF r K v i).2 k).2 h2 → FrI (cellsC 59) h h2 → f_X6_follow_L19 59 a (nI n) (nI K) (nI i) (fun h16 => f_X6_passTick 59 h16 (fun h17 => ∀ x4_18 : Int32, x4_18 = (nI i + 1) → f_X6_follow_L10 59 a (nI n) (nI K) Q f x4_18 h17)) Q f2 (nI k) h2) K 0 (by omega) (fun f2 h2 j1 j2 j3 => ?_) (fun k f2 _ hk ih2 h2 j1 j2 j3 => ?_)
    · obtain ⟨f2, hf2⟩ := key2
      exact ⟨f2, hf2 h1 rfl k2 k3⟩
    · unfold f_X6_follow_L19
      refine br_le (by omega) (by omega) (fun _ => ?_) (fun z => by omega)
      have s := WF_sd (r := r) (i := i) W.1 K
      refine c_passTick s.1 j2 (by omega) (fun h3 C f3 => ?_)
      intro x ex
      rw [ex, nI_1]
      rw [if_neg (fun q => q j1)] at pl1
      exact ih h3 (by rw [pl1]) (by rw [pl1]; exact C) (j3.trans f3)
    · unfold f_X6_follow_L19
      have s := WF_sd (r := r) (i := i) W.1 k
      have ss := sdF_s (r := r) (i := i) (v := (plF r K v i).2) (k := k)
      have g : ∀ j, j < 40 → gl h2 (a + 1) j = r j := fun j hj => by rw [j3.2.1]; exact hr j hj
      rw [lit 3, nI_mul, nI_1 (3 * k), show (nI (3 * k) + 2 : Int32) = nI (3 * k + 2) from nI_add _ 2, ix_nI (by omega), ix_nI (by omega), ix_nI (by omega), g _ (by omega), g _ (by omega), g _ (by omega), nI_l (show i < 2 ^ 31 by omega)]
      refine br_le (by omega) (by omega) (fun z => by omega) (fun _ => ⟨vp_in_nI (by omega) (by decide), ?_⟩)
      intro x6 e6
      by_cases z1 : r (3 * k + 1) = lN i
      · rw [if_pos ((cmp_eq _ _).mpr z1)] at e6
        rw [e6]
        refine br_f (by decide +kernel) ⟨vp_in_nI (by omega) (by decide), vp_in_nI (by omega) (by decide), ?_⟩
        refine c_dispatch s.1 j2 _ _ (fun q => br0 ?_) (fun l' a' el ea q h3 C f3 => br1 ?_)
        · -- fails
          have e1 := ((ss.2 j1).2 z1).2 q
          have tot : sdF r i (plF r K v i).2 K = sdF r i (plF r K v i).2 (k + 1) := by
            have st : ∀ d, sdF r i (plF r K v i).2 (k + 1 + d) = sdF r i (plF r K v i).2 (k + 1) := by
              intro d
              induction d with
              | zero => rfl
              | succ d ihd =>
                have := (sdF_s (r := r) (i := i) (v := (plF r K v i).2) (k := k + 1 + d)).1 (by rw [ihd, e1]; show k + 1 ≠ 0; omega)
                exact this.trans ihd
            have := st (K - (k + 1))
            rw [show k + 1 + (K - (k + 1)) = K by omega] at this
            exact this
          rw [if_pos (by rw [tot, e1]; show k + 1 ≠ 0; omega), tot, e1] at pl1
          have fin := pl_stay (i + 1) (n - (i + 1)) (by rw [pl1]; show k + 1 ≠ 0; omega)
          rw [show i + 1 + (n - (i + 1)) = n by omega, pl1] at fin
          have := hQ h2 (by rw [fin]; exact j2) j3
          rw [fin, cd_s] at this
          exact this
        · have cq : Can (sdF r i (plF r K v i).2 k).2 (r (3 * k)) (r (3 * k + 2)) := ⟨l', a', el, ea, q⟩
          have e1 := ((ss.2 j1).2 z1).1 cq
          have cn := can_nt s.1 cq
          have b := can_b s.1 l' a' q
          have q1 : l' = ntL (r (3 * k)) := by rw [el, ntL_lN b.1]
          have q2 : a' = ntL (r (3 * k + 2)) := by rw [ea, ntL_lN b.2]
          rw [q1, q2] at C
          intro x ex
          rw [ex, nI_1 k]
          exact ih2 h3 (by rw [e1]) (by rw [e1]; exact C) (j3.trans f3)
      · rw [if_neg (fun q => z1 ((cmp_eq _ _).mp q))] at e6
        rw [e6]
        refine br_t rfl ?_
        intro x ex
        rw [ex, nI_1 k]
        have e1 := (ss.2 j1).1 z1
        exact ih2 h2 (by rw [e1]; exact j1) (by rw [e1]; exact j2) j3
theorem in_lines {n : Nat} {x : Int64} (hn : n ≤ 10) (h1 : (∃ l, l < n ∧ x = lN l) → Q 1 h) (h0 : ¬ (∃ l, l < n ∧ x = lN l) → Q 0 h) : f_X8_in x (0 : Int64) ((nI n - 1).toInt64) h Q := by
  apply t_in
  have e : ((0 : Int64) ≤ x ∧ x ≤ (nI n - 1).toInt64) ↔ ∃ l, l < n ∧ x = lN l := by
    rw [i64_le, i64_le, i64_0, w_toInt, nI_pre (by omega)]
    constructor
    · intro q
      exact ⟨x.toInt.toNat, by omega, lN_of (by omega) (by omega)⟩
    · rintro ⟨l, l1, rfl⟩
      rw [lN_toInt (by omega)]; omega
  by_cases q : ∃ l, l < n ∧ x = lN l
  · rw [if_pos (e.mpr q)]; exact h1 q
  · rw [if_neg (fun z => q (e.mp z))]; exact h0 q
theorem m_sendsAll {m B s i z : Nat} {v : WV} {r : Nat → Int64} (hF : WF m B v) (hM : HM v h) (hi : i ≤ 24) (hs : s < 4) (hz : gi h 141 s = nI z) (hz2 : z ≤ 40) (hr : ∀ k, k < 40 → gl h 142 (40 * s + k) = r k)
    (hQ : ∀ h', HM (sdF r i v (z / 3)).2 h' → FrI cellsM h h' → Q (cd (sdF r i v (z / 3)).1) h') : f_X8_sendsAll (nI s) (nI i) h Q := by
  unfold f_X8_sendsAll
  generalize hK : z / 3 = K at *
  have key := loop_up (L := fun f k => ∀ h2, (sdF r i v k).1 = 0 → HM (sdF r i v k).2 h2 → FrI cellsM h h2 → f_X8_sendsAll_L2 (nI s) (nI i) Q f (nI k) h2) K 0 (by omega) (fun f2 h2 j1 j2 j3 => ?_) (fun k f2 _ hk ih2 h2 j1 j2 j3 => ?_)
  · obtain ⟨f2, hf2⟩ := key
    exact ⟨f2, hf2 h rfl hM FrI.rf⟩
  · unfold f_X8_sendsAll_L2
    rw [ix_nI (by omega), j3.1 _ _ (by simp only [cellsM]; omega), hz, lit 3, nI_mul, lit 2, nI_add]
    refine ⟨vp_in_nI hs (by decide), br_le (by omega) (by omega) (fun _ => ?_) (fun z => by omega)⟩
    have := hQ h2 j2 j3
    rw [j1, cd_0] at this
    exact this
  · unfold f_X8_sendsAll_L2
    have s' := WF_sd (r := r) (i := i) hF k
    have ss := sdF_s (r := r) (i := i) (v := v) (k := k)
    rw [ix_nI (by omega), j3.1 _ _ (by simp only [cellsM]; omega), hz, lit 3, nI_mul, lit 2, nI_add]
    refine ⟨vp_in_nI hs (by decide), br_le (by omega) (by omega) (fun z => by omega) (fun _ => ?_)⟩
    intro x4 e4
    rw [lit 40, nI_mul, nI_add] at e4
    have g : ∀ j, j < 40 → gl h2 142 (40 * s + j) = r j := fun j hj => by rw [j3.2.1]; exact hr j hj
    rw [e4, lit 1, nI_add, nI_add, ix_nI (by omega), ix_nI (by omega), ix_nI (by omega), Nat.add_assoc, Nat.add_assoc, g _ (by omega), g _ (by omega), nI_l (show i < 2 ^ 31 by omega), nI_add]
    refine ⟨vp_in_nI (by omega) (by decide), ?_⟩
    simp only [cmp_eq]
    -- what a three that fails shows
    have bad : r (3 * k + 1) = lN i → ¬ Can (sdF r i v k).2 (r (3 * k)) (r (3 * k + 2)) → Q (nI k) h2 := by
      intro z1 q
      have e1 := ((ss.2 j1).2 z1).2 q
      have st : ∀ d, sdF r i v (k + 1 + d) = sdF r i v (k + 1) := by
        intro d
        induction d with
        | zero => rfl
        | succ d ihd =>
          have := (sdF_s (r := r) (i := i) (v := v) (k := k + 1 + d)).1 (by rw [ihd, e1]; show k + 1 ≠ 0; omega)
          exact this.trans ihd
      have tot := st (K - (k + 1))
      rw [show k + 1 + (K - (k + 1)) = K by omega, e1] at tot
      have := hQ h2 (by rw [tot]; exact j2) j3
      rw [tot, cd_s] at this
      exact this
    refine ⟨fun z1 => ⟨vp_in_nI (by omega) (by decide), ?_⟩, fun z1 => ?_⟩
    · intro x5 e5
      rw [e5, j2.1.2.2.2]
      have L10 := s'.1.1
      refine in_lines L10.2.2 (fun q => br1 ⟨vp_in_nI (by omega) (by decide), ?_⟩) (fun q => br0 (bad z1 (fun q2 => ?_)))
      · obtain ⟨l, l1, l2⟩ := q
        rw [l2, lN_i, g _ (by omega)]
        refine m_canSend s'.1 j2 l1 _ (fun q => br0 (bad z1 (by rw [l2]; exact q))) (fun a ea q => br1 ⟨vp_in_nI (by omega) (by decide), ?_⟩)
        have b := can_b s'.1 l a q
        have ea' : (r (3 * k + 2)).toInt32 = nI a := by rw [ea, lN_i]
        rw [g _ (by omega), ea']
        refine m_sends s'.1 j2 q (fun h3 C f3 => ?_)
        have cq : Can (sdF r i v k).2 (r (3 * k)) (r (3 * k + 2)) := ⟨l, a, l2, ea, q⟩
        have e1 := ((ss.2 j1).2 z1).1 cq
        have q1 : l = ntL (r (3 * k)) := by rw [l2, ntL_lN b.1]
        have q2 : a = ntL (r (3 * k + 2)) := by rw [ea, ntL_lN b.2]
        rw [q1, q2] at C
        intro x ex
        rw [ex]
        exact ih2 h3 (by rw [e1]) (by rw [e1]; exact C) (j3.trans f3)
      · obtain ⟨l, a, e1, e2, q3⟩ := q2
        exact q ⟨l, q3.1, e1⟩
    · intro x ex
      rw [ex]
      have e1 := (ss.2 j1).1 z1
      exact ih2 h2 (by rw [e1]; exact j1) (by rw [e1]; exact j2) j3
theorem m_goesBy {m B s n z : Nat} {v : WV} {r : Nat → Int64} (hF : WF m B v) (hM : HM v h) (hT : vT v + n ≤ 100100) (hn : n ≤ 24) (hs : s < 4) (hz : gi h 141 s = nI z) (hz2 : z ≤ 40) (hr : ∀ k, k < 40 → gl h 142 (40 * s + k) = r k)
    (hQ : ∀ h', HM (plF r (z / 3) v n).2 h' → FrI cellsM h h' → Q (cd (plF r (z / 3) v n).1) h') : f_X8_goesBy (nI s) (nI n) h Q := by
  unfold f_X8_goesBy
  have key := loop_up (L := fun f i => ∀ h1, HM (plF r (z / 3) v i).2 h1 → FrI cellsM h h1 → f_X8_goesBy_L5 (nI s) (nI n) Q f (cd (plF r (z / 3) v i).1) (nI i) h1) n 0 (by omega) (fun f h1 k2 k3 => ?_) (fun i f _ hi ih h1 k2 k3 => ?_)
  · obtain ⟨f, hf⟩ := key
    exact ⟨f, hf h hM FrI.rf⟩
  · unfold f_X8_goesBy_L5
    exact br_le (by omega) (by omega) (fun _ => hQ h1 k2 k3) (fun z => by omega)
  · unfold f_X8_goesBy_L5
    refine br_le (by omega) (by omega) (fun z => by omega) (fun _ => ?_)
    have W := WF_pl (r := r) (K := z / 3) hF i (by omega)
    by_cases k1 : (plF r (z / 3) v i).1 = 0
    · rw [k1, cd_0]
      refine br_f (by decide +kernel) ?_
      refine m_sendsAll (r := r) W.1 k2 (by omega) hs (by rw [k3.1 _ _ (by simp only [cellsM]; omega)]; exact hz) hz2 (fun k hk => by rw [k3.2.1]; exact hr k hk) (fun h2 M2 f2 => ?_)
      have pl1 : plF r (z / 3) v (i + 1) = if (sdF r i (plF r (z / 3) v i).2 (z / 3)).1 ≠ 0 then sdF r i (plF r (z / 3) v i).2 (z / 3) else (0, tickV (sdF r i (plF r (z / 3) v i).2 (z / 3)).2) := by
        show (if _ then _ else _) = _
        rw [if_neg (fun q => q k1)]
      have s' := WF_sd (r := r) (i := i) W.1 (z / 3)
      by_cases q : (sdF r i (plF r (z / 3) v i).2 (z / 3)).1 = 0
      · rw [q, cd_0]
        refine br_f (by decide +kernel) ?_
        refine m_oneTick s'.1 M2 (by omega) (fun h3 M3 f3 => ?_)
        intro x ex
        rw [ex, nI_1]
        rw [if_neg (fun q2 => q2 q)] at pl1
        have := ih h3 (by rw [pl1]; exact M3) ((k3.trans f2).trans f3)
        rw [pl1, cd_0] at this
        exact this
      · rw [if_pos q] at pl1
        obtain ⟨y, hy⟩ : ∃ y, (sdF r i (plF r (z / 3) v i).2 (z / 3)).1 = y + 1 := ⟨(sdF r i (plF r (z / 3) v i).2 (z / 3)).1 - 1, by omega⟩
        rw [hy, cd_s]
        refine br_t (nI_ge0 (by omega)) ?_
        intro x ex
        rw [ex, nI_1]
        have := ih h2 (by rw [pl1]; exact M2) (k3.trans f2)
        rw [pl1, hy, cd_s] at this
        exact this
    · have fin := pl_stay i (n - i) k1
      rw [show i + (n - i) = n by omega] at fin
      have := hQ h1 (by rw [fin]; exact k2) k3
      rw [fin] at this
      obtain ⟨y, hy⟩ : ∃ y, (plF r (z / 3) v i).1 = y + 1 := ⟨(plF r (z / 3) v i).1 - 1, by omega⟩
      rw [hy, cd_s] at this ⊢
      exact br_t (nI_ge0 (by omega)) this
end Ops
