/-! the constructors of a world and of the class -/
def WKd (w : Nat) : Prop := (kd w = 6 ∧ kd (w + 1) = 13 ∧ kn (w + 1) = 6 ∧ kd (w + 2) = 14 ∧ kn (w + 2) = 10) ∧ (∀ j, j < 6 → kd (w + 3 + j) = 3) ∧ ∀ l, l < 10 → kd (w + 9 + 2 * l) = 0 ∧ kd (w + 9 + 2 * l + 1) = 10 ∧ kn (w + 9 + 2 * l + 1) = 16
theorem wkd_1 : WKd 1 := ⟨by decide +kernel, by decide +kernel, by decide +kernel⟩
theorem wkd_2 : WKd 30 := ⟨by decide +kernel, by decide +kernel, by decide +kernel⟩
theorem wkd_3 : WKd 59 := ⟨by decide +kernel, by decide +kernel, by decide +kernel⟩
section Ini
variable {g : GE} {q q0 : PG} {h : HP} {N0 : Nat}
theorem wc_pad {d : MD} {N1 n pc : Nat} {x : Value} {st : List Value} {Q : Nat → List (Option Value) → PG → HP → Prop} (k : Wc g d N0 N1 n pc [some x, none] st q h Q) : Wc g d N0 N1 n pc [some x] st q h Q := by
  intro hn p e R s m args below meth c Qf X r1 r2 RET H locs lsr hR hL hV
  refine k hn p e R s m args below meth c Qf X r1 r2 RET H locs lsr hR hL ⟨hV.1, hV.2.1, fun i v hi => ?_⟩
  match i, hi with
  | 0, hi => exact hV.2.2 0 v hi
  | 1, hi => simp at hi
  | i + 2, hi => simp at hi
/-- behind j lines -/
def WL2 (w : Nat) (q0 q : PG) (j : Nat) : Prop := (q w = 6 ∧ q (w + 1) = 6 ∧ q (w + 2) = j) ∧ (∀ l, l < j → 10 ≤ q (w + 9 + 2 * l)) ∧ ∀ i, i < w → q i = q0 i
theorem k_World2 {w : Nat} (hk : WKd w) (hw : w + 29 ≤ 146) (hz : ZH h) : ∀ r j q, j + r = 10 → WL2 w q0 q j → Wc g mX6_init (w + 1) (w + 29) (w + 9 + 2 * j) 51 [some (.ref w), some (.int (nI j))] [] q h (rtC mX6_init (KQ w (w + 29) q0 h)) := by
  intro r
  induction r with
  | zero =>
    intro j q hj hq
    obtain ⟨⟨q1, q2, q3⟩, q4, q5⟩ := hq
    obtain ⟨⟨k1, k2, k3, k4, k5⟩, k6, k7⟩ := hk
    have ej : j = 10 := by omega
    subst ej
    refine wc_iload_n 1 52 (by decide +kernel) rfl rfl (by omega) ?_
    refine wc_bipush 10 54 (by decide +kernel : decode cX6_init 52 = .ok (.bipush 10, 2)) rfl (by decide +kernel) (by omega) ?_
    refine wc_icmp_ge 57 76 (by decide +kernel : decode cX6_init 54 = .ok (.if_icmp .ge 22, 3)) (by decide) rfl (fun _ => ?_) (fun z => absurd (by decide +kernel : (10 : Int32) ≤ nI 10) z)
    refine wc_end ⟨by decide +kernel, rfl, q5, fun i h1 h2 => ?_⟩
    by_cases z0 : i = w
    · rw [z0, q1]; unfold need; rw [k1]; exact Nat.le_of_ble_eq_true rfl
    · by_cases z1 : i = w + 1
      · rw [z1, q2]; unfold need; rw [k2, k3]; exact Nat.le_of_ble_eq_true rfl
      · by_cases z2 : i = w + 2
        · rw [z2, q3]; unfold need; rw [k4, k5]; exact Nat.le_of_ble_eq_true rfl
        · by_cases z3 : i < w + 9
          · have := k6 (i - (w + 3)) (by omega)
            rw [show w + 3 + (i - (w + 3)) = i by omega] at this
            unfold need
            rw [this]
            exact Nat.zero_le _
          · have kl := k7 ((i - (w + 9)) / 2) (by omega)
            by_cases z4 : (i - (w + 9)) % 2 = 0
            · have ql := q4 ((i - (w + 9)) / 2) (by omega)
              rw [show w + 9 + 2 * ((i - (w + 9)) / 2) = i by omega] at ql kl
              unfold need
              rw [kl.1]
              exact ql
            · rw [show w + 9 + 2 * ((i - (w + 9)) / 2) + 1 = i by omega] at kl
              rw [need_row (Or.inl kl.2.1)]
              exact Nat.zero_le _
  | succ r ih =>
    intro j q hj hq
    obtain ⟨⟨q1, q2, q3⟩, q4, q5⟩ := hq
    obtain ⟨⟨k1, k2, k3, k4, k5⟩, k6, k7⟩ := id hk
    have kl := k7 j (by omega)
    refine wc_iload_n 1 52 (by decide +kernel) rfl rfl (by omega) ?_
    refine wc_bipush 10 54 (by decide +kernel : decode cX6_init 52 = .ok (.bipush 10, 2)) rfl (by decide +kernel) (by omega) ?_
    refine wc_icmp_ge 57 76 (by decide +kernel : decode cX6_init 54 = .ok (.if_icmp .ge 22, 3)) (by decide) rfl (fun z => absurd ((nI_leI (a := 10) (by omega) (by omega)).mp z) (by omega)) (fun _ => ?_)
    refine wc_aload_n 0 58 (by decide +kernel) rfl rfl (by omega) ?_
    refine wc_getr 6 5 2 (w + 2) 61 fl_RX6_19 (by decide +kernel) rfl k1 (by omega) rfl (by omega) rfl (by omega) (by omega) (by omega) ?_
    refine wc_iload_n 1 62 (by decide +kernel) rfl rfl (by omega) ?_
    refine wc_new 0 _ 65 rfl ck_RX6_17 ib_X0 iz_X0 (by decide +kernel) rfl kl.1 (fun k => hz.1 _ k) (by omega) (by omega) ?_
    refine wc_dup 66 (by decide +kernel) rfl rfl (by omega) ?_
    refine wc_call mX0_init (w + 9 + 2 * j + 1 + 1) (KQ (w + 9 + 2 * j) (w + 9 + 2 * j + 1 + 1) (upP q (w + 9 + 2 * j) 0) h) 69 mo_X0_init rfl rfl (by decide) np_X0_init mi_RX6_24 im_X0_init (by decide) (by decide +kernel) rfl (Nat.le_of_ble_eq_true rfl) (by omega) (by omega) (by omega) (k_Line kl.1 kl.2.1 kl.2.2 (by omega) upP_s hz) ?_
    intro q' h' hQ
    obtain ⟨rfl, c1, c2⟩ := hQ
    have e0 : ∀ i, i < w + 9 + 2 * j → q' i = q i := fun i hi => by rw [c1 i hi, upP_n (by omega)]
    have e10 : 10 ≤ q' (w + 9 + 2 * j) := by
      have := c2 (w + 9 + 2 * j) (Nat.le_refl _) (by omega)
      unfold need at this
      rw [kl.1] at this
      exact this
    refine wc_aast 4 0 70 k4 (Or.inr (Or.inl ⟨rfl, rfl⟩)) (by rw [e0 _ (by omega)]; exact q3) (by rw [k5]; omega) ?_ kl.1 (by omega) (by omega) (by omega) (by decide +kernel) rfl (by omega) ?_
    · unfold rfA
      rw [k4, if_neg (by decide), if_pos rfl]
    · refine wc_iinc 1 (nI (j + 1)) 73 [some (.ref w), some (.int (nI (j + 1)))] (by decide +kernel : decode cX6_init 70 = .ok (.iinc 1 1, 3)) rfl (by decide) rfl (nI_1 j) (okS_spec rfl) rfl (by omega) ?_
      refine wc_goto 51 (by decide +kernel : decode cX6_init 73 = .ok (.goto (-22), 3)) (by decide) (by omega) ?_
      have := ih (j + 1) (upP q' (w + 2) (j + 1)) (by omega) ⟨⟨?_, ?_, upP_s⟩, fun l hl => ?_, fun i hi => ?_⟩
      · rw [show w + 9 + 2 * (j + 1) = w + 9 + 2 * j + 1 + 1 by omega] at this
        exact this
      · rw [upP_n (by omega), e0 _ (by omega)]; exact q1
      · rw [upP_n (by omega), e0 _ (by omega)]; exact q2
      · rw [upP_n (by omega)]
        by_cases z : l = j
        · rw [z]; exact e10
        · rw [e0 _ (by omega)]; exact q4 l (by omega)
      · rw [upP_n (by omega), e0 _ (by omega)]; exact q5 i hi
/-- behind j stations -/
def WL1 (w : Nat) (q0 q : PG) (j : Nat) : Prop := (q w = 6 ∧ q (w + 1) = j ∧ q (w + 2) = 0) ∧ ∀ i, i < w → q i = q0 i
theorem k_World1 {w : Nat} (hk : WKd w) (hw : w + 29 ≤ 146) (hz : ZH h) : ∀ r j q, j + r = 6 → WL1 w q0 q j → Wc g mX6_init (w + 1) (w + 29) (w + 3 + j) 24 [some (.ref w), some (.int (nI j))] [] q h (rtC mX6_init (KQ w (w + 29) q0 h)) := by
  intro r
  induction r with
  | zero =>
    intro j q hj hq
    obtain ⟨⟨q1, q2, q3⟩, q5⟩ := hq
    have ej : j = 6 := by omega
    subst ej
    refine wc_iload_n 1 25 (by decide +kernel) rfl rfl (by omega) ?_
    refine wc_bipush 6 27 (by decide +kernel : decode cX6_init 25 = .ok (.bipush 6, 2)) rfl (by decide +kernel) (by omega) ?_
    refine wc_icmp_ge 30 49 (by decide +kernel : decode cX6_init 27 = .ok (.if_icmp .ge 22, 3)) (by decide) rfl (fun _ => ?_) (fun z => absurd (by decide +kernel : (6 : Int32) ≤ nI 6) z)
    refine wc_iconst 0 50 (by decide +kernel : decode cX6_init 49 = .ok (.iconst 0, 1)) rfl (by decide +kernel) (by omega) ?_
    refine wc_istore_n 1 51 [some (.ref w), some (.int (nI 0))] (by decide +kernel) rfl (by decide) (okS_spec rfl) rfl (by omega) ?_
    exact k_World2 hk hw hz 10 0 q (by omega) ⟨⟨q1, q2, q3⟩, fun l hl => by omega, q5⟩
  | succ r ih =>
    intro j q hj hq
    obtain ⟨⟨q1, q2, q3⟩, q5⟩ := hq
    obtain ⟨⟨k1, k2, k3, k4, k5⟩, k6, k7⟩ := id hk
    have kl := k6 j (by omega)
    refine wc_iload_n 1 25 (by decide +kernel) rfl rfl (by omega) ?_
    refine wc_bipush 6 27 (by decide +kernel : decode cX6_init 25 = .ok (.bipush 6, 2)) rfl (by decide +kernel) (by omega) ?_
    refine wc_icmp_ge 30 49 (by decide +kernel : decode cX6_init 27 = .ok (.if_icmp .ge 22, 3)) (by decide) rfl (fun z => absurd ((nI_leI (a := 6) (by omega) (by omega)).mp z) (by omega)) (fun _ => ?_)
    refine wc_aload_n 0 31 (by decide +kernel) rfl rfl (by omega) ?_
    refine wc_getr 6 4 1 (w + 1) 34 fl_RX6_11 (by decide +kernel) rfl k1 (by omega) rfl (by omega) rfl (by omega) (by omega) (by omega) ?_
    refine wc_iload_n 1 35 (by decide +kernel) rfl rfl (by omega) ?_
    refine wc_new 3 _ 38 rfl ck_RX6_9 ib_X3 iz_X3 (by decide +kernel) rfl kl (fun k => hz.1 _ k) (by omega) (by omega) ?_
    refine wc_dup 39 (by decide +kernel) rfl rfl (by omega) ?_
    refine wc_call mX3_init (w + 3 + j + 1) (KQ (w + 3 + j) (w + 3 + j + 1) (upP q (w + 3 + j) 0) h) 42 mo_X3_init rfl rfl (by decide) np_X3_init mi_RX6_23 im_X3_init (by decide) (by decide +kernel) rfl (Nat.le_of_ble_eq_true rfl) (by omega) (by omega) (by omega) (k_Station kl rfl) ?_
    intro q' h' hQ
    obtain ⟨rfl, c1, c2⟩ := hQ
    have e0 : ∀ i, i < w + 3 + j → q' i = q i := fun i hi => by rw [c1 i hi, upP_n (by omega)]
    refine wc_aast 3 3 43 k2 (Or.inl ⟨rfl, rfl⟩) (by rw [e0 _ (by omega)]; exact q2) (by rw [k3]; omega) ?_ kl (by omega) (by omega) (by omega) (by decide +kernel) rfl (by omega) ?_
    · unfold rfA
      rw [k2, if_pos rfl]
    · refine wc_iinc 1 (nI (j + 1)) 46 [some (.ref w), some (.int (nI (j + 1)))] (by decide +kernel : decode cX6_init 43 = .ok (.iinc 1 1, 3)) rfl (by decide) rfl (nI_1 j) (okS_spec rfl) rfl (by omega) ?_
      refine wc_goto 24 (by decide +kernel : decode cX6_init 46 = .ok (.goto (-22), 3)) (by decide) (by omega) ?_
      refine ih (j + 1) (upP q' (w + 1) (j + 1)) (by omega) ⟨⟨?_, upP_s, ?_⟩, fun i hi => ?_⟩
      · rw [upP_n (by omega), e0 _ (by omega)]; exact q1
      · rw [upP_n (by omega), e0 _ (by omega)]; exact q3
      · rw [upP_n (by omega), e0 _ (by omega)]; exact q5 i hi
theorem k_World {w : Nat} (hk : WKd w) (hw : w + 29 ≤ 146) (hq : q w = 0) (hz : ZH h) : Wc g mX6_init (w + 1) (w + 29) (w + 1) 0 [some (.ref w)] [] q h (rtC mX6_init (KQ w (w + 29) q h)) := by
  obtain ⟨⟨k1, k2, k3, k4, k5⟩, k6, k7⟩ := id hk
  refine wc_pad ?_
  refine wc_aload_n 0 1 (by decide +kernel) rfl rfl (by omega) ?_
  refine wc_obj 4 mi_RX6_3 (by decide) (by decide) (by decide +kernel) rfl (by omega) ?_
  refine wc_aload_n 0 5 (by decide +kernel) rfl rfl (by omega) ?_
  refine wc_bipush 6 7 (by decide +kernel : decode cX6_init 5 = .ok (.bipush 6, 2)) rfl (by decide +kernel) (by omega) ?_
  refine wc_newr 3 RX3 10 k2 (Or.inl ⟨rfl, rfl⟩) ck_RX6_9 (by decide +kernel) rfl (by rw [k3]; decide +kernel) (by decide +kernel) (by omega) (by omega) ?_
  refine wc_putr 6 4 1 0 13 fl_RX6_11 (by decide +kernel) rfl k1 (by omega) rfl rfl (by rw [upP_n (by omega)]; exact hq) (by decide) (by decide +kernel) rfl rfl rfl (fun z => ⟨rfl, rfl⟩) (by omega) (by omega) (by omega) ?_
  refine wc_aload_n 0 14 (by decide +kernel) rfl rfl (by omega) ?_
  refine wc_bipush 10 16 (by decide +kernel : decode cX6_init 14 = .ok (.bipush 10, 2)) rfl (by decide +kernel) (by omega) ?_
  refine wc_newr 4 RX0 19 k4 (Or.inr (Or.inl ⟨rfl, rfl⟩)) ck_RX6_17 (by decide +kernel) rfl (by rw [k5]; decide +kernel) (by decide +kernel) (by omega) (by omega) ?_
  refine wc_putr 6 5 2 5 22 fl_RX6_19 (by decide +kernel) rfl k1 (by omega) rfl rfl (by rw [upP_n (by omega)]; exact upP_s) (by decide) (by decide +kernel) rfl rfl rfl (fun z => ⟨rfl, rfl⟩) (by omega) (by omega) (by omega) ?_
  refine wc_iconst 0 23 (by decide +kernel : decode cX6_init 22 = .ok (.iconst 0, 1)) rfl (by decide +kernel) (by omega) ?_
  refine wc_istore_n 1 24 [some (.ref w), some (.int (nI 0))] (by decide +kernel) rfl (by decide) (okS_spec rfl) rfl (by omega) ?_
  obtain ⟨qq, eq⟩ : ∃ qq, qq = upP (upP (upP (upP q (w + 1) 0) w (4 + 1)) (w + 1 + 1) 0) w (5 + 1) := ⟨_, rfl⟩
  rw [← eq]
  have c0 : qq w = 6 := by rw [eq, upP_s]
  have c1 : qq (w + 1) = 0 := by rw [eq, upP_n (by omega), upP_n (by omega), upP_n (by omega), upP_s]
  have c2 : qq (w + 2) = 0 := by rw [eq, upP_n (by omega), upP_s]
  have c3 : ∀ i, i < w → qq i = q i := fun i hi => by rw [eq, upP_n (by omega), upP_n (by omega), upP_n (by omega), upP_n (by omega)]
  have K := k_World1 (g := g) (q0 := q) hk hw hz 6 0 qq (by omega) ⟨⟨c0, c1, c2⟩, c3⟩
  rw [show w + 3 + 0 = w + 1 + 1 + 1 by omega] at K
  exact K
/-- behind j sheets -/
def WL7 (q0 q : PG) (j : Nat) : Prop := (q 0 = 8 ∧ q 107 = j) ∧ Ful q 1 107 ∧ Ful q 108 (109 + 2 * j)
theorem kd_Sh : ∀ j, j < 4 → kd (109 + 2 * j) = 2 ∧ kd (109 + 2 * j + 1) = 12 ∧ kn (109 + 2 * j + 1) = 40 := by decide +kernel
theorem k_Class7 (hz : ZH h) : ∀ r j q, j + r = 4 → WL7 q0 q j → Wc g mX7_init 1 117 (109 + 2 * j) 88 [some (.ref 0), some (.int (nI j))] [] q h (rtC mX7_init (KQ 0 117 q0 h)) := by
  intro r
  induction r with
  | zero =>
    intro j q hj hq
    obtain ⟨⟨q1, q2⟩, q3, q4⟩ := hq
    have ej : j = 4 := by omega
    subst ej
    refine wc_iload_n 1 89 (by decide +kernel) rfl rfl (by omega) ?_
    refine wc_iconst 4 90 (by decide +kernel : decode cX7_init 89 = .ok (.iconst 4, 1)) rfl (by decide +kernel) (by omega) ?_
    refine wc_icmp_ge 93 112 (by decide +kernel : decode cX7_init 90 = .ok (.if_icmp .ge 22, 3)) (by decide) rfl (fun _ => ?_) (fun z => absurd (by decide +kernel : (4 : Int32) ≤ nI 4) z)
    refine wc_end ⟨by decide +kernel, rfl, fun i hi => by omega, fun i h1 h2 => ?_⟩
    by_cases z0 : i = 0
    · rw [z0, q1]; exact (by decide +kernel : need 0 ≤ 8)
    · by_cases z1 : i = 107
      · rw [z1, q2]; exact (by decide +kernel : need 107 ≤ 4)
      · by_cases z2 : i < 107
        · exact q3 i (by omega) z2
        · exact q4 i (by omega) (by omega)
  | succ r ih =>
    intro j q hj hq
    obtain ⟨⟨q1, q2⟩, q3, q4⟩ := hq
    have kl := kd_Sh j (by omega)
    refine wc_iload_n 1 89 (by decide +kernel) rfl rfl (by omega) ?_
    refine wc_iconst 4 90 (by decide +kernel : decode cX7_init 89 = .ok (.iconst 4, 1)) rfl (by decide +kernel) (by omega) ?_
    refine wc_icmp_ge 93 112 (by decide +kernel : decode cX7_init 90 = .ok (.if_icmp .ge 22, 3)) (by decide) rfl (fun z => absurd ((nI_leI (a := 4) (by omega) (by omega)).mp z) (by omega)) (fun _ => ?_)
    refine wc_aload_n 0 94 (by decide +kernel) rfl rfl (by omega) ?_
    refine wc_getr 7 6 107 107 97 fl_RX7_45 (by decide +kernel) rfl (by decide +kernel) (by omega) rfl (by omega) rfl (by omega) (by omega) (by omega) ?_
    refine wc_iload_n 1 98 (by decide +kernel) rfl rfl (by omega) ?_
    refine wc_new 2 _ 101 rfl ck_RX7_43 ib_X2 iz_X2 (by decide +kernel) rfl kl.1 (fun k => hz.1 _ k) (by omega) (by omega) ?_
    refine wc_dup 102 (by decide +kernel) rfl rfl (by omega) ?_
    refine wc_call mX2_init (109 + 2 * j + 1 + 1) (KQ (109 + 2 * j) (109 + 2 * j + 1 + 1) (upP q (109 + 2 * j) 0) h) 105 mo_X2_init rfl rfl (by decide) np_X2_init mi_RX7_53 im_X2_init (by decide) (by decide +kernel) rfl (Nat.le_of_ble_eq_true rfl) (by omega) (by omega) (by omega) (k_Sheet kl.1 kl.2.1 kl.2.2 (by omega) upP_s hz) ?_
    intro q' h' hQ
    obtain ⟨rfl, c1, c2⟩ := hQ
    have e0 : ∀ i, i < 109 + 2 * j → q' i = q i := fun i hi => by rw [c1 i hi, upP_n (by omega)]
    refine wc_aast 5 2 106 (by decide +kernel) (Or.inr (Or.inr ⟨rfl, rfl⟩)) (by rw [e0 _ (by omega)]; exact q2) (by rw [(by decide +kernel : kn 107 = 4)]; omega) ?_ kl.1 (by omega) (by omega) (by omega) (by decide +kernel) rfl (by omega) ?_
    · unfold rfA
      rw [(by decide +kernel : kd 107 = 15), if_neg (by decide), if_neg (by decide)]
    · refine wc_iinc 1 (nI (j + 1)) 109 [some (.ref 0), some (.int (nI (j + 1)))] (by decide +kernel : decode cX7_init 106 = .ok (.iinc 1 1, 3)) rfl (by decide) rfl (nI_1 j) (okS_spec rfl) rfl (by omega) ?_
      refine wc_goto 88 (by decide +kernel : decode cX7_init 109 = .ok (.goto (-21), 3)) (by decide) (by omega) ?_
      have := ih (j + 1) (upP q' 107 (j + 1)) (by omega) ⟨⟨?_, upP_s⟩, ?_, ?_⟩
      · rw [show 109 + 2 * (j + 1) = 109 + 2 * j + 1 + 1 by omega] at this
        exact this
      · rw [upP_n (by omega), e0 _ (by omega)]; exact q1
      · exact (q3.keep e0 (by omega)).up (by omega)
      · refine Ful.up ?_ (by omega)
        rw [show 109 + 2 * (j + 1) = 109 + 2 * j + 1 + 1 by omega]
        exact (q4.keep e0 (by omega)).app c2
end Ini
