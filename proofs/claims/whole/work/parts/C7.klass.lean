/-! the constructor of the class -/
section Ini
variable {g : GE} {q : PG} {h : HP}
theorem k_Class (hq : q 0 = 0) (hz : ZH h) : Wc g mX7_init 1 117 1 0 [some (.ref 0)] [] q h (rtC mX7_init (KQ 0 117 q h)) := by
  refine wc_pad ?_
  refine wc_aload_n 0 1 (by decide +kernel) rfl rfl (by omega) ?_
  refine wc_obj 4 mi_RX7_1 (by decide) (by decide) (by decide +kernel) rfl (by omega) ?_
  refine wc_aload_n 0 5 (by decide +kernel) rfl rfl (by omega) ?_
  refine wc_new 6 _ 8 rfl ck_RX7_7 ib_X6 iz_X6 (by decide +kernel) rfl (by decide +kernel) (fun k => hz.1 _ k) (by omega) (by omega) ?_
  refine wc_dup 9 (by decide +kernel) rfl rfl (by omega) ?_
  refine wc_call mX6_init 30 (KQ 1 30 (upP q 1 0) h) 12 mo_X6_init rfl rfl (by decide) np_X6_init mi_RX7_9 im_X6_init (by decide) (by decide +kernel) rfl (Nat.le_of_ble_eq_true rfl) (by omega) (by omega) (by omega) (k_World wkd_1 (by omega) upP_s hz) ?_
  intro q1 x1 y1
  obtain ⟨z1, a1, f1⟩ := y1
  rw [z1]
  have b1 : q1 0 = 0 := by rw [a1 0 (by omega), upP_n (by omega)]; exact hq
  refine wc_putr 7 0 1 0 15 fl_RX7_10 (by decide +kernel) rfl (by decide +kernel) (by omega) rfl rfl b1 (by decide) (by decide +kernel) rfl rfl rfl (fun z => ⟨rfl, rfl⟩) (by omega) (by omega) (by omega) ?_
  obtain ⟨p1, e1⟩ : ∃ p, p = upP q1 0 (0 + 1) := ⟨_, rfl⟩
  rw [← e1]
  have c1 : p1 0 = 1 := by rw [e1, upP_s]
  have g1 : Ful p1 1 30 := by rw [e1]; exact f1.up (by omega)
  refine wc_aload_n 0 16 (by decide +kernel) rfl rfl (by omega) ?_
  refine wc_new 6 _ 19 rfl ck_RX7_7 ib_X6 iz_X6 (by decide +kernel) rfl (by decide +kernel) (fun k => hz.1 _ k) (by omega) (by omega) ?_
  refine wc_dup 20 (by decide +kernel) rfl rfl (by omega) ?_
  refine wc_call mX6_init 59 (KQ 30 59 (upP p1 30 0) h) 23 mo_X6_init rfl rfl (by decide) np_X6_init mi_RX7_9 im_X6_init (by decide) (by decide +kernel) rfl (Nat.le_of_ble_eq_true rfl) (by omega) (by omega) (by omega) (k_World wkd_2 (by omega) upP_s hz) ?_
  intro q2 x2 y2
  obtain ⟨z2, a2, f2⟩ := y2
  rw [z2]
  have b2 : q2 0 = 1 := by rw [a2 0 (by omega), upP_n (by omega)]; exact c1
  refine wc_putr 7 1 30 1 26 fl_RX7_16 (by decide +kernel) rfl (by decide +kernel) (by omega) rfl rfl b2 (by decide) (by decide +kernel) rfl rfl rfl (fun z => ⟨rfl, rfl⟩) (by omega) (by omega) (by omega) ?_
  obtain ⟨p2, e2⟩ : ∃ p, p = upP q2 0 (1 + 1) := ⟨_, rfl⟩
  rw [← e2]
  have c2 : p2 0 = 2 := by rw [e2, upP_s]
  have g2 : Ful p2 1 59 := by rw [e2]; exact (((g1.up (i := 30) (x := 0) (by omega)).keep a2 (by omega)).app f2).up (by omega)
  refine wc_aload_n 0 27 (by decide +kernel) rfl rfl (by omega) ?_
  refine wc_new 6 _ 30 rfl ck_RX7_7 ib_X6 iz_X6 (by decide +kernel) rfl (by decide +kernel) (fun k => hz.1 _ k) (by omega) (by omega) ?_
  refine wc_dup 31 (by decide +kernel) rfl rfl (by omega) ?_
  refine wc_call mX6_init 88 (KQ 59 88 (upP p2 59 0) h) 34 mo_X6_init rfl rfl (by decide) np_X6_init mi_RX7_9 im_X6_init (by decide) (by decide +kernel) rfl (Nat.le_of_ble_eq_true rfl) (by omega) (by omega) (by omega) (k_World wkd_3 (by omega) upP_s hz) ?_
  intro q3 x3 y3
  obtain ⟨z3, a3, f3⟩ := y3
  rw [z3]
  have b3 : q3 0 = 2 := by rw [a3 0 (by omega), upP_n (by omega)]; exact c2
  refine wc_putr 7 2 59 2 37 fl_RX7_19 (by decide +kernel) rfl (by decide +kernel) (by omega) rfl rfl b3 (by decide) (by decide +kernel) rfl rfl rfl (fun z => ⟨rfl, rfl⟩) (by omega) (by omega) (by omega) ?_
  obtain ⟨p3, e3⟩ : ∃ p, p = upP q3 0 (2 + 1) := ⟨_, rfl⟩
  rw [← e3]
  have c3 : p3 0 = 3 := by rw [e3, upP_s]
  have g3 : Ful p3 1 88 := by rw [e3]; exact (((g2.up (i := 59) (x := 0) (by omega)).keep a3 (by omega)).app f3).up (by omega)
  refine wc_aload_n 0 38 (by decide +kernel) rfl rfl (by omega) ?_
  refine wc_new 1 _ 41 rfl ck_RX7_22 ib_X1 iz_X1 (by decide +kernel) rfl (by decide +kernel) (fun k => hz.1 _ k) (by omega) (by omega) ?_
  refine wc_dup 42 (by decide +kernel) rfl rfl (by omega) ?_
  refine wc_call mX1_init 99 (KQ 88 99 (upP p3 88 0) h) 45 mo_X1_init rfl rfl (by decide) np_X1_init mi_RX7_24 im_X1_init (by decide) (by decide +kernel) rfl (Nat.le_of_ble_eq_true rfl) (by omega) (by omega) (by omega) (k_Network upP_s hz) ?_
  intro q4 x4 y4
  obtain ⟨z4, a4, f4⟩ := y4
  rw [z4]
  have b4 : q4 0 = 3 := by rw [a4 0 (by omega), upP_n (by omega)]; exact c3
  refine wc_putr 7 3 88 3 48 fl_RX7_25 (by decide +kernel) rfl (by decide +kernel) (by omega) rfl rfl b4 (by decide) (by decide +kernel) rfl rfl rfl (fun z => ⟨rfl, rfl⟩) (by omega) (by omega) (by omega) ?_
  obtain ⟨p4, e4⟩ : ∃ p, p = upP q4 0 (3 + 1) := ⟨_, rfl⟩
  rw [← e4]
  have c4 : p4 0 = 4 := by rw [e4, upP_s]
  have g4 : Ful p4 1 99 := by rw [e4]; exact (((g3.up (i := 88) (x := 0) (by omega)).keep a4 (by omega)).app f4).up (by omega)
  refine wc_aload_n 0 49 (by decide +kernel) rfl rfl (by omega) ?_
  refine wc_new 4 _ 52 rfl ck_RX7_29 ib_X4 iz_X4 (by decide +kernel) rfl (by decide +kernel) (fun k => hz.1 _ k) (by omega) (by omega) ?_
  refine wc_dup 53 (by decide +kernel) rfl rfl (by omega) ?_
  refine wc_call mX4_init 105 (KQ 99 105 (upP p4 99 0) h) 56 mo_X4_init rfl rfl (by decide) np_X4_init mi_RX7_31 im_X4_init (by decide) (by decide +kernel) rfl (Nat.le_of_ble_eq_true rfl) (by omega) (by omega) (by omega) (k_Stream upP_s hz) ?_
  intro q5 x5 y5
  obtain ⟨z5, a5, f5⟩ := y5
  rw [z5]
  have b5 : q5 0 = 4 := by rw [a5 0 (by omega), upP_n (by omega)]; exact c4
  refine wc_putr 7 4 99 4 59 fl_RX7_32 (by decide +kernel) rfl (by decide +kernel) (by omega) rfl rfl b5 (by decide) (by decide +kernel) rfl rfl rfl (fun z => ⟨rfl, rfl⟩) (by omega) (by omega) (by omega) ?_
  obtain ⟨p5, e5⟩ : ∃ p, p = upP q5 0 (4 + 1) := ⟨_, rfl⟩
  rw [← e5]
  have c5 : p5 0 = 5 := by rw [e5, upP_s]
  have g5 : Ful p5 1 105 := by rw [e5]; exact (((g4.up (i := 99) (x := 0) (by omega)).keep a5 (by omega)).app f5).up (by omega)
  refine wc_aload_n 0 60 (by decide +kernel) rfl rfl (by omega) ?_
  refine wc_new 5 _ 63 rfl ck_RX7_36 ib_X5 iz_X5 (by decide +kernel) rfl (by decide +kernel) (fun k => hz.1 _ k) (by omega) (by omega) ?_
  refine wc_dup 64 (by decide +kernel) rfl rfl (by omega) ?_
  refine wc_call mX5_init 107 (KQ 105 107 (upP p5 105 0) h) 67 mo_X5_init rfl rfl (by decide) np_X5_init mi_RX7_38 im_X5_init (by decide) (by decide +kernel) rfl (Nat.le_of_ble_eq_true rfl) (by omega) (by omega) (by omega) (k_Tape upP_s hz) ?_
  intro q6 x6 y6
  obtain ⟨z6, a6, f6⟩ := y6
  rw [z6]
  have b6 : q6 0 = 5 := by rw [a6 0 (by omega), upP_n (by omega)]; exact c5
  refine wc_putr 7 5 105 5 70 fl_RX7_39 (by decide +kernel) rfl (by decide +kernel) (by omega) rfl rfl b6 (by decide) (by decide +kernel) rfl rfl rfl (fun z => ⟨rfl, rfl⟩) (by omega) (by omega) (by omega) ?_
  obtain ⟨p6, e6⟩ : ∃ p, p = upP q6 0 (5 + 1) := ⟨_, rfl⟩
  rw [← e6]
  have c6 : p6 0 = 6 := by rw [e6, upP_s]
  have g6 : Ful p6 1 107 := by rw [e6]; exact (((g5.up (i := 105) (x := 0) (by omega)).keep a6 (by omega)).app f6).up (by omega)
  refine wc_aload_n 0 71 (by decide +kernel) rfl rfl (by omega) ?_
  refine wc_iconst 4 72 (by decide +kernel : decode cX7_init 71 = .ok (.iconst 4, 1)) rfl (by decide +kernel) (by omega) ?_
  refine wc_newr 5 RX2 75 (by decide +kernel) (Or.inr (Or.inr ⟨rfl, rfl⟩)) ck_RX7_43 (by decide +kernel) rfl (by decide +kernel) (by decide +kernel) (by omega) (by omega) ?_
  refine wc_putr 7 6 107 6 78 fl_RX7_45 (by decide +kernel) rfl (by decide +kernel) (by omega) rfl rfl (by rw [upP_n (by omega)]; exact c6) (by decide) (by decide +kernel) rfl rfl rfl (fun z => ⟨rfl, rfl⟩) (by omega) (by omega) (by omega) ?_
  refine wc_aload_n 0 79 (by decide +kernel) rfl rfl (by omega) ?_
  refine wc_bipush 8 81 (by decide +kernel : decode cX7_init 79 = .ok (.bipush 8, 2)) rfl (by decide +kernel) (by omega) ?_
  refine wc_newa 83 (Or.inl ⟨(by decide +kernel), rfl⟩) (by decide +kernel) rfl (by decide +kernel) (by decide +kernel) (fun k => hz.1 _ k) (fun k => hz.2 _ k) (by omega) (by omega) ?_
  refine wc_putr 7 7 108 7 86 fl_RX7_49 (by decide +kernel) rfl (by decide +kernel) (by omega) rfl rfl upP_s (by decide) (by decide +kernel) rfl rfl rfl (fun z => ⟨rfl, rfl⟩) (by omega) (by omega) (by omega) ?_
  refine wc_iconst 0 87 (by decide +kernel : decode cX7_init 86 = .ok (.iconst 0, 1)) rfl (by decide +kernel) (by omega) ?_
  refine wc_istore_n 1 88 [some (.ref 0), some (.int (nI 0))] (by decide +kernel) rfl (by decide) (okS_spec rfl) rfl (by omega) ?_
  obtain ⟨p7, e7⟩ : ∃ p, p = upP (upP (upP p6 107 0) 0 (6 + 1)) 0 (7 + 1) := ⟨_, rfl⟩
  rw [← e7]
  have d0 : p7 0 = 8 := by rw [e7, upP_s]
  have d1 : p7 107 = 0 := by rw [e7, upP_n (by omega), upP_n (by omega), upP_s]
  have d2 : Ful p7 1 107 := by rw [e7]; exact ((g6.up (by omega)).up (by omega)).up (by omega)
  have d3 : Ful p7 108 (109 + 2 * 0) := fun i h1 h2 => by rw [rows_N i (by omega) (by omega)]; exact Nat.zero_le _
  exact k_Class7 (g := g) (q0 := q) hz 4 0 p7 (by omega) ⟨⟨d0, d1⟩, d2, d3⟩
def lawQ (h : HP) : Nat → List (Option Value) → PG → HP → Prop := fun pc' ls' q' h' => pc' = 16 ∧ ls' = [some (.ref 5000), some (.ref 0), some (.ref 117), none] ∧ h' = wHh h 128 ∧ Ful q' 0 146
theorem k_law (hz : ZH h) : Wc g mL_law 0 146 0 0 [some (.ref 5000), none, none, none] [] q h (lawQ h) := by
  refine wc_new 7 _ 3 rfl ck_RL_7 ib_X7 iz_X7 (by decide +kernel) rfl (by decide +kernel) (fun k => hz.1 _ k) (by omega) (by omega) ?_
  refine wc_dup 4 (by decide +kernel) rfl rfl (by omega) ?_
  refine wc_call mX7_init 117 (KQ 0 117 (upP q 0 0) h) 7 mo_X7_init rfl rfl (by decide) np_X7_init mi_RL_9 im_X7_init (by decide) (by decide +kernel) rfl (Nat.le_of_ble_eq_true rfl) (by omega) (by omega) (by omega) (k_Class upP_s hz) ?_
  intro q1 x1 y1
  obtain ⟨z1, a1, f1⟩ := y1
  rw [z1]
  refine wc_astore_n 1 8 [some (.ref 5000), some (.ref 0), none, none] (by decide +kernel) rfl (by decide) (okS_spec rfl) rfl (by omega) ?_
  refine wc_new 8 _ 11 rfl ck_RL_10 ib_X8 iz_X8 (by decide +kernel) rfl (by decide +kernel) (fun k => hz.1 _ k) (by omega) (by omega) ?_
  refine wc_dup 12 (by decide +kernel) rfl rfl (by omega) ?_
  refine wc_call mX8_init 146 (KM (upP q1 117 0) h) 15 mo_X8_init rfl rfl (by decide) np_X8_init mi_RL_12 im_X8_init (by decide) (by decide +kernel) rfl (Nat.le_of_ble_eq_true rfl) (by omega) (by omega) (by omega) (k_Model upP_s hz) ?_
  intro q2 x2 y2
  obtain ⟨z2, a2, f2⟩ := y2
  rw [z2]
  refine wc_astore_n 2 16 [some (.ref 5000), some (.ref 0), some (.ref 117), none] (by decide +kernel) rfl (by decide) (okS_spec rfl) rfl (by omega) ?_
  exact wc_end ⟨rfl, rfl, rfl, ((f1.up (i := 117) (x := 0) (by omega)).keep a2 (by omega)).app f2⟩
end Ini
