def f_X8_in (x0 : Int64) (x2 : Int64) (x4 : Int64) (h : HP) (Q : Int32 → HP → Prop) : Prop :=
  ((((lg_cmp x0 x2) < 0) →
    Q 0 h) ∧
   (¬ ((lg_cmp x0 x2) < 0) →
    (((0 < (lg_cmp x0 x4)) →
      Q 0 h) ∧
     (¬ (0 < (lg_cmp x0 x4)) →
      Q 1 h))))
set_option maxRecDepth 20000 in
theorem l_X8_in (g : GE) (x0 : Int64) (x2 : Int64) (x4 : Int64)  (h : HP) (Q : Int32 → HP → Prop) (H : f_X8_in x0 x2 x4 h Q) : Wm g mX8_in 0 [some (.long x0), none, some (.long x2), none, some (.long x4), none] [] h (qi Q) := by
  unfold f_X8_in at H
  refine wm_lload_n 0 1 (by decide +kernel) rfl rfl ?_
  refine wm_lload_n 2 2 (by decide +kernel) rfl rfl ?_
  refine wm_lcmp 3 (by decide +kernel) rfl ?_
  refine wm_if_lt 6 17 (by decide +kernel : decode cX8_in 3 = .ok (.ifCond .lt 14, 3)) (by decide) rfl (fun c1 => ?_) (fun c1 => ?_)
  · replace H := H.1 c1
    refine wm_iconst 0 18 (by decide +kernel : decode cX8_in 17 = .ok (.iconst 0, 1)) rfl (by decide +kernel) ?_
    exact wm_iret (by decide +kernel) ⟨.boolean, rfl, (by decide +kernel)⟩ H
  · replace H := H.2 c1
    refine wm_lload_n 0 7 (by decide +kernel) rfl rfl ?_
    refine wm_lload 4 9 (by decide +kernel) rfl rfl ?_
    refine wm_lcmp 10 (by decide +kernel) rfl ?_
    refine wm_if_gt 13 17 (by decide +kernel : decode cX8_in 10 = .ok (.ifCond .gt 7, 3)) (by decide) rfl (fun c2 => ?_) (fun c2 => ?_)
    · replace H := H.1 c2
      refine wm_iconst 0 18 (by decide +kernel : decode cX8_in 17 = .ok (.iconst 0, 1)) rfl (by decide +kernel) ?_
      exact wm_iret (by decide +kernel) ⟨.boolean, rfl, (by decide +kernel)⟩ H
    · replace H := H.2 c2
      refine wm_iconst 1 14 (by decide +kernel : decode cX8_in 13 = .ok (.iconst 1, 1)) rfl (by decide +kernel) ?_
      refine wm_goto 18 (by decide +kernel : decode cX8_in 14 = .ok (.goto 4, 3)) (by decide) ?_
      exact wm_iret (by decide +kernel) ⟨.boolean, rfl, (by decide +kernel)⟩ H
def f_X8_finds (x1 : Int32) (h : HP) (Q : Int32 → HP → Prop) : Prop :=
  vp_in ((-1000000001 : Int32) - x1) 8 ∧
  vp_in ((-1000000001 : Int32) - x1) 8 ∧
  ∀ h3 : HP, h3 = si h 118 (ix ((-1000000001 : Int32) - x1)) ((gi h 118 (ix ((-1000000001 : Int32) - x1))) + 1) →
  Q x1 h3
set_option maxRecDepth 20000 in
theorem l_X8_finds (g : GE) (x1 : Int32)  (h : HP) (Q : Int32 → HP → Prop) (H : f_X8_finds x1 h Q) : Wm g mX8_finds 0 [some (.ref 117), some (.int x1)] [] h (qi Q) := by
  unfold f_X8_finds at H
  refine wm_aload_n 0 1 (by decide +kernel) rfl rfl ?_
  refine wm_getr 8 0 1 118 4 fl_RX8_7 (by decide +kernel) rfl (by decide +kernel) rfl rfl (by decide) ?_
  refine wm_ldc (-1000000001) 6 co_RX8_96 (by decide +kernel) rfl ?_
  refine wm_iload_n 1 7 (by decide +kernel) rfl rfl ?_
  refine wm_isub 8 (by decide +kernel) rfl ?_
  refine wm_dup2 9 (by decide +kernel) rfl rfl rfl ?_
  obtain ⟨o1, H⟩ := H
  refine wm_iald 8 10 (by decide +kernel) rfl (by decide +kernel) (by decide +kernel) o1 ?_
  refine wm_iconst 1 11 (by decide +kernel : decode cX8_finds 10 = .ok (.iconst 1, 1)) rfl (by decide +kernel) ?_
  refine wm_iadd 12 (by decide +kernel) rfl ?_
  obtain ⟨o2, H⟩ := H
  replace H := H _ rfl
  refine wm_iast 8 13 (by decide +kernel) rfl (by decide +kernel) (by decide +kernel) o2 ?_
  refine wm_iload_n 1 14 (by decide +kernel) rfl rfl ?_
  exact wm_iret (by decide +kernel) ⟨.int, rfl, rfl⟩ H
def f_X8_at (x1 : Int32) (x2 : Int32) (h : HP) (Q : Int32 → HP → Prop) : Prop :=
  vp_in ((8 * x1) + x2) 80 ∧
  Q (gi h 122 (ix ((8 * x1) + x2))) h
set_option maxRecDepth 20000 in
theorem l_X8_at (g : GE) (x1 : Int32) (x2 : Int32)  (h : HP) (Q : Int32 → HP → Prop) (H : f_X8_at x1 x2 h Q) : Wm g mX8_at 0 [some (.ref 117), some (.int x1), some (.int x2)] [] h (qi Q) := by
  unfold f_X8_at at H
  refine wm_aload_n 0 1 (by decide +kernel) rfl rfl ?_
  refine wm_getr 8 8 5 122 4 fl_RX8_22 (by decide +kernel) rfl (by decide +kernel) rfl rfl (by decide) ?_
  refine wm_bipush 8 6 (by decide +kernel : decode cX8_at 4 = .ok (.bipush 8, 2)) rfl (by decide +kernel) ?_
  refine wm_iload_n 1 7 (by decide +kernel) rfl rfl ?_
  refine wm_imul 8 (by decide +kernel) rfl ?_
  refine wm_iload_n 2 9 (by decide +kernel) rfl rfl ?_
  refine wm_iadd 10 (by decide +kernel) rfl ?_
  obtain ⟨o1, H⟩ := H
  refine wm_iald 80 11 (by decide +kernel) rfl (by decide +kernel) (by decide +kernel) o1 ?_
  exact wm_iret (by decide +kernel) ⟨.int, rfl, rfl⟩ H
def f_X8_isStation (x1 : Int32) (h : HP) (Q : Int32 → HP → Prop) : Prop :=
  f_X8_in ((x1 : Int32).toInt64) (0 : Int64) ((((gi h 117 3) - 1) : Int32).toInt64) h (fun v2 h1 =>
  Q v2 h1)
set_option maxRecDepth 20000 in
theorem l_X8_isStation (g : GE) (x1 : Int32)  (h : HP) (Q : Int32 → HP → Prop) (H : f_X8_isStation x1 h Q) : Wm g mX8_isStation 0 [some (.ref 117), some (.int x1)] [] h (qi Q) := by
  unfold f_X8_isStation at H
  refine wm_iload_n 1 1 (by decide +kernel) rfl rfl ?_
  refine wm_i2l 2 (by decide +kernel) rfl ?_
  refine wm_lconst 0 3 (by decide +kernel : decode cX8_isStation 2 = .ok (.lconst 0, 1)) rfl (by decide +kernel) ?_
  refine wm_aload_n 0 4 (by decide +kernel) rfl rfl ?_
  refine wm_geti 8 3 7 fl_RX8_97 (by decide +kernel) rfl (by decide +kernel) rfl ?_
  refine wm_iconst 1 8 (by decide +kernel : decode cX8_isStation 7 = .ok (.iconst 1, 1)) rfl (by decide +kernel) ?_
  refine wm_isub 9 (by decide +kernel) rfl ?_
  refine wm_i2l 10 (by decide +kernel) rfl ?_
  refine wm_callSi mX8_in 3 [_, _, _] [] _ _ 13 mo_X8_in np_X8_in ml_RX8_101 sc_X8_in (by decide +kernel) (by decide +kernel) rfl rfl rfl (Nat.le_of_ble_eq_true rfl) (Nat.le_of_ble_eq_true rfl) _ (ent_pad 0 rfl) (l_X8_in g _ _ _ _ _ H) (fun v2 h1 H hzv2 => ?_)
  exact wm_iret (by decide +kernel) ⟨.boolean, rfl, (rv_bool hzv2 rfl)⟩ H
def f_X8_isLine (x1 : Int32) (h : HP) (Q : Int32 → HP → Prop) : Prop :=
  f_X8_in ((x1 : Int32).toInt64) (0 : Int64) ((((gi h 117 7) - 1) : Int32).toInt64) h (fun v2 h1 =>
  Q v2 h1)
set_option maxRecDepth 20000 in
theorem l_X8_isLine (g : GE) (x1 : Int32)  (h : HP) (Q : Int32 → HP → Prop) (H : f_X8_isLine x1 h Q) : Wm g mX8_isLine 0 [some (.ref 117), some (.int x1)] [] h (qi Q) := by
  unfold f_X8_isLine at H
  refine wm_iload_n 1 1 (by decide +kernel) rfl rfl ?_
  refine wm_i2l 2 (by decide +kernel) rfl ?_
  refine wm_lconst 0 3 (by decide +kernel : decode cX8_isLine 2 = .ok (.lconst 0, 1)) rfl (by decide +kernel) ?_
  refine wm_aload_n 0 4 (by decide +kernel) rfl rfl ?_
  refine wm_geti 8 7 7 fl_RX8_105 (by decide +kernel) rfl (by decide +kernel) rfl ?_
  refine wm_iconst 1 8 (by decide +kernel : decode cX8_isLine 7 = .ok (.iconst 1, 1)) rfl (by decide +kernel) ?_
  refine wm_isub 9 (by decide +kernel) rfl ?_
  refine wm_i2l 10 (by decide +kernel) rfl ?_
  refine wm_callSi mX8_in 3 [_, _, _] [] _ _ 13 mo_X8_in np_X8_in ml_RX8_101 sc_X8_in (by decide +kernel) (by decide +kernel) rfl rfl rfl (Nat.le_of_ble_eq_true rfl) (Nat.le_of_ble_eq_true rfl) _ (ent_pad 0 rfl) (l_X8_in g _ _ _ _ _ H) (fun v2 h1 H hzv2 => ?_)
  exact wm_iret (by decide +kernel) ⟨.boolean, rfl, (rv_bool hzv2 rfl)⟩ H
def f_X8_holds (x1 : Int32) (x2 : Int32) (h : HP) (Q : Int32 → HP → Prop) : Prop :=
  vp_in x1 6 ∧
  ((((gi h 119 (ix x1)) = 0) →
    Q 99999 h) ∧
   (¬ ((gi h 119 (ix x1)) = 0) →
    ((((gi h 119 (ix x1)) = 1) →
      vp_in x1 6 ∧
      Q (gi h 121 (ix x1)) h) ∧
     (¬ ((gi h 119 (ix x1)) = 1) →
      ((((gi h 119 (ix x1)) = 2) →
        (¬ ((x2 - x2 / 2 * 2) = 0) → vp_in x1 6) ∧
        Q (if (x2 - x2 / 2 * 2) = 0 then (99999 : Int32) else (gi h 121 (ix x1))) h) ∧
       (¬ ((gi h 119 (ix x1)) = 2) →
        (((x2 - x2 / 3 * 3) = 0) → vp_in x1 6) ∧
        (¬ ((x2 - x2 / 3 * 3) = 0) → vp_in x1 6) ∧
        Q (if (x2 - x2 / 3 * 3) = 0 then (((gi h 121 (ix x1)) + 10) : Int32) else (gi h 121 (ix x1))) h))))))
set_option maxRecDepth 20000 in
theorem l_X8_holds (g : GE) (x1 : Int32) (x2 : Int32)  (h : HP) (Q : Int32 → HP → Prop) (H : f_X8_holds x1 x2 h Q) : Wm g mX8_holds 0 [some (.ref 117), some (.int x1), some (.int x2)] [] h (qi Q) := by
  unfold f_X8_holds at H
  refine wm_aload_n 0 1 (by decide +kernel) rfl rfl ?_
  refine wm_getr 8 4 2 119 4 fl_RX8_13 (by decide +kernel) rfl (by decide +kernel) rfl rfl (by decide) ?_
  refine wm_iload_n 1 5 (by decide +kernel) rfl rfl ?_
  obtain ⟨o1, H⟩ := H
  refine wm_iald 6 6 (by decide +kernel) rfl (by decide +kernel) (by decide +kernel) o1 ?_
  refine em_go H (fun c2 H => ?_) (fun c2 H => ?_)
  · refine wm_tin (off := 26) 0 32 c2 (by decide +kernel : decode cX8_holds 6 = .ok (.tableswitch 54 0 2 #[26, 29, 36], 26)) (by decide +kernel) (by decide +kernel) (by decide +kernel) (by decide) ?_
    refine wm_ldc 99999 34 co_RX8_108 (by decide +kernel) rfl ?_
    exact wm_iret (by decide +kernel) ⟨.int, rfl, rfl⟩ H
  · skip
    refine em_go H (fun c3 H => ?_) (fun c3 H => ?_)
    · refine wm_tin (off := 29) 1 35 c3 (by decide +kernel : decode cX8_holds 6 = .ok (.tableswitch 54 0 2 #[26, 29, 36], 26)) (by decide +kernel) (by decide +kernel) (by decide +kernel) (by decide) ?_
      refine wm_aload_n 0 36 (by decide +kernel) rfl rfl ?_
      refine wm_getr 8 6 4 121 39 fl_RX8_19 (by decide +kernel) rfl (by decide +kernel) rfl rfl (by decide) ?_
      refine wm_iload_n 1 40 (by decide +kernel) rfl rfl ?_
      obtain ⟨o4, H⟩ := H
      refine wm_iald 6 41 (by decide +kernel) rfl (by decide +kernel) (by decide +kernel) o4 ?_
      exact wm_iret (by decide +kernel) ⟨.int, rfl, rfl⟩ H
    · skip
      refine em_go H (fun c5 H => ?_) (fun c5 H => ?_)
      · refine wm_tin (off := 36) 2 42 c5 (by decide +kernel : decode cX8_holds 6 = .ok (.tableswitch 54 0 2 #[26, 29, 36], 26)) (by decide +kernel) (by decide +kernel) (by decide +kernel) (by decide) ?_
        refine wm_iload_n 2 43 (by decide +kernel) rfl rfl ?_
        refine wm_iconst 2 44 (by decide +kernel : decode cX8_holds 43 = .ok (.iconst 2, 1)) rfl (by decide +kernel) ?_
        refine wm_irem 45 (by decide +kernel) rfl (by decide +kernel) ?_
        obtain ⟨D8b, H⟩ := H
        refine' wm_dia (pcJ := 59) (fun kt kf => wm_if_ne 48 53 (by decide +kernel : decode cX8_holds 45 = .ok (.ifCond .ne 8, 3)) (by decide) rfl kf kt) ?D8k (fun kj c1 => ?D8t) (fun kj c1 => ?D8f)
        case D8t =>
          refine wm_ldc 99999 50 co_RX8_108 (by decide +kernel) rfl ?_
          refine wm_goto 59 (by decide +kernel : decode cX8_holds 50 = .ok (.goto 9, 3)) (by decide) ?_
          exact kj
        case D8f =>
          have H := D8b c1
          refine wm_aload_n 0 54 (by decide +kernel) rfl rfl ?_
          refine wm_getr 8 6 4 121 57 fl_RX8_19 (by decide +kernel) rfl (by decide +kernel) rfl rfl (by decide) ?_
          refine wm_iload_n 1 58 (by decide +kernel) rfl rfl ?_
          have o7 := H
          refine wm_iald 6 59 (by decide +kernel) rfl (by decide +kernel) (by decide +kernel) o7 ?_
          exact kj
        case D8k =>
          exact wm_iret (by decide +kernel) ⟨.int, rfl, rfl⟩ H
      · skip
        refine wm_tout 60 (by decide +kernel : decode cX8_holds 6 = .ok (.tableswitch 54 0 2 #[26, 29, 36], 26)) (by have q0 := ne_toInt 0 (by decide +kernel) c2; have q1 := ne_toInt 1 (by decide +kernel) c3; have q2 := ne_toInt 2 (by decide +kernel) c5; omega) (by decide) ?_
        refine wm_iload_n 2 61 (by decide +kernel) rfl rfl ?_
        refine wm_iconst 3 62 (by decide +kernel : decode cX8_holds 61 = .ok (.iconst 3, 1)) rfl (by decide +kernel) ?_
        refine wm_irem 63 (by decide +kernel) rfl (by decide +kernel) ?_
        obtain ⟨D12a, H⟩ := H
        obtain ⟨D12b, H⟩ := H
        refine' wm_dia (pcJ := 84) (fun kt kf => wm_if_ne 66 78 (by decide +kernel : decode cX8_holds 63 = .ok (.ifCond .ne 15, 3)) (by decide) rfl kf kt) ?D12k (fun kj c1 => ?D12t) (fun kj c1 => ?D12f)
        case D12t =>
          have H := D12a c1
          refine wm_aload_n 0 67 (by decide +kernel) rfl rfl ?_
          refine wm_getr 8 6 4 121 70 fl_RX8_19 (by decide +kernel) rfl (by decide +kernel) rfl rfl (by decide) ?_
          refine wm_iload_n 1 71 (by decide +kernel) rfl rfl ?_
          have o10 := H
          refine wm_iald 6 72 (by decide +kernel) rfl (by decide +kernel) (by decide +kernel) o10 ?_
          refine wm_bipush 10 74 (by decide +kernel : decode cX8_holds 72 = .ok (.bipush 10, 2)) rfl (by decide +kernel) ?_
          refine wm_iadd 75 (by decide +kernel) rfl ?_
          refine wm_goto 84 (by decide +kernel : decode cX8_holds 75 = .ok (.goto 9, 3)) (by decide) ?_
          exact kj
        case D12f =>
          have H := D12b c1
          refine wm_aload_n 0 79 (by decide +kernel) rfl rfl ?_
          refine wm_getr 8 6 4 121 82 fl_RX8_19 (by decide +kernel) rfl (by decide +kernel) rfl rfl (by decide) ?_
          refine wm_iload_n 1 83 (by decide +kernel) rfl rfl ?_
          have o11 := H
          refine wm_iald 6 84 (by decide +kernel) rfl (by decide +kernel) (by decide +kernel) o11 ?_
          exact kj
        case D12k =>
          exact wm_iret (by decide +kernel) ⟨.int, rfl, rfl⟩ H
def f_X8_roomBy_J28 (x1 : Int32) (x2 : Int32) (xs0 : Int32) (xs1 : Int32)  (Q : Int32 → HP → Prop) (h : HP) : Prop :=
  ∀ x4_6 : Int32, x4_6 = (xs1 + xs0) →
  f_X8_at x1 5 h (fun v8 h7 =>
  ∀ x5_11 : Int32, x5_11 = (if v8 ≤ (x2 - x2 / 6 * 6) then (x4_6 : Int32) else 0) →
  f_X8_at x1 0 h7 (fun v13 h12 =>
  (((v13 = 1) →
    Q (if (x2 - x2 / 2 * 2) = 1 then (0 : Int32) else x4_6) h12) ∧
   (¬ (v13 = 1) →
    (((v13 = 2) →
      Q x5_11 h12) ∧
     (¬ (v13 = 2) →
      (((v13 = 3) →
        Q (if (x2 - x2 / 2 * 2) = 1 then (0 : Int32) else (x4_6 / 2)) h12) ∧
       (¬ (v13 = 3) →
        (((v13 = 4) →
          Q (3 * x5_11) h12) ∧
         (¬ (v13 = 4) →
          (((v13 = 5) →
            f_X8_at x1 4 h12 (fun v24 h23 =>
            Q (if v24 ≤ 4 then (x4_6 : Int32) else (2 * x4_6)) h23)) ∧
           (¬ (v13 = 5) →
            Q x4_6 h12))))))))))))
def f_X8_roomBy (x1 : Int32) (x2 : Int32) (x3 : Int32) (h : HP) (Q : Int32 → HP → Prop) : Prop :=
  f_X8_at x1 7 h (fun v2 h1 =>
  (((x2 < v2) →
    f_X8_at x1 3 h1 (fun v5 h4 =>
    f_X8_roomBy_J28 x1 x2 v5 x3  Q h4)) ∧
   (¬ (x2 < v2) →
    f_X8_at x1 6 h1 (fun v28 h27 =>
    f_X8_roomBy_J28 x1 x2 v28 x3  Q h27))))
set_option maxRecDepth 20000 in
theorem l_X8_roomBy_J28 (g : GE) (x1 : Int32) (x2 : Int32) (xs0 : Int32) (xs1 : Int32)   (Q : Int32 → HP → Prop)  (h : HP) (H : f_X8_roomBy_J28 x1 x2 xs0 xs1  Q h) : Wm g mX8_roomBy 28 [some (.ref 117), some (.int x1), some (.int x2), none, none, none] [(.int xs0), (.int xs1)] h (qi Q) := by
  unfold f_X8_roomBy_J28 at H
  refine wm_iadd 29 (by decide +kernel) rfl ?_
  replace H := H _ rfl
  refine wm_istore 4 31 [some _, some _, some _, none, some _, none] (by decide +kernel) rfl (by decide +kernel) (okS_spec rfl) rfl ?_
  refine wm_iload_n 2 32 (by decide +kernel) rfl rfl ?_
  refine wm_bipush 6 34 (by decide +kernel : decode cX8_roomBy 32 = .ok (.bipush 6, 2)) rfl (by decide +kernel) ?_
  refine wm_irem 35 (by decide +kernel) rfl (by decide +kernel) ?_
  refine wm_aload_n 0 36 (by decide +kernel) rfl rfl ?_
  refine wm_iload_n 1 37 (by decide +kernel) rfl rfl ?_
  refine wm_iconst 5 38 (by decide +kernel : decode cX8_roomBy 37 = .ok (.iconst 5, 1)) rfl (by decide +kernel) ?_
  refine wm_callVi mX8_at 2 8 [_, _] [_] _ _ 41 mo_X8_at np_X8_at ml_RX8_109 im_X8_at se_X8_at (by decide +kernel) (by decide +kernel) rfl rfl rfl (Nat.le_of_ble_eq_true rfl) (by decide +kernel) rfl (Nat.le_of_ble_eq_true rfl) _ (ent_pad 0 rfl) (l_X8_at g _ _ _ _ H) (fun v8 h7 H hzv8 => ?_)
  refine' wm_dia (pcJ := 50) (fun kt kf => wm_icmp_ge 44 48 (by decide +kernel : decode cX8_roomBy 41 = .ok (.if_icmp .ge 7, 3)) (by decide) rfl kt kf) ?D10k (fun kj c1 => ?D10t) (fun kj c1 => ?D10f)
  case D10t =>
    refine wm_iload 4 50 (by decide +kernel) rfl rfl ?_
    exact kj
  case D10f =>
    refine wm_iconst 0 45 (by decide +kernel : decode cX8_roomBy 44 = .ok (.iconst 0, 1)) rfl (by decide +kernel) ?_
    refine wm_goto 50 (by decide +kernel : decode cX8_roomBy 45 = .ok (.goto 5, 3)) (by decide) ?_
    exact kj
  case D10k =>
    replace H := H _ rfl
    refine wm_istore 5 52 [some _, some _, some _, none, some _, some _] (by decide +kernel) rfl (by decide +kernel) (okS_spec rfl) rfl ?_
    refine wm_aload_n 0 53 (by decide +kernel) rfl rfl ?_
    refine wm_iload_n 1 54 (by decide +kernel) rfl rfl ?_
    refine wm_iconst 0 55 (by decide +kernel : decode cX8_roomBy 54 = .ok (.iconst 0, 1)) rfl (by decide +kernel) ?_
    refine wm_callVi mX8_at 2 8 [_, _] [] _ _ 58 mo_X8_at np_X8_at ml_RX8_109 im_X8_at se_X8_at (by decide +kernel) (by decide +kernel) rfl rfl rfl (Nat.le_of_ble_eq_true rfl) (by decide +kernel) rfl (Nat.le_of_ble_eq_true rfl) _ (ent_pad 0 rfl) (l_X8_at g _ _ _ _ H) (fun v13 h12 H hzv13 => ?_)
    refine em_go H (fun c14 H => ?_) (fun c14 H => ?_)
    · refine wm_tin (off := 34) 1 92 c14 (by decide +kernel : decode cX8_roomBy 58 = .ok (.tableswitch 92 1 5 #[34, 48, 51, 67, 72], 34)) (by decide +kernel) (by decide +kernel) (by decide +kernel) (by decide) ?_
      refine wm_iload_n 2 93 (by decide +kernel) rfl rfl ?_
      refine wm_iconst 2 94 (by decide +kernel : decode cX8_roomBy 93 = .ok (.iconst 2, 1)) rfl (by decide +kernel) ?_
      refine wm_irem 95 (by decide +kernel) rfl (by decide +kernel) ?_
      refine wm_iconst 1 96 (by decide +kernel : decode cX8_roomBy 95 = .ok (.iconst 1, 1)) rfl (by decide +kernel) ?_
      refine' wm_dia (pcJ := 105) (fun kt kf => wm_icmp_ne 99 103 (by decide +kernel : decode cX8_roomBy 96 = .ok (.if_icmp .ne 7, 3)) (by decide) rfl kf kt) ?D16k (fun kj c1 => ?D16t) (fun kj c1 => ?D16f)
      case D16t =>
        refine wm_iconst 0 100 (by decide +kernel : decode cX8_roomBy 99 = .ok (.iconst 0, 1)) rfl (by decide +kernel) ?_
        refine wm_goto 105 (by decide +kernel : decode cX8_roomBy 100 = .ok (.goto 5, 3)) (by decide) ?_
        exact kj
      case D16f =>
        refine wm_iload 4 105 (by decide +kernel) rfl rfl ?_
        exact kj
      case D16k =>
        exact wm_iret (by decide +kernel) ⟨.int, rfl, rfl⟩ H
    · skip
      refine em_go H (fun c17 H => ?_) (fun c17 H => ?_)
      · refine wm_tin (off := 48) 2 106 c17 (by decide +kernel : decode cX8_roomBy 58 = .ok (.tableswitch 92 1 5 #[34, 48, 51, 67, 72], 34)) (by decide +kernel) (by decide +kernel) (by decide +kernel) (by decide) ?_
        refine wm_iload 5 108 (by decide +kernel) rfl rfl ?_
        exact wm_iret (by decide +kernel) ⟨.int, rfl, rfl⟩ H
      · skip
        refine em_go H (fun c18 H => ?_) (fun c18 H => ?_)
        · refine wm_tin (off := 51) 3 109 c18 (by decide +kernel : decode cX8_roomBy 58 = .ok (.tableswitch 92 1 5 #[34, 48, 51, 67, 72], 34)) (by decide +kernel) (by decide +kernel) (by decide +kernel) (by decide) ?_
          refine wm_iload_n 2 110 (by decide +kernel) rfl rfl ?_
          refine wm_iconst 2 111 (by decide +kernel : decode cX8_roomBy 110 = .ok (.iconst 2, 1)) rfl (by decide +kernel) ?_
          refine wm_irem 112 (by decide +kernel) rfl (by decide +kernel) ?_
          refine wm_iconst 1 113 (by decide +kernel : decode cX8_roomBy 112 = .ok (.iconst 1, 1)) rfl (by decide +kernel) ?_
          refine' wm_dia (pcJ := 124) (fun kt kf => wm_icmp_ne 116 120 (by decide +kernel : decode cX8_roomBy 113 = .ok (.if_icmp .ne 7, 3)) (by decide) rfl kf kt) ?D20k (fun kj c1 => ?D20t) (fun kj c1 => ?D20f)
          case D20t =>
            refine wm_iconst 0 117 (by decide +kernel : decode cX8_roomBy 116 = .ok (.iconst 0, 1)) rfl (by decide +kernel) ?_
            refine wm_goto 124 (by decide +kernel : decode cX8_roomBy 117 = .ok (.goto 7, 3)) (by decide) ?_
            exact kj
          case D20f =>
            refine wm_iload 4 122 (by decide +kernel) rfl rfl ?_
            refine wm_iconst 2 123 (by decide +kernel : decode cX8_roomBy 122 = .ok (.iconst 2, 1)) rfl (by decide +kernel) ?_
            refine wm_idiv 124 (by decide +kernel) rfl (by decide +kernel) ?_
            exact kj
          case D20k =>
            exact wm_iret (by decide +kernel) ⟨.int, rfl, rfl⟩ H
        · skip
          refine em_go H (fun c21 H => ?_) (fun c21 H => ?_)
          · refine wm_tin (off := 67) 4 125 c21 (by decide +kernel : decode cX8_roomBy 58 = .ok (.tableswitch 92 1 5 #[34, 48, 51, 67, 72], 34)) (by decide +kernel) (by decide +kernel) (by decide +kernel) (by decide) ?_
            refine wm_iconst 3 126 (by decide +kernel : decode cX8_roomBy 125 = .ok (.iconst 3, 1)) rfl (by decide +kernel) ?_
            refine wm_iload 5 128 (by decide +kernel) rfl rfl ?_
            refine wm_imul 129 (by decide +kernel) rfl ?_
            exact wm_iret (by decide +kernel) ⟨.int, rfl, rfl⟩ H
          · skip
            refine em_go H (fun c22 H => ?_) (fun c22 H => ?_)
            · refine wm_tin (off := 72) 5 130 c22 (by decide +kernel : decode cX8_roomBy 58 = .ok (.tableswitch 92 1 5 #[34, 48, 51, 67, 72], 34)) (by decide +kernel) (by decide +kernel) (by decide +kernel) (by decide) ?_
              refine wm_aload_n 0 131 (by decide +kernel) rfl rfl ?_
              refine wm_iload_n 1 132 (by decide +kernel) rfl rfl ?_
              refine wm_iconst 4 133 (by decide +kernel : decode cX8_roomBy 132 = .ok (.iconst 4, 1)) rfl (by decide +kernel) ?_
              refine wm_callVi mX8_at 2 8 [_, _] [] _ _ 136 mo_X8_at np_X8_at ml_RX8_109 im_X8_at se_X8_at (by decide +kernel) (by decide +kernel) rfl rfl rfl (Nat.le_of_ble_eq_true rfl) (by decide +kernel) rfl (Nat.le_of_ble_eq_true rfl) _ (ent_pad 0 rfl) (l_X8_at g _ _ _ _ H) (fun v24 h23 H hzv24 => ?_)
              refine wm_iconst 4 137 (by decide +kernel : decode cX8_roomBy 136 = .ok (.iconst 4, 1)) rfl (by decide +kernel) ?_
              refine' wm_dia (pcJ := 149) (fun kt kf => wm_icmp_le 140 147 (by decide +kernel : decode cX8_roomBy 137 = .ok (.if_icmp .le 10, 3)) (by decide) rfl kt kf) ?D26k (fun kj c1 => ?D26t) (fun kj c1 => ?D26f)
              case D26t =>
                refine wm_iload 4 149 (by decide +kernel) rfl rfl ?_
                exact kj
              case D26f =>
                refine wm_iconst 2 141 (by decide +kernel : decode cX8_roomBy 140 = .ok (.iconst 2, 1)) rfl (by decide +kernel) ?_
                refine wm_iload 4 143 (by decide +kernel) rfl rfl ?_
                refine wm_imul 144 (by decide +kernel) rfl ?_
                refine wm_goto 149 (by decide +kernel : decode cX8_roomBy 144 = .ok (.goto 5, 3)) (by decide) ?_
                exact kj
              case D26k =>
                exact wm_iret (by decide +kernel) ⟨.int, rfl, rfl⟩ H
            · skip
              refine wm_tout 150 (by decide +kernel : decode cX8_roomBy 58 = .ok (.tableswitch 92 1 5 #[34, 48, 51, 67, 72], 34)) (by have q0 := ne_toInt 1 (by decide +kernel) c14; have q1 := ne_toInt 2 (by decide +kernel) c17; have q2 := ne_toInt 3 (by decide +kernel) c18; have q3 := ne_toInt 4 (by decide +kernel) c21; have q4 := ne_toInt 5 (by decide +kernel) c22; omega) (by decide) ?_
              refine wm_iload 4 152 (by decide +kernel) rfl rfl ?_
              exact wm_iret (by decide +kernel) ⟨.int, rfl, rfl⟩ H
set_option maxRecDepth 20000 in
theorem l_X8_roomBy (g : GE) (x1 : Int32) (x2 : Int32) (x3 : Int32)  (h : HP) (Q : Int32 → HP → Prop) (H : f_X8_roomBy x1 x2 x3 h Q) : Wm g mX8_roomBy 0 [some (.ref 117), some (.int x1), some (.int x2), some (.int x3), none, none] [] h (qi Q) := by
  unfold f_X8_roomBy at H
  refine wm_iload_n 3 1 (by decide +kernel) rfl rfl ?_
  refine wm_iload_n 2 2 (by decide +kernel) rfl rfl ?_
  refine wm_aload_n 0 3 (by decide +kernel) rfl rfl ?_
  refine wm_iload_n 1 4 (by decide +kernel) rfl rfl ?_
  refine wm_bipush 7 6 (by decide +kernel : decode cX8_roomBy 4 = .ok (.bipush 7, 2)) rfl (by decide +kernel) ?_
  refine wm_callVi mX8_at 2 8 [_, _] [_, _] _ _ 9 mo_X8_at np_X8_at ml_RX8_109 im_X8_at se_X8_at (by decide +kernel) (by decide +kernel) rfl rfl rfl (Nat.le_of_ble_eq_true rfl) (by decide +kernel) rfl (Nat.le_of_ble_eq_true rfl) _ (ent_pad 0 rfl) (l_X8_at g _ _ _ _ H) (fun v2 h1 H hzv2 => ?_)
  refine wm_icmp_lt 12 22 (by decide +kernel : decode cX8_roomBy 9 = .ok (.if_icmp .lt 13, 3)) (by decide) rfl (fun c3 => ?_) (fun c3 => ?_)
  · replace H := H.1 c3
    refine wm_aload_n 0 23 (by decide +kernel) rfl rfl ?_
    refine wm_iload_n 1 24 (by decide +kernel) rfl rfl ?_
    refine wm_iconst 3 25 (by decide +kernel : decode cX8_roomBy 24 = .ok (.iconst 3, 1)) rfl (by decide +kernel) ?_
    refine wm_callVi mX8_at 2 8 [_, _] [_] _ _ 28 mo_X8_at np_X8_at ml_RX8_109 im_X8_at se_X8_at (by decide +kernel) (by decide +kernel) rfl rfl rfl (Nat.le_of_ble_eq_true rfl) (by decide +kernel) rfl (Nat.le_of_ble_eq_true rfl) _ (ent_pad 0 rfl) (l_X8_at g _ _ _ _ H) (fun v5 h4 H hzv5 => ?_)
    refine wm_mask [true, true, true, false, false, false] [some _, some _, some _, none, none, none] rfl ?_
    exact l_X8_roomBy_J28 g _ _ _ _ _  _ H
  · replace H := H.2 c3
    refine wm_aload_n 0 13 (by decide +kernel) rfl rfl ?_
    refine wm_iload_n 1 14 (by decide +kernel) rfl rfl ?_
    refine wm_bipush 6 16 (by decide +kernel : decode cX8_roomBy 14 = .ok (.bipush 6, 2)) rfl (by decide +kernel) ?_
    refine wm_callVi mX8_at 2 8 [_, _] [_] _ _ 19 mo_X8_at np_X8_at ml_RX8_109 im_X8_at se_X8_at (by decide +kernel) (by decide +kernel) rfl rfl rfl (Nat.le_of_ble_eq_true rfl) (by decide +kernel) rfl (Nat.le_of_ble_eq_true rfl) _ (ent_pad 0 rfl) (l_X8_at g _ _ _ _ H) (fun v28 h27 H hzv28 => ?_)
    refine wm_goto 28 (by decide +kernel : decode cX8_roomBy 19 = .ok (.goto 9, 3)) (by decide) ?_
    refine wm_mask [true, true, true, false, false, false] [some _, some _, some _, none, none, none] rfl ?_
    exact l_X8_roomBy_J28 g _ _ _ _ _  _ H
def f_X8_room (x1 : Int32) (x2 : Int32) (h : HP) (Q : Int32 → HP → Prop) : Prop :=
  f_X8_roomBy x1 x2 0 h (fun v2 h1 =>
  Q v2 h1)
set_option maxRecDepth 20000 in
theorem l_X8_room (g : GE) (x1 : Int32) (x2 : Int32)  (h : HP) (Q : Int32 → HP → Prop) (H : f_X8_room x1 x2 h Q) : Wm g mX8_room 0 [some (.ref 117), some (.int x1), some (.int x2)] [] h (qi Q) := by
  unfold f_X8_room at H
  refine wm_aload_n 0 1 (by decide +kernel) rfl rfl ?_
  refine wm_iload_n 1 2 (by decide +kernel) rfl rfl ?_
  refine wm_iload_n 2 3 (by decide +kernel) rfl rfl ?_
  refine wm_iconst 0 4 (by decide +kernel : decode cX8_room 3 = .ok (.iconst 0, 1)) rfl (by decide +kernel) ?_
  refine wm_callVi mX8_roomBy 3 8 [_, _, _] [] _ _ 7 mo_X8_roomBy np_X8_roomBy ml_RX8_113 im_X8_roomBy se_X8_roomBy (by decide +kernel) (by decide +kernel) rfl rfl rfl (Nat.le_of_ble_eq_true rfl) (by decide +kernel) rfl (Nat.le_of_ble_eq_true rfl) _ (ent_pad 2 rfl) (l_X8_roomBy g _ _ _ _ _ H) (fun v2 h1 H hzv2 => ?_)
  exact wm_iret (by decide +kernel) ⟨.int, rfl, rfl⟩ H
def f_X8_takes (x1 : Int32) (h : HP) (Q : Int32 → HP → Prop) : Prop :=
  f_X8_at x1 4 h (fun v2 h1 =>
  f_X8_at x1 0 h1 (fun v4 h3 =>
  (((v4 = 1) →
    Q (if 2 ≤ v2 then ((v2 / 2) : Int32) else 1) h3) ∧
   (¬ (v4 = 1) →
    (((v4 = 2) →
      Q (v2 + 1) h3) ∧
     (¬ (v4 = 2) →
      (((v4 = 3) →
        Q 1 h3) ∧
       (¬ (v4 = 3) →
        (((v4 = 4) →
          f_X8_at x1 5 h3 (fun v12 h11 =>
          Q ((v2 + 1) + v12) h11)) ∧
         (¬ (v4 = 4) →
          Q v2 h3))))))))))
set_option maxRecDepth 20000 in
theorem l_X8_takes (g : GE) (x1 : Int32)  (h : HP) (Q : Int32 → HP → Prop) (H : f_X8_takes x1 h Q) : Wm g mX8_takes 0 [some (.ref 117), some (.int x1), none] [] h (qi Q) := by
  unfold f_X8_takes at H
  refine wm_aload_n 0 1 (by decide +kernel) rfl rfl ?_
  refine wm_iload_n 1 2 (by decide +kernel) rfl rfl ?_
  refine wm_iconst 4 3 (by decide +kernel : decode cX8_takes 2 = .ok (.iconst 4, 1)) rfl (by decide +kernel) ?_
  refine wm_callVi mX8_at 2 8 [_, _] [] _ _ 6 mo_X8_at np_X8_at ml_RX8_109 im_X8_at se_X8_at (by decide +kernel) (by decide +kernel) rfl rfl rfl (Nat.le_of_ble_eq_true rfl) (by decide +kernel) rfl (Nat.le_of_ble_eq_true rfl) _ (ent_pad 0 rfl) (l_X8_at g _ _ _ _ H) (fun v2 h1 H hzv2 => ?_)
  refine wm_istore_n 2 7 [some _, some _, some _] (by decide +kernel) rfl (by decide +kernel) (okS_spec rfl) rfl ?_
  refine wm_aload_n 0 8 (by decide +kernel) rfl rfl ?_
  refine wm_iload_n 1 9 (by decide +kernel) rfl rfl ?_
  refine wm_iconst 0 10 (by decide +kernel : decode cX8_takes 9 = .ok (.iconst 0, 1)) rfl (by decide +kernel) ?_
  refine wm_callVi mX8_at 2 8 [_, _] [] _ _ 13 mo_X8_at np_X8_at ml_RX8_109 im_X8_at se_X8_at (by decide +kernel) (by decide +kernel) rfl rfl rfl (Nat.le_of_ble_eq_true rfl) (by decide +kernel) rfl (Nat.le_of_ble_eq_true rfl) _ (ent_pad 0 rfl) (l_X8_at g _ _ _ _ H) (fun v4 h3 H hzv4 => ?_)
  refine em_go H (fun c5 H => ?_) (fun c5 H => ?_)
  · refine wm_tin (off := 31) 1 44 c5 (by decide +kernel : decode cX8_takes 13 = .ok (.tableswitch 61 1 4 #[31, 44, 48, 50], 31)) (by decide +kernel) (by decide +kernel) (by decide +kernel) (by decide) ?_
    refine wm_iload_n 2 45 (by decide +kernel) rfl rfl ?_
    refine wm_iconst 2 46 (by decide +kernel : decode cX8_takes 45 = .ok (.iconst 2, 1)) rfl (by decide +kernel) ?_
    refine' wm_dia (pcJ := 56) (fun kt kf => wm_icmp_ge 49 53 (by decide +kernel : decode cX8_takes 46 = .ok (.if_icmp .ge 7, 3)) (by decide) rfl kt kf) ?D7k (fun kj c1 => ?D7t) (fun kj c1 => ?D7f)
    case D7t =>
      refine wm_iload_n 2 54 (by decide +kernel) rfl rfl ?_
      refine wm_iconst 2 55 (by decide +kernel : decode cX8_takes 54 = .ok (.iconst 2, 1)) rfl (by decide +kernel) ?_
      refine wm_idiv 56 (by decide +kernel) rfl (by decide +kernel) ?_
      exact kj
    case D7f =>
      refine wm_iconst 1 50 (by decide +kernel : decode cX8_takes 49 = .ok (.iconst 1, 1)) rfl (by decide +kernel) ?_
      refine wm_goto 56 (by decide +kernel : decode cX8_takes 50 = .ok (.goto 6, 3)) (by decide) ?_
      exact kj
    case D7k =>
      exact wm_iret (by decide +kernel) ⟨.int, rfl, rfl⟩ H
  · skip
    refine em_go H (fun c8 H => ?_) (fun c8 H => ?_)
    · refine wm_tin (off := 44) 2 57 c8 (by decide +kernel : decode cX8_takes 13 = .ok (.tableswitch 61 1 4 #[31, 44, 48, 50], 31)) (by decide +kernel) (by decide +kernel) (by decide +kernel) (by decide) ?_
      refine wm_iload_n 2 58 (by decide +kernel) rfl rfl ?_
      refine wm_iconst 1 59 (by decide +kernel : decode cX8_takes 58 = .ok (.iconst 1, 1)) rfl (by decide +kernel) ?_
      refine wm_iadd 60 (by decide +kernel) rfl ?_
      exact wm_iret (by decide +kernel) ⟨.int, rfl, rfl⟩ H
    · skip
      refine em_go H (fun c9 H => ?_) (fun c9 H => ?_)
      · refine wm_tin (off := 48) 3 61 c9 (by decide +kernel : decode cX8_takes 13 = .ok (.tableswitch 61 1 4 #[31, 44, 48, 50], 31)) (by decide +kernel) (by decide +kernel) (by decide +kernel) (by decide) ?_
        refine wm_iconst 1 62 (by decide +kernel : decode cX8_takes 61 = .ok (.iconst 1, 1)) rfl (by decide +kernel) ?_
        exact wm_iret (by decide +kernel) ⟨.int, rfl, rfl⟩ H
      · skip
        refine em_go H (fun c10 H => ?_) (fun c10 H => ?_)
        · refine wm_tin (off := 50) 4 63 c10 (by decide +kernel : decode cX8_takes 13 = .ok (.tableswitch 61 1 4 #[31, 44, 48, 50], 31)) (by decide +kernel) (by decide +kernel) (by decide +kernel) (by decide) ?_
          refine wm_iload_n 2 64 (by decide +kernel) rfl rfl ?_
          refine wm_iconst 1 65 (by decide +kernel : decode cX8_takes 64 = .ok (.iconst 1, 1)) rfl (by decide +kernel) ?_
          refine wm_iadd 66 (by decide +kernel) rfl ?_
          refine wm_aload_n 0 67 (by decide +kernel) rfl rfl ?_
          refine wm_iload_n 1 68 (by decide +kernel) rfl rfl ?_
          refine wm_iconst 5 69 (by decide +kernel : decode cX8_takes 68 = .ok (.iconst 5, 1)) rfl (by decide +kernel) ?_
          refine wm_callVi mX8_at 2 8 [_, _] [_] _ _ 72 mo_X8_at np_X8_at ml_RX8_109 im_X8_at se_X8_at (by decide +kernel) (by decide +kernel) rfl rfl rfl (Nat.le_of_ble_eq_true rfl) (by decide +kernel) rfl (Nat.le_of_ble_eq_true rfl) _ (ent_pad 0 rfl) (l_X8_at g _ _ _ _ H) (fun v12 h11 H hzv12 => ?_)
          refine wm_iadd 73 (by decide +kernel) rfl ?_
          exact wm_iret (by decide +kernel) ⟨.int, rfl, rfl⟩ H
        · skip
          refine wm_tout 74 (by decide +kernel : decode cX8_takes 13 = .ok (.tableswitch 61 1 4 #[31, 44, 48, 50], 31)) (by have q0 := ne_toInt 1 (by decide +kernel) c5; have q1 := ne_toInt 2 (by decide +kernel) c8; have q2 := ne_toInt 3 (by decide +kernel) c9; have q3 := ne_toInt 4 (by decide +kernel) c10; omega) (by decide) ?_
          refine wm_iload_n 2 75 (by decide +kernel) rfl rfl ?_
          exact wm_iret (by decide +kernel) ⟨.int, rfl, rfl⟩ H
def f_X8_onWay_L4 (x1 : Int32)  (Q : Int32 → HP → Prop) : Nat → Int32 → Int32 → HP → Prop
  | 0, _, _, _ => False
  | n + 1, x2, x3, h =>
    (((16 ≤ x3) →
      Q x2 h) ∧
     (¬ (16 ≤ x3) →
      vp_in ((16 * x1) + x3) 160 ∧
      ∀ x2_3 : Int32, x2_3 = (x2 + (gi h 124 (ix ((16 * x1) + x3)))) →
      ∀ x3_4 : Int32, x3_4 = (x3 + 1) →
      f_X8_onWay_L4 x1 Q n x2_3 x3_4 h))
def f_X8_onWay (x1 : Int32) (h : HP) (Q : Int32 → HP → Prop) : Prop :=
  ∃ n5, f_X8_onWay_L4 x1
    Q n5 0 0 h
set_option maxRecDepth 20000 in
theorem l_X8_onWay_L4 (g : GE) (x1 : Int32)   (Q : Int32 → HP → Prop)  : ∀ (n : Nat) (x2 : Int32) (x3 : Int32) (h : HP), f_X8_onWay_L4 x1 Q n x2 x3 h → Wm g mX8_onWay 4 [some (.ref 117), some (.int x1), some (.int x2), some (.int x3)] [] h (qi Q) := by
  intro n
  induction n with
  | zero => intro x2 x3 h H; exact H.elim
  | succ n ih =>
    intro x2 x3 h H
    unfold f_X8_onWay_L4 at H
    refine wm_iload_n 3 5 (by decide +kernel) rfl rfl ?_
    refine wm_bipush 16 7 (by decide +kernel : decode cX8_onWay 5 = .ok (.bipush 16, 2)) rfl (by decide +kernel) ?_
    refine wm_icmp_ge 10 30 (by decide +kernel : decode cX8_onWay 7 = .ok (.if_icmp .ge 23, 3)) (by decide) rfl (fun c1 => ?_) (fun c1 => ?_)
    · replace H := H.1 c1
      refine wm_iload_n 2 31 (by decide +kernel) rfl rfl ?_
      exact wm_iret (by decide +kernel) ⟨.int, rfl, rfl⟩ H
    · replace H := H.2 c1
      refine wm_iload_n 2 11 (by decide +kernel) rfl rfl ?_
      refine wm_aload_n 0 12 (by decide +kernel) rfl rfl ?_
      refine wm_getr 8 10 7 124 15 fl_RX8_28 (by decide +kernel) rfl (by decide +kernel) rfl rfl (by decide) ?_
      refine wm_bipush 16 17 (by decide +kernel : decode cX8_onWay 15 = .ok (.bipush 16, 2)) rfl (by decide +kernel) ?_
      refine wm_iload_n 1 18 (by decide +kernel) rfl rfl ?_
      refine wm_imul 19 (by decide +kernel) rfl ?_
      refine wm_iload_n 3 20 (by decide +kernel) rfl rfl ?_
      refine wm_iadd 21 (by decide +kernel) rfl ?_
      obtain ⟨o2, H⟩ := H
      refine wm_iald 160 22 (by decide +kernel) rfl (by decide +kernel) (by decide +kernel) o2 ?_
      refine wm_iadd 23 (by decide +kernel) rfl ?_
      replace H := H _ rfl
      refine wm_istore_n 2 24 [some _, some _, some _, some _] (by decide +kernel) rfl (by decide +kernel) (okS_spec rfl) rfl ?_
      replace H := H _ rfl
      refine wm_iinc 3 (_ + 1) 27 [some _, some _, some _, some _] (by decide +kernel : decode cX8_onWay 24 = .ok (.iinc 3 1, 3)) rfl (by decide +kernel) rfl (ofI_eq (by decide +kernel)) (okS_spec rfl) rfl ?_
      refine wm_goto 4 (by decide +kernel : decode cX8_onWay 27 = .ok (.goto (-23), 3)) (by decide) ?_
      exact ih _ _ _ H
set_option maxRecDepth 20000 in
theorem l_X8_onWay (g : GE) (x1 : Int32)  (h : HP) (Q : Int32 → HP → Prop) (H : f_X8_onWay x1 h Q) : Wm g mX8_onWay 0 [some (.ref 117), some (.int x1), none, none] [] h (qi Q) := by
  unfold f_X8_onWay at H
  refine wm_iconst 0 1 (by decide +kernel : decode cX8_onWay 0 = .ok (.iconst 0, 1)) rfl (by decide +kernel) ?_
  refine wm_istore_n 2 2 [some _, some _, some _, none] (by decide +kernel) rfl (by decide +kernel) (okS_spec rfl) rfl ?_
  refine wm_iconst 0 3 (by decide +kernel : decode cX8_onWay 2 = .ok (.iconst 0, 1)) rfl (by decide +kernel) ?_
  refine wm_istore_n 3 4 [some _, some _, some _, some _] (by decide +kernel) rfl (by decide +kernel) (okS_spec rfl) rfl ?_
  obtain ⟨n5, H⟩ := H
  refine l_X8_onWay_L4 g _ _  _ _ _ _ H
def f_X8_sumOf_L5 (a1 : Nat) (x2 : Int32)  (Q : Int32 → HP → Prop) : Nat → Int32 → Int32 → HP → Prop
  | 0, _, _, _ => False
  | n + 1, x3, x4, h =>
    (((x2 ≤ x4) →
      Q x3 h) ∧
     (¬ (x2 ≤ x4) →
      vp_in x4 (kn a1) ∧
      ∀ x3_3 : Int32, x3_3 = (x3 + (gi h a1 (ix x4))) →
      ∀ x4_4 : Int32, x4_4 = (x4 + 1) →
      f_X8_sumOf_L5 a1 x2 Q n x3_3 x4_4 h))
def f_X8_sumOf (a1 : Nat) (x2 : Int32) (h : HP) (Q : Int32 → HP → Prop) : Prop :=
  ∃ n5, f_X8_sumOf_L5 a1 x2
    Q n5 0 0 h
set_option maxRecDepth 20000 in
theorem l_X8_sumOf_L5 (g : GE) (a1 : Nat) (x2 : Int32) (ha1 : kd a1 = 10)  (Q : Int32 → HP → Prop)  : ∀ (n : Nat) (x3 : Int32) (x4 : Int32) (h : HP), f_X8_sumOf_L5 a1 x2 Q n x3 x4 h → Wm g mX8_sumOf 5 [none, some (.ref a1), some (.int x2), some (.int x3), some (.int x4)] [] h (qi Q) := by
  intro n
  induction n with
  | zero => intro x3 x4 h H; exact H.elim
  | succ n ih =>
    intro x3 x4 h H
    unfold f_X8_sumOf_L5 at H
    refine wm_iload 4 7 (by decide +kernel) rfl rfl ?_
    refine wm_iload_n 2 8 (by decide +kernel) rfl rfl ?_
    refine wm_icmp_ge 11 24 (by decide +kernel : decode cX8_sumOf 8 = .ok (.if_icmp .ge 16, 3)) (by decide) rfl (fun c1 => ?_) (fun c1 => ?_)
    · replace H := H.1 c1
      refine wm_iload_n 3 25 (by decide +kernel) rfl rfl ?_
      exact wm_iret (by decide +kernel) ⟨.int, rfl, rfl⟩ H
    · replace H := H.2 c1
      refine wm_iload_n 3 12 (by decide +kernel) rfl rfl ?_
      refine wm_aload_n 1 13 (by decide +kernel) rfl rfl ?_
      refine wm_iload 4 15 (by decide +kernel) rfl rfl ?_
      obtain ⟨o2, H⟩ := H
      refine wm_iald (kn a1) 16 (by decide +kernel) rfl ha1 rfl o2 ?_
      refine wm_iadd 17 (by decide +kernel) rfl ?_
      replace H := H _ rfl
      refine wm_istore_n 3 18 [none, some _, some _, some _, some _] (by decide +kernel) rfl (by decide +kernel) (okS_spec rfl) rfl ?_
      replace H := H _ rfl
      refine wm_iinc 4 (_ + 1) 21 [none, some _, some _, some _, some _] (by decide +kernel : decode cX8_sumOf 18 = .ok (.iinc 4 1, 3)) rfl (by decide +kernel) rfl (ofI_eq (by decide +kernel)) (okS_spec rfl) rfl ?_
      refine wm_goto 5 (by decide +kernel : decode cX8_sumOf 21 = .ok (.goto (-16), 3)) (by decide) ?_
      exact ih _ _ _ H
set_option maxRecDepth 20000 in
theorem l_X8_sumOf (g : GE) (a1 : Nat) (x2 : Int32) (ha1 : kd a1 = 10) (h : HP) (Q : Int32 → HP → Prop) (H : f_X8_sumOf a1 x2 h Q) : Wm g mX8_sumOf 0 [some (.ref 117), some (.ref a1), some (.int x2), none, none] [] h (qi Q) := by
  unfold f_X8_sumOf at H
  refine wm_iconst 0 1 (by decide +kernel : decode cX8_sumOf 0 = .ok (.iconst 0, 1)) rfl (by decide +kernel) ?_
  refine wm_istore_n 3 2 [some _, some _, some _, some _, none] (by decide +kernel) rfl (by decide +kernel) (okS_spec rfl) rfl ?_
  refine wm_iconst 0 3 (by decide +kernel : decode cX8_sumOf 2 = .ok (.iconst 0, 1)) rfl (by decide +kernel) ?_
  refine wm_istore 4 5 [some _, some _, some _, some _, some _] (by decide +kernel) rfl (by decide +kernel) (okS_spec rfl) rfl ?_
  obtain ⟨n5, H⟩ := H
  refine wm_mask [false, true, true, true, true] [none, some _, some _, some _, some _] rfl ?_
  refine l_X8_sumOf_L5 g _ _ ha1 _  _ _ _ _ H
def f_X8_allOnWay  (h : HP) (Q : Int32 → HP → Prop) : Prop :=
  f_X8_sumOf 124 160 h (fun v2 h1 =>
  Q v2 h1)
set_option maxRecDepth 20000 in
theorem l_X8_allOnWay (g : GE)   (h : HP) (Q : Int32 → HP → Prop) (H : f_X8_allOnWay  h Q) : Wm g mX8_allOnWay 0 [some (.ref 117)] [] h (qi Q) := by
  unfold f_X8_allOnWay at H
  refine wm_aload_n 0 1 (by decide +kernel) rfl rfl ?_
  refine wm_aload_n 0 2 (by decide +kernel) rfl rfl ?_
  refine wm_getr 8 10 7 124 5 fl_RX8_28 (by decide +kernel) rfl (by decide +kernel) rfl rfl (by decide) ?_
  refine wm_sipush 160 8 (by decide +kernel : decode cX8_allOnWay 5 = .ok (.sipush 160, 3)) rfl (by decide +kernel) ?_
  refine wm_callVi mX8_sumOf 2 8 [_, _] [] _ _ 11 mo_X8_sumOf np_X8_sumOf ml_RX8_117 im_X8_sumOf se_X8_sumOf (by decide +kernel) (by decide +kernel) rfl rfl rfl (Nat.le_of_ble_eq_true rfl) (by decide +kernel) rfl (Nat.le_of_ble_eq_true rfl) _ (ent_pad 2 rfl) (l_X8_sumOf g _ _ (by decide +kernel) _ _ H) (fun v2 h1 H hzv2 => ?_)
  exact wm_iret (by decide +kernel) ⟨.int, rfl, rfl⟩ H
def f_X8_goods  (h : HP) (Q : Int32 → HP → Prop) : Prop :=
  f_X8_sumOf 120 (gi h 117 3) h (fun v2 h1 =>
  f_X8_allOnWay h1 (fun v4 h3 =>
  Q (v2 + v4) h3))
set_option maxRecDepth 20000 in
theorem l_X8_goods (g : GE)   (h : HP) (Q : Int32 → HP → Prop) (H : f_X8_goods  h Q) : Wm g mX8_goods 0 [some (.ref 117)] [] h (qi Q) := by
  unfold f_X8_goods at H
  refine wm_aload_n 0 1 (by decide +kernel) rfl rfl ?_
  refine wm_aload_n 0 2 (by decide +kernel) rfl rfl ?_
  refine wm_getr 8 5 3 120 5 fl_RX8_16 (by decide +kernel) rfl (by decide +kernel) rfl rfl (by decide) ?_
  refine wm_aload_n 0 6 (by decide +kernel) rfl rfl ?_
  refine wm_geti 8 3 9 fl_RX8_97 (by decide +kernel) rfl (by decide +kernel) rfl ?_
  refine wm_callVi mX8_sumOf 2 8 [_, _] [] _ _ 12 mo_X8_sumOf np_X8_sumOf ml_RX8_117 im_X8_sumOf se_X8_sumOf (by decide +kernel) (by decide +kernel) rfl rfl rfl (Nat.le_of_ble_eq_true rfl) (by decide +kernel) rfl (Nat.le_of_ble_eq_true rfl) _ (ent_pad 2 rfl) (l_X8_sumOf g _ _ (by decide +kernel) _ _ H) (fun v2 h1 H hzv2 => ?_)
  refine wm_aload_n 0 13 (by decide +kernel) rfl rfl ?_
  refine wm_callVi mX8_allOnWay 0 8 [] [_] _ _ 16 mo_X8_allOnWay np_X8_allOnWay ml_RX8_121 im_X8_allOnWay se_X8_allOnWay (by decide +kernel) (by decide +kernel) rfl rfl rfl (Nat.le_of_ble_eq_true rfl) (by decide +kernel) rfl (Nat.le_of_ble_eq_true rfl) _ (ent_pad 0 rfl) (l_X8_allOnWay g _ _ H) (fun v4 h3 H hzv4 => ?_)
  refine wm_iadd 17 (by decide +kernel) rfl ?_
  exact wm_iret (by decide +kernel) ⟨.int, rfl, rfl⟩ H
def f_X8_addStation (x1 : Int32) (x2 : Int32) (x3 : Int32) (h : HP) (Q : HP → Prop) : Prop :=
  vp_in (gi h 117 3) 6 ∧
  ∀ h2 : HP, h2 = si h 119 (ix (gi h 117 3)) x1 →
  vp_in (gi h2 117 3) 6 ∧
  ∀ h4 : HP, h4 = si h2 120 (ix (gi h2 117 3)) x2 →
  vp_in (gi h4 117 3) 6 ∧
  ∀ h6 : HP, h6 = si h4 121 (ix (gi h4 117 3)) x3 →
  ∀ h7 : HP, h7 = si h6 117 3 ((gi h6 117 3) + 1) →
  Q h7
set_option maxRecDepth 20000 in
theorem l_X8_addStation (g : GE) (x1 : Int32) (x2 : Int32) (x3 : Int32)  (h : HP) (Q : HP → Prop) (H : f_X8_addStation x1 x2 x3 h Q) : Wm g mX8_addStation 0 [some (.ref 117), some (.int x1), some (.int x2), some (.int x3)] [] h (qv Q) := by
  unfold f_X8_addStation at H
  refine wm_aload_n 0 1 (by decide +kernel) rfl rfl ?_
  refine wm_getr 8 4 2 119 4 fl_RX8_13 (by decide +kernel) rfl (by decide +kernel) rfl rfl (by decide) ?_
  refine wm_aload_n 0 5 (by decide +kernel) rfl rfl ?_
  refine wm_geti 8 3 8 fl_RX8_97 (by decide +kernel) rfl (by decide +kernel) rfl ?_
  refine wm_iload_n 1 9 (by decide +kernel) rfl rfl ?_
  obtain ⟨o1, H⟩ := H
  replace H := H _ rfl
  refine wm_iast 6 10 (by decide +kernel) rfl (by decide +kernel) (by decide +kernel) o1 ?_
  refine wm_aload_n 0 11 (by decide +kernel) rfl rfl ?_
  refine wm_getr 8 5 3 120 14 fl_RX8_16 (by decide +kernel) rfl (by decide +kernel) rfl rfl (by decide) ?_
  refine wm_aload_n 0 15 (by decide +kernel) rfl rfl ?_
  refine wm_geti 8 3 18 fl_RX8_97 (by decide +kernel) rfl (by decide +kernel) rfl ?_
  refine wm_iload_n 2 19 (by decide +kernel) rfl rfl ?_
  obtain ⟨o3, H⟩ := H
  replace H := H _ rfl
  refine wm_iast 6 20 (by decide +kernel) rfl (by decide +kernel) (by decide +kernel) o3 ?_
  refine wm_aload_n 0 21 (by decide +kernel) rfl rfl ?_
  refine wm_getr 8 6 4 121 24 fl_RX8_19 (by decide +kernel) rfl (by decide +kernel) rfl rfl (by decide) ?_
  refine wm_aload_n 0 25 (by decide +kernel) rfl rfl ?_
  refine wm_geti 8 3 28 fl_RX8_97 (by decide +kernel) rfl (by decide +kernel) rfl ?_
  refine wm_iload_n 3 29 (by decide +kernel) rfl rfl ?_
  obtain ⟨o5, H⟩ := H
  replace H := H _ rfl
  refine wm_iast 6 30 (by decide +kernel) rfl (by decide +kernel) (by decide +kernel) o5 ?_
  refine wm_aload_n 0 31 (by decide +kernel) rfl rfl ?_
  refine wm_dup 32 (by decide +kernel) rfl rfl ?_
  refine wm_geti 8 3 35 fl_RX8_97 (by decide +kernel) rfl (by decide +kernel) rfl ?_
  refine wm_iconst 1 36 (by decide +kernel : decode cX8_addStation 35 = .ok (.iconst 1, 1)) rfl (by decide +kernel) ?_
  refine wm_iadd 37 (by decide +kernel) rfl ?_
  replace H := H _ rfl
  refine wm_puti 8 3 40 fl_RX8_97 (by decide +kernel) rfl (by decide +kernel) rfl rfl ⟨rfl, rfl⟩ ?_
  exact wm_vret (by decide +kernel) rfl H
def f_X8_addLine_L104   (Q : HP → Prop) : Nat → Int32 → HP → Prop
  | 0, _, _ => False
  | n + 1, x5, h =>
    (((16 ≤ x5) →
      ∀ h21 : HP, h21 = si h 117 7 ((gi h 117 7) + 1) →
      Q h21) ∧
     (¬ (16 ≤ x5) →
      vp_in ((16 * (gi h 117 7)) + x5) 160 ∧
      ∀ h23 : HP, h23 = si h 124 (ix ((16 * (gi h 117 7)) + x5)) 0 →
      ∀ x5_24 : Int32, x5_24 = (x5 + 1) →
      f_X8_addLine_L104 Q n x5_24 h23))
def f_X8_addLine (x1 : Int32) (x2 : Int32) (x3 : Int32) (h : HP) (Q : HP → Prop) : Prop :=
  ∀ x4_1 : Int32, x4_1 = (8 * (gi h 117 7)) →
  vp_in x4_1 80 ∧
  ∀ h3 : HP, h3 = si h 122 (ix x4_1) x1 →
  vp_in (x4_1 + 1) 80 ∧
  ∀ h5 : HP, h5 = si h3 122 (ix (x4_1 + 1)) x2 →
  vp_in (x4_1 + 2) 80 ∧
  ∀ h7 : HP, h7 = si h5 122 (ix (x4_1 + 2)) x3 →
  vp_in (x4_1 + 3) 80 ∧
  ∀ h9 : HP, h9 = si h7 122 (ix (x4_1 + 3)) 10 →
  vp_in (x4_1 + 4) 80 ∧
  ∀ h11 : HP, h11 = si h9 122 (ix (x4_1 + 4)) 1 →
  vp_in (x4_1 + 5) 80 ∧
  ∀ h13 : HP, h13 = si h11 122 (ix (x4_1 + 5)) 0 →
  vp_in (x4_1 + 6) 80 ∧
  ∀ h15 : HP, h15 = si h13 122 (ix (x4_1 + 6)) 0 →
  vp_in (x4_1 + 7) 80 ∧
  ∀ h17 : HP, h17 = si h15 122 (ix (x4_1 + 7)) 99999 →
  vp_in (gi h17 117 7) 10 ∧
  ∀ h19 : HP, h19 = si h17 123 (ix (gi h17 117 7)) 0 →
  ∃ n25, f_X8_addLine_L104 
    Q n25 0 h19
set_option maxRecDepth 20000 in
theorem l_X8_addLine_L104 (g : GE)    (Q : HP → Prop)  : ∀ (n : Nat) (x5 : Int32) (h : HP), f_X8_addLine_L104 Q n x5 h → Wm g mX8_addLine 104 [some (.ref 117), none, none, none, none, some (.int x5)] [] h (qv Q) := by
  intro n
  induction n with
  | zero => intro x5 h H; exact H.elim
  | succ n ih =>
    intro x5 h H
    unfold f_X8_addLine_L104 at H
    refine wm_iload 5 106 (by decide +kernel) rfl rfl ?_
    refine wm_bipush 16 108 (by decide +kernel : decode cX8_addLine 106 = .ok (.bipush 16, 2)) rfl (by decide +kernel) ?_
    refine wm_icmp_ge 111 133 (by decide +kernel : decode cX8_addLine 108 = .ok (.if_icmp .ge 25, 3)) (by decide) rfl (fun c20 => ?_) (fun c20 => ?_)
    · replace H := H.1 c20
      refine wm_aload_n 0 134 (by decide +kernel) rfl rfl ?_
      refine wm_dup 135 (by decide +kernel) rfl rfl ?_
      refine wm_geti 8 7 138 fl_RX8_105 (by decide +kernel) rfl (by decide +kernel) rfl ?_
      refine wm_iconst 1 139 (by decide +kernel : decode cX8_addLine 138 = .ok (.iconst 1, 1)) rfl (by decide +kernel) ?_
      refine wm_iadd 140 (by decide +kernel) rfl ?_
      replace H := H _ rfl
      refine wm_puti 8 7 143 fl_RX8_105 (by decide +kernel) rfl (by decide +kernel) rfl rfl ⟨rfl, rfl⟩ ?_
      exact wm_vret (by decide +kernel) rfl H
    · replace H := H.2 c20
      refine wm_aload_n 0 112 (by decide +kernel) rfl rfl ?_
      refine wm_getr 8 10 7 124 115 fl_RX8_28 (by decide +kernel) rfl (by decide +kernel) rfl rfl (by decide) ?_
      refine wm_bipush 16 117 (by decide +kernel : decode cX8_addLine 115 = .ok (.bipush 16, 2)) rfl (by decide +kernel) ?_
      refine wm_aload_n 0 118 (by decide +kernel) rfl rfl ?_
      refine wm_geti 8 7 121 fl_RX8_105 (by decide +kernel) rfl (by decide +kernel) rfl ?_
      refine wm_imul 122 (by decide +kernel) rfl ?_
      refine wm_iload 5 124 (by decide +kernel) rfl rfl ?_
      refine wm_iadd 125 (by decide +kernel) rfl ?_
      refine wm_iconst 0 126 (by decide +kernel : decode cX8_addLine 125 = .ok (.iconst 0, 1)) rfl (by decide +kernel) ?_
      obtain ⟨o22, H⟩ := H
      replace H := H _ rfl
      refine wm_iast 160 127 (by decide +kernel) rfl (by decide +kernel) (by decide +kernel) o22 ?_
      replace H := H _ rfl
      refine wm_iinc 5 (_ + 1) 130 [some _, none, none, none, none, some _] (by decide +kernel : decode cX8_addLine 127 = .ok (.iinc 5 1, 3)) rfl (by decide +kernel) rfl (ofI_eq (by decide +kernel)) (okS_spec rfl) rfl ?_
      refine wm_goto 104 (by decide +kernel : decode cX8_addLine 130 = .ok (.goto (-26), 3)) (by decide) ?_
      exact ih _ _ H
set_option maxRecDepth 20000 in
theorem l_X8_addLine (g : GE) (x1 : Int32) (x2 : Int32) (x3 : Int32)  (h : HP) (Q : HP → Prop) (H : f_X8_addLine x1 x2 x3 h Q) : Wm g mX8_addLine 0 [some (.ref 117), some (.int x1), some (.int x2), some (.int x3), none, none] [] h (qv Q) := by
  unfold f_X8_addLine at H
  refine wm_bipush 8 2 (by decide +kernel : decode cX8_addLine 0 = .ok (.bipush 8, 2)) rfl (by decide +kernel) ?_
  refine wm_aload_n 0 3 (by decide +kernel) rfl rfl ?_
  refine wm_geti 8 7 6 fl_RX8_105 (by decide +kernel) rfl (by decide +kernel) rfl ?_
  refine wm_imul 7 (by decide +kernel) rfl ?_
  replace H := H _ rfl
  refine wm_istore 4 9 [some _, some _, some _, some _, some _, none] (by decide +kernel) rfl (by decide +kernel) (okS_spec rfl) rfl ?_
  refine wm_aload_n 0 10 (by decide +kernel) rfl rfl ?_
  refine wm_getr 8 8 5 122 13 fl_RX8_22 (by decide +kernel) rfl (by decide +kernel) rfl rfl (by decide) ?_
  refine wm_iload 4 15 (by decide +kernel) rfl rfl ?_
  refine wm_iload_n 1 16 (by decide +kernel) rfl rfl ?_
  obtain ⟨o2, H⟩ := H
  replace H := H _ rfl
  refine wm_iast 80 17 (by decide +kernel) rfl (by decide +kernel) (by decide +kernel) o2 ?_
  refine wm_aload_n 0 18 (by decide +kernel) rfl rfl ?_
  refine wm_getr 8 8 5 122 21 fl_RX8_22 (by decide +kernel) rfl (by decide +kernel) rfl rfl (by decide) ?_
  refine wm_iload 4 23 (by decide +kernel) rfl rfl ?_
  refine wm_iconst 1 24 (by decide +kernel : decode cX8_addLine 23 = .ok (.iconst 1, 1)) rfl (by decide +kernel) ?_
  refine wm_iadd 25 (by decide +kernel) rfl ?_
  refine wm_iload_n 2 26 (by decide +kernel) rfl rfl ?_
  obtain ⟨o4, H⟩ := H
  replace H := H _ rfl
  refine wm_iast 80 27 (by decide +kernel) rfl (by decide +kernel) (by decide +kernel) o4 ?_
  refine wm_aload_n 0 28 (by decide +kernel) rfl rfl ?_
  refine wm_getr 8 8 5 122 31 fl_RX8_22 (by decide +kernel) rfl (by decide +kernel) rfl rfl (by decide) ?_
  refine wm_iload 4 33 (by decide +kernel) rfl rfl ?_
  refine wm_iconst 2 34 (by decide +kernel : decode cX8_addLine 33 = .ok (.iconst 2, 1)) rfl (by decide +kernel) ?_
  refine wm_iadd 35 (by decide +kernel) rfl ?_
  refine wm_iload_n 3 36 (by decide +kernel) rfl rfl ?_
  obtain ⟨o6, H⟩ := H
  replace H := H _ rfl
  refine wm_iast 80 37 (by decide +kernel) rfl (by decide +kernel) (by decide +kernel) o6 ?_
  refine wm_aload_n 0 38 (by decide +kernel) rfl rfl ?_
  refine wm_getr 8 8 5 122 41 fl_RX8_22 (by decide +kernel) rfl (by decide +kernel) rfl rfl (by decide) ?_
  refine wm_iload 4 43 (by decide +kernel) rfl rfl ?_
  refine wm_iconst 3 44 (by decide +kernel : decode cX8_addLine 43 = .ok (.iconst 3, 1)) rfl (by decide +kernel) ?_
  refine wm_iadd 45 (by decide +kernel) rfl ?_
  refine wm_bipush 10 47 (by decide +kernel : decode cX8_addLine 45 = .ok (.bipush 10, 2)) rfl (by decide +kernel) ?_
  obtain ⟨o8, H⟩ := H
  replace H := H _ rfl
  refine wm_iast 80 48 (by decide +kernel) rfl (by decide +kernel) (by decide +kernel) o8 ?_
  refine wm_aload_n 0 49 (by decide +kernel) rfl rfl ?_
  refine wm_getr 8 8 5 122 52 fl_RX8_22 (by decide +kernel) rfl (by decide +kernel) rfl rfl (by decide) ?_
  refine wm_iload 4 54 (by decide +kernel) rfl rfl ?_
  refine wm_iconst 4 55 (by decide +kernel : decode cX8_addLine 54 = .ok (.iconst 4, 1)) rfl (by decide +kernel) ?_
  refine wm_iadd 56 (by decide +kernel) rfl ?_
  refine wm_iconst 1 57 (by decide +kernel : decode cX8_addLine 56 = .ok (.iconst 1, 1)) rfl (by decide +kernel) ?_
  obtain ⟨o10, H⟩ := H
  replace H := H _ rfl
  refine wm_iast 80 58 (by decide +kernel) rfl (by decide +kernel) (by decide +kernel) o10 ?_
  refine wm_aload_n 0 59 (by decide +kernel) rfl rfl ?_
  refine wm_getr 8 8 5 122 62 fl_RX8_22 (by decide +kernel) rfl (by decide +kernel) rfl rfl (by decide) ?_
  refine wm_iload 4 64 (by decide +kernel) rfl rfl ?_
  refine wm_iconst 5 65 (by decide +kernel : decode cX8_addLine 64 = .ok (.iconst 5, 1)) rfl (by decide +kernel) ?_
  refine wm_iadd 66 (by decide +kernel) rfl ?_
  refine wm_iconst 0 67 (by decide +kernel : decode cX8_addLine 66 = .ok (.iconst 0, 1)) rfl (by decide +kernel) ?_
  obtain ⟨o12, H⟩ := H
  replace H := H _ rfl
  refine wm_iast 80 68 (by decide +kernel) rfl (by decide +kernel) (by decide +kernel) o12 ?_
  refine wm_aload_n 0 69 (by decide +kernel) rfl rfl ?_
  refine wm_getr 8 8 5 122 72 fl_RX8_22 (by decide +kernel) rfl (by decide +kernel) rfl rfl (by decide) ?_
  refine wm_iload 4 74 (by decide +kernel) rfl rfl ?_
  refine wm_bipush 6 76 (by decide +kernel : decode cX8_addLine 74 = .ok (.bipush 6, 2)) rfl (by decide +kernel) ?_
  refine wm_iadd 77 (by decide +kernel) rfl ?_
  refine wm_iconst 0 78 (by decide +kernel : decode cX8_addLine 77 = .ok (.iconst 0, 1)) rfl (by decide +kernel) ?_
  obtain ⟨o14, H⟩ := H
  replace H := H _ rfl
  refine wm_iast 80 79 (by decide +kernel) rfl (by decide +kernel) (by decide +kernel) o14 ?_
  refine wm_aload_n 0 80 (by decide +kernel) rfl rfl ?_
  refine wm_getr 8 8 5 122 83 fl_RX8_22 (by decide +kernel) rfl (by decide +kernel) rfl rfl (by decide) ?_
  refine wm_iload 4 85 (by decide +kernel) rfl rfl ?_
  refine wm_bipush 7 87 (by decide +kernel : decode cX8_addLine 85 = .ok (.bipush 7, 2)) rfl (by decide +kernel) ?_
  refine wm_iadd 88 (by decide +kernel) rfl ?_
  refine wm_ldc 99999 90 co_RX8_108 (by decide +kernel) rfl ?_
  obtain ⟨o16, H⟩ := H
  replace H := H _ rfl
  refine wm_iast 80 91 (by decide +kernel) rfl (by decide +kernel) (by decide +kernel) o16 ?_
  refine wm_aload_n 0 92 (by decide +kernel) rfl rfl ?_
  refine wm_getr 8 9 6 123 95 fl_RX8_25 (by decide +kernel) rfl (by decide +kernel) rfl rfl (by decide) ?_
  refine wm_aload_n 0 96 (by decide +kernel) rfl rfl ?_
  refine wm_geti 8 7 99 fl_RX8_105 (by decide +kernel) rfl (by decide +kernel) rfl ?_
  refine wm_iconst 0 100 (by decide +kernel : decode cX8_addLine 99 = .ok (.iconst 0, 1)) rfl (by decide +kernel) ?_
  obtain ⟨o18, H⟩ := H
  replace H := H _ rfl
  refine wm_iast 10 101 (by decide +kernel) rfl (by decide +kernel) (by decide +kernel) o18 ?_
  refine wm_iconst 0 102 (by decide +kernel : decode cX8_addLine 101 = .ok (.iconst 0, 1)) rfl (by decide +kernel) ?_
  refine wm_istore 5 104 [some _, some _, some _, some _, some _, some _] (by decide +kernel) rfl (by decide +kernel) (okS_spec rfl) rfl ?_
  obtain ⟨n25, H⟩ := H
  refine wm_mask [true, false, false, false, false, true] [some _, none, none, none, none, some _] rfl ?_
  refine l_X8_addLine_L104 g _  _ _ _ H
def f_X8_station (x1 : Int32) (x2 : Int32) (h : HP) (Q : Int32 → HP → Prop) : Prop :=
  f_X8_in ((x1 : Int32).toInt64) (0 : Int64) (3 : Int64) h (fun v2 h1 =>
  (((v2 = 0) →
    f_X8_finds (-1000000001 : Int32) h1 (fun v5 h4 =>
    Q v5 h4)) ∧
   (¬ (v2 = 0) →
    f_X8_in ((x2 : Int32).toInt64) (0 : Int64) (999 : Int64) h1 (fun v7 h6 =>
    (((v7 = 0) →
      f_X8_finds (-1000000001 : Int32) h6 (fun v14 h13 =>
      Q v14 h13)) ∧
     (¬ (v7 = 0) →
      ((((gi h6 117 3) = 6) →
        f_X8_finds (-1000000002 : Int32) h6 (fun v12 h11 =>
        Q v12 h11)) ∧
       (¬ ((gi h6 117 3) = 6) →
        f_X8_addStation x1 x2 20 h6 (fun h10 =>
        Q ((gi h10 117 3) - 1) h10)))))))))
set_option maxRecDepth 20000 in
theorem l_X8_station (g : GE) (x1 : Int32) (x2 : Int32)  (h : HP) (Q : Int32 → HP → Prop) (H : f_X8_station x1 x2 h Q) : Wm g mX8_station 0 [some (.ref 117), some (.int x1), some (.int x2)] [] h (qi Q) := by
  unfold f_X8_station at H
  refine wm_iload_n 1 1 (by decide +kernel) rfl rfl ?_
  refine wm_i2l 2 (by decide +kernel) rfl ?_
  refine wm_lconst 0 3 (by decide +kernel : decode cX8_station 2 = .ok (.lconst 0, 1)) rfl (by decide +kernel) ?_
  refine wm_ldc2 3 6 cl_RX8_125 (by decide +kernel) rfl ?_
  refine wm_callSi mX8_in 3 [_, _, _] [] _ _ 9 mo_X8_in np_X8_in ml_RX8_101 sc_X8_in (by decide +kernel) (by decide +kernel) rfl rfl rfl (Nat.le_of_ble_eq_true rfl) (Nat.le_of_ble_eq_true rfl) _ (ent_pad 0 rfl) (l_X8_in g _ _ _ _ _ H) (fun v2 h1 H hzv2 => ?_)
  refine wm_if_eq 12 24 (by decide +kernel : decode cX8_station 9 = .ok (.ifCond .eq 15, 3)) (by decide) rfl (fun c3 => ?_) (fun c3 => ?_)
  · replace H := H.1 c3
    refine wm_aload_n 0 25 (by decide +kernel) rfl rfl ?_
    refine wm_ldc (-1000000001) 27 co_RX8_96 (by decide +kernel) rfl ?_
    refine wm_callVi mX8_finds 1 8 [_] [] _ _ 30 mo_X8_finds np_X8_finds ml_RX8_129 im_X8_finds se_X8_finds (by decide +kernel) (by decide +kernel) rfl rfl rfl (Nat.le_of_ble_eq_true rfl) (by decide +kernel) rfl (Nat.le_of_ble_eq_true rfl) _ (ent_pad 0 rfl) (l_X8_finds g _ _ _ H) (fun v5 h4 H hzv5 => ?_)
    exact wm_iret (by decide +kernel) ⟨.int, rfl, rfl⟩ H
  · replace H := H.2 c3
    refine wm_iload_n 2 13 (by decide +kernel) rfl rfl ?_
    refine wm_i2l 14 (by decide +kernel) rfl ?_
    refine wm_lconst 0 15 (by decide +kernel : decode cX8_station 14 = .ok (.lconst 0, 1)) rfl (by decide +kernel) ?_
    refine wm_ldc2 999 18 cl_RX8_127 (by decide +kernel) rfl ?_
    refine wm_callSi mX8_in 3 [_, _, _] [] _ _ 21 mo_X8_in np_X8_in ml_RX8_101 sc_X8_in (by decide +kernel) (by decide +kernel) rfl rfl rfl (Nat.le_of_ble_eq_true rfl) (Nat.le_of_ble_eq_true rfl) _ (ent_pad 0 rfl) (l_X8_in g _ _ _ _ _ H) (fun v7 h6 H hzv7 => ?_)
    refine wm_if_ne 24 31 (by decide +kernel : decode cX8_station 21 = .ok (.ifCond .ne 10, 3)) (by decide) rfl (fun c8 => ?_) (fun c8 => ?_)
    · replace H := H.2 c8
      refine wm_aload_n 0 32 (by decide +kernel) rfl rfl ?_
      refine wm_geti 8 3 35 fl_RX8_97 (by decide +kernel) rfl (by decide +kernel) rfl ?_
      refine wm_bipush 6 37 (by decide +kernel : decode cX8_station 35 = .ok (.bipush 6, 2)) rfl (by decide +kernel) ?_
      refine wm_icmp_ne 40 47 (by decide +kernel : decode cX8_station 37 = .ok (.if_icmp .ne 10, 3)) (by decide) rfl (fun c9 => ?_) (fun c9 => ?_)
      · replace H := H.2 c9
        refine wm_aload_n 0 48 (by decide +kernel) rfl rfl ?_
        refine wm_iload_n 1 49 (by decide +kernel) rfl rfl ?_
        refine wm_iload_n 2 50 (by decide +kernel) rfl rfl ?_
        refine wm_bipush 20 52 (by decide +kernel : decode cX8_station 50 = .ok (.bipush 20, 2)) rfl (by decide +kernel) ?_
        refine wm_callVv mX8_addStation 3 8 [_, _, _] [] _ _ 55 mo_X8_addStation np_X8_addStation ml_RX8_134 im_X8_addStation se_X8_addStation (by decide +kernel) (by decide +kernel) rfl rfl rfl (Nat.le_of_ble_eq_true rfl) (by decide +kernel) rfl (Nat.le_of_ble_eq_true rfl) _ (ent_pad 0 rfl) (l_X8_addStation g _ _ _ _ _ H) (fun h10 H => ?_)
        refine wm_aload_n 0 56 (by decide +kernel) rfl rfl ?_
        refine wm_geti 8 3 59 fl_RX8_97 (by decide +kernel) rfl (by decide +kernel) rfl ?_
        refine wm_iconst 1 60 (by decide +kernel : decode cX8_station 59 = .ok (.iconst 1, 1)) rfl (by decide +kernel) ?_
        refine wm_isub 61 (by decide +kernel) rfl ?_
        exact wm_iret (by decide +kernel) ⟨.int, rfl, rfl⟩ H
      · replace H := H.1 c9
        refine wm_aload_n 0 41 (by decide +kernel) rfl rfl ?_
        refine wm_ldc (-1000000002) 43 co_RX8_133 (by decide +kernel) rfl ?_
        refine wm_callVi mX8_finds 1 8 [_] [] _ _ 46 mo_X8_finds np_X8_finds ml_RX8_129 im_X8_finds se_X8_finds (by decide +kernel) (by decide +kernel) rfl rfl rfl (Nat.le_of_ble_eq_true rfl) (by decide +kernel) rfl (Nat.le_of_ble_eq_true rfl) _ (ent_pad 0 rfl) (l_X8_finds g _ _ _ H) (fun v12 h11 H hzv12 => ?_)
        exact wm_iret (by decide +kernel) ⟨.int, rfl, rfl⟩ H
    · replace H := H.1 c8
      refine wm_aload_n 0 25 (by decide +kernel) rfl rfl ?_
      refine wm_ldc (-1000000001) 27 co_RX8_96 (by decide +kernel) rfl ?_
      refine wm_callVi mX8_finds 1 8 [_] [] _ _ 30 mo_X8_finds np_X8_finds ml_RX8_129 im_X8_finds se_X8_finds (by decide +kernel) (by decide +kernel) rfl rfl rfl (Nat.le_of_ble_eq_true rfl) (by decide +kernel) rfl (Nat.le_of_ble_eq_true rfl) _ (ent_pad 0 rfl) (l_X8_finds g _ _ _ H) (fun v14 h13 H hzv14 => ?_)
      exact wm_iret (by decide +kernel) ⟨.int, rfl, rfl⟩ H
def f_X8_line (x1 : Int32) (x2 : Int32) (x3 : Int32) (x4 : Int32) (x5 : Int32) (h : HP) (Q : Int32 → HP → Prop) : Prop :=
  f_X8_in ((x1 : Int32).toInt64) (0 : Int64) (5 : Int64) h (fun v2 h1 =>
  (((v2 = 0) →
    f_X8_finds (-1000000001 : Int32) h1 (fun v5 h4 =>
    Q v5 h4)) ∧
   (¬ (v2 = 0) →
    f_X8_isStation x2 h1 (fun v7 h6 =>
    (((v7 = 0) →
      f_X8_finds (-1000000001 : Int32) h6 (fun v10 h9 =>
      Q v10 h9)) ∧
     (¬ (v7 = 0) →
      f_X8_isStation x3 h6 (fun v12 h11 =>
      (((v12 = 0) →
        f_X8_finds (-1000000001 : Int32) h11 (fun v15 h14 =>
        Q v15 h14)) ∧
       (¬ (v12 = 0) →
        (((x2 = x3) →
          f_X8_finds (-1000000001 : Int32) h11 (fun v18 h17 =>
          Q v18 h17)) ∧
         (¬ (x2 = x3) →
          f_X8_in ((x4 : Int32).toInt64) (0 : Int64) (99 : Int64) h11 (fun v20 h19 =>
          (((v20 = 0) →
            f_X8_finds (-1000000001 : Int32) h19 (fun v23 h22 =>
            Q v23 h22)) ∧
           (¬ (v20 = 0) →
            f_X8_in ((x5 : Int32).toInt64) (1 : Int64) (9 : Int64) h19 (fun v25 h24 =>
            (((v25 = 0) →
              f_X8_finds (-1000000001 : Int32) h24 (fun v36 h35 =>
              Q v36 h35)) ∧
             (¬ (v25 = 0) →
              ((((gi h24 117 7) = 10) →
                f_X8_finds (-1000000002 : Int32) h24 (fun v34 h33 =>
                Q v34 h33)) ∧
               (¬ ((gi h24 117 7) = 10) →
                f_X8_addLine x1 x2 x3 h24 (fun h28 =>
                vp_in ((8 * ((gi h28 117 7) - 1)) + 3) 80 ∧
                ∀ h30 : HP, h30 = si h28 122 (ix ((8 * ((gi h28 117 7) - 1)) + 3)) x4 →
                vp_in ((8 * ((gi h30 117 7) - 1)) + 4) 80 ∧
                ∀ h32 : HP, h32 = si h30 122 (ix ((8 * ((gi h30 117 7) - 1)) + 4)) x5 →
                Q ((gi h32 117 7) - 1) h32))))))))))))))))))))
set_option maxRecDepth 20000 in
theorem l_X8_line (g : GE) (x1 : Int32) (x2 : Int32) (x3 : Int32) (x4 : Int32) (x5 : Int32)  (h : HP) (Q : Int32 → HP → Prop) (H : f_X8_line x1 x2 x3 x4 x5 h Q) : Wm g mX8_line 0 [some (.ref 117), some (.int x1), some (.int x2), some (.int x3), some (.int x4), some (.int x5)] [] h (qi Q) := by
  unfold f_X8_line at H
  refine wm_iload_n 1 1 (by decide +kernel) rfl rfl ?_
  refine wm_i2l 2 (by decide +kernel) rfl ?_
  refine wm_lconst 0 3 (by decide +kernel : decode cX8_line 2 = .ok (.lconst 0, 1)) rfl (by decide +kernel) ?_
  refine wm_ldc2 5 6 cl_RX8_138 (by decide +kernel) rfl ?_
  refine wm_callSi mX8_in 3 [_, _, _] [] _ _ 9 mo_X8_in np_X8_in ml_RX8_101 sc_X8_in (by decide +kernel) (by decide +kernel) rfl rfl rfl (Nat.le_of_ble_eq_true rfl) (Nat.le_of_ble_eq_true rfl) _ (ent_pad 0 rfl) (l_X8_in g _ _ _ _ _ H) (fun v2 h1 H hzv2 => ?_)
  refine wm_if_eq 12 59 (by decide +kernel : decode cX8_line 9 = .ok (.ifCond .eq 50, 3)) (by decide) rfl (fun c3 => ?_) (fun c3 => ?_)
  · replace H := H.1 c3
    refine wm_aload_n 0 60 (by decide +kernel) rfl rfl ?_
    refine wm_ldc (-1000000001) 62 co_RX8_96 (by decide +kernel) rfl ?_
    refine wm_callVi mX8_finds 1 8 [_] [] _ _ 65 mo_X8_finds np_X8_finds ml_RX8_129 im_X8_finds se_X8_finds (by decide +kernel) (by decide +kernel) rfl rfl rfl (Nat.le_of_ble_eq_true rfl) (by decide +kernel) rfl (Nat.le_of_ble_eq_true rfl) _ (ent_pad 0 rfl) (l_X8_finds g _ _ _ H) (fun v5 h4 H hzv5 => ?_)
    exact wm_iret (by decide +kernel) ⟨.int, rfl, rfl⟩ H
  · replace H := H.2 c3
    refine wm_aload_n 0 13 (by decide +kernel) rfl rfl ?_
    refine wm_iload_n 2 14 (by decide +kernel) rfl rfl ?_
    refine wm_callVi mX8_isStation 1 8 [_] [] _ _ 17 mo_X8_isStation np_X8_isStation ml_RX8_140 im_X8_isStation se_X8_isStation (by decide +kernel) (by decide +kernel) rfl rfl rfl (Nat.le_of_ble_eq_true rfl) (by decide +kernel) rfl (Nat.le_of_ble_eq_true rfl) _ (ent_pad 0 rfl) (l_X8_isStation g _ _ _ H) (fun v7 h6 H hzv7 => ?_)
    refine wm_if_eq 20 59 (by decide +kernel : decode cX8_line 17 = .ok (.ifCond .eq 42, 3)) (by decide) rfl (fun c8 => ?_) (fun c8 => ?_)
    · replace H := H.1 c8
      refine wm_aload_n 0 60 (by decide +kernel) rfl rfl ?_
      refine wm_ldc (-1000000001) 62 co_RX8_96 (by decide +kernel) rfl ?_
      refine wm_callVi mX8_finds 1 8 [_] [] _ _ 65 mo_X8_finds np_X8_finds ml_RX8_129 im_X8_finds se_X8_finds (by decide +kernel) (by decide +kernel) rfl rfl rfl (Nat.le_of_ble_eq_true rfl) (by decide +kernel) rfl (Nat.le_of_ble_eq_true rfl) _ (ent_pad 0 rfl) (l_X8_finds g _ _ _ H) (fun v10 h9 H hzv10 => ?_)
      exact wm_iret (by decide +kernel) ⟨.int, rfl, rfl⟩ H
    · replace H := H.2 c8
      refine wm_aload_n 0 21 (by decide +kernel) rfl rfl ?_
      refine wm_iload_n 3 22 (by decide +kernel) rfl rfl ?_
      refine wm_callVi mX8_isStation 1 8 [_] [] _ _ 25 mo_X8_isStation np_X8_isStation ml_RX8_140 im_X8_isStation se_X8_isStation (by decide +kernel) (by decide +kernel) rfl rfl rfl (Nat.le_of_ble_eq_true rfl) (by decide +kernel) rfl (Nat.le_of_ble_eq_true rfl) _ (ent_pad 0 rfl) (l_X8_isStation g _ _ _ H) (fun v12 h11 H hzv12 => ?_)
      refine wm_if_eq 28 59 (by decide +kernel : decode cX8_line 25 = .ok (.ifCond .eq 34, 3)) (by decide) rfl (fun c13 => ?_) (fun c13 => ?_)
      · replace H := H.1 c13
        refine wm_aload_n 0 60 (by decide +kernel) rfl rfl ?_
        refine wm_ldc (-1000000001) 62 co_RX8_96 (by decide +kernel) rfl ?_
        refine wm_callVi mX8_finds 1 8 [_] [] _ _ 65 mo_X8_finds np_X8_finds ml_RX8_129 im_X8_finds se_X8_finds (by decide +kernel) (by decide +kernel) rfl rfl rfl (Nat.le_of_ble_eq_true rfl) (by decide +kernel) rfl (Nat.le_of_ble_eq_true rfl) _ (ent_pad 0 rfl) (l_X8_finds g _ _ _ H) (fun v15 h14 H hzv15 => ?_)
        exact wm_iret (by decide +kernel) ⟨.int, rfl, rfl⟩ H
      · replace H := H.2 c13
        refine wm_iload_n 2 29 (by decide +kernel) rfl rfl ?_
        refine wm_iload_n 3 30 (by decide +kernel) rfl rfl ?_
        refine wm_icmp_eq 33 59 (by decide +kernel : decode cX8_line 30 = .ok (.if_icmp .eq 29, 3)) (by decide) rfl (fun c16 => ?_) (fun c16 => ?_)
        · replace H := H.1 c16
          refine wm_aload_n 0 60 (by decide +kernel) rfl rfl ?_
          refine wm_ldc (-1000000001) 62 co_RX8_96 (by decide +kernel) rfl ?_
          refine wm_callVi mX8_finds 1 8 [_] [] _ _ 65 mo_X8_finds np_X8_finds ml_RX8_129 im_X8_finds se_X8_finds (by decide +kernel) (by decide +kernel) rfl rfl rfl (Nat.le_of_ble_eq_true rfl) (by decide +kernel) rfl (Nat.le_of_ble_eq_true rfl) _ (ent_pad 0 rfl) (l_X8_finds g _ _ _ H) (fun v18 h17 H hzv18 => ?_)
          exact wm_iret (by decide +kernel) ⟨.int, rfl, rfl⟩ H
        · replace H := H.2 c16
          refine wm_iload 4 35 (by decide +kernel) rfl rfl ?_
          refine wm_i2l 36 (by decide +kernel) rfl ?_
          refine wm_lconst 0 37 (by decide +kernel : decode cX8_line 36 = .ok (.lconst 0, 1)) rfl (by decide +kernel) ?_
          refine wm_ldc2 99 40 cl_RX8_144 (by decide +kernel) rfl ?_
          refine wm_callSi mX8_in 3 [_, _, _] [] _ _ 43 mo_X8_in np_X8_in ml_RX8_101 sc_X8_in (by decide +kernel) (by decide +kernel) rfl rfl rfl (Nat.le_of_ble_eq_true rfl) (Nat.le_of_ble_eq_true rfl) _ (ent_pad 0 rfl) (l_X8_in g _ _ _ _ _ H) (fun v20 h19 H hzv20 => ?_)
          refine wm_if_eq 46 59 (by decide +kernel : decode cX8_line 43 = .ok (.ifCond .eq 16, 3)) (by decide) rfl (fun c21 => ?_) (fun c21 => ?_)
          · replace H := H.1 c21
            refine wm_aload_n 0 60 (by decide +kernel) rfl rfl ?_
            refine wm_ldc (-1000000001) 62 co_RX8_96 (by decide +kernel) rfl ?_
            refine wm_callVi mX8_finds 1 8 [_] [] _ _ 65 mo_X8_finds np_X8_finds ml_RX8_129 im_X8_finds se_X8_finds (by decide +kernel) (by decide +kernel) rfl rfl rfl (Nat.le_of_ble_eq_true rfl) (by decide +kernel) rfl (Nat.le_of_ble_eq_true rfl) _ (ent_pad 0 rfl) (l_X8_finds g _ _ _ H) (fun v23 h22 H hzv23 => ?_)
            exact wm_iret (by decide +kernel) ⟨.int, rfl, rfl⟩ H
          · replace H := H.2 c21
            refine wm_iload 5 48 (by decide +kernel) rfl rfl ?_
            refine wm_i2l 49 (by decide +kernel) rfl ?_
            refine wm_lconst 1 50 (by decide +kernel : decode cX8_line 49 = .ok (.lconst 1, 1)) rfl (by decide +kernel) ?_
            refine wm_ldc2 9 53 cl_RX8_146 (by decide +kernel) rfl ?_
            refine wm_callSi mX8_in 3 [_, _, _] [] _ _ 56 mo_X8_in np_X8_in ml_RX8_101 sc_X8_in (by decide +kernel) (by decide +kernel) rfl rfl rfl (Nat.le_of_ble_eq_true rfl) (Nat.le_of_ble_eq_true rfl) _ (ent_pad 0 rfl) (l_X8_in g _ _ _ _ _ H) (fun v25 h24 H hzv25 => ?_)
            refine wm_if_ne 59 66 (by decide +kernel : decode cX8_line 56 = .ok (.ifCond .ne 10, 3)) (by decide) rfl (fun c26 => ?_) (fun c26 => ?_)
            · replace H := H.2 c26
              refine wm_aload_n 0 67 (by decide +kernel) rfl rfl ?_
              refine wm_geti 8 7 70 fl_RX8_105 (by decide +kernel) rfl (by decide +kernel) rfl ?_
              refine wm_bipush 10 72 (by decide +kernel : decode cX8_line 70 = .ok (.bipush 10, 2)) rfl (by decide +kernel) ?_
              refine wm_icmp_ne 75 82 (by decide +kernel : decode cX8_line 72 = .ok (.if_icmp .ne 10, 3)) (by decide) rfl (fun c27 => ?_) (fun c27 => ?_)
              · replace H := H.2 c27
                refine wm_aload_n 0 83 (by decide +kernel) rfl rfl ?_
                refine wm_iload_n 1 84 (by decide +kernel) rfl rfl ?_
                refine wm_iload_n 2 85 (by decide +kernel) rfl rfl ?_
                refine wm_iload_n 3 86 (by decide +kernel) rfl rfl ?_
                refine wm_callVv mX8_addLine 3 8 [_, _, _] [] _ _ 89 mo_X8_addLine np_X8_addLine ml_RX8_148 im_X8_addLine se_X8_addLine (by decide +kernel) (by decide +kernel) rfl rfl rfl (Nat.le_of_ble_eq_true rfl) (by decide +kernel) rfl (Nat.le_of_ble_eq_true rfl) _ (ent_pad 2 rfl) (l_X8_addLine g _ _ _ _ _ H) (fun h28 H => ?_)
                refine wm_aload_n 0 90 (by decide +kernel) rfl rfl ?_
                refine wm_getr 8 8 5 122 93 fl_RX8_22 (by decide +kernel) rfl (by decide +kernel) rfl rfl (by decide) ?_
                refine wm_bipush 8 95 (by decide +kernel : decode cX8_line 93 = .ok (.bipush 8, 2)) rfl (by decide +kernel) ?_
                refine wm_aload_n 0 96 (by decide +kernel) rfl rfl ?_
                refine wm_geti 8 7 99 fl_RX8_105 (by decide +kernel) rfl (by decide +kernel) rfl ?_
                refine wm_iconst 1 100 (by decide +kernel : decode cX8_line 99 = .ok (.iconst 1, 1)) rfl (by decide +kernel) ?_
                refine wm_isub 101 (by decide +kernel) rfl ?_
                refine wm_imul 102 (by decide +kernel) rfl ?_
                refine wm_iconst 3 103 (by decide +kernel : decode cX8_line 102 = .ok (.iconst 3, 1)) rfl (by decide +kernel) ?_
                refine wm_iadd 104 (by decide +kernel) rfl ?_
                refine wm_iload 4 106 (by decide +kernel) rfl rfl ?_
                obtain ⟨o29, H⟩ := H
                replace H := H _ rfl
                refine wm_iast 80 107 (by decide +kernel) rfl (by decide +kernel) (by decide +kernel) o29 ?_
                refine wm_aload_n 0 108 (by decide +kernel) rfl rfl ?_
                refine wm_getr 8 8 5 122 111 fl_RX8_22 (by decide +kernel) rfl (by decide +kernel) rfl rfl (by decide) ?_
                refine wm_bipush 8 113 (by decide +kernel : decode cX8_line 111 = .ok (.bipush 8, 2)) rfl (by decide +kernel) ?_
                refine wm_aload_n 0 114 (by decide +kernel) rfl rfl ?_
                refine wm_geti 8 7 117 fl_RX8_105 (by decide +kernel) rfl (by decide +kernel) rfl ?_
                refine wm_iconst 1 118 (by decide +kernel : decode cX8_line 117 = .ok (.iconst 1, 1)) rfl (by decide +kernel) ?_
                refine wm_isub 119 (by decide +kernel) rfl ?_
                refine wm_imul 120 (by decide +kernel) rfl ?_
                refine wm_iconst 4 121 (by decide +kernel : decode cX8_line 120 = .ok (.iconst 4, 1)) rfl (by decide +kernel) ?_
                refine wm_iadd 122 (by decide +kernel) rfl ?_
                refine wm_iload 5 124 (by decide +kernel) rfl rfl ?_
                obtain ⟨o31, H⟩ := H
                replace H := H _ rfl
                refine wm_iast 80 125 (by decide +kernel) rfl (by decide +kernel) (by decide +kernel) o31 ?_
                refine wm_aload_n 0 126 (by decide +kernel) rfl rfl ?_
                refine wm_geti 8 7 129 fl_RX8_105 (by decide +kernel) rfl (by decide +kernel) rfl ?_
                refine wm_iconst 1 130 (by decide +kernel : decode cX8_line 129 = .ok (.iconst 1, 1)) rfl (by decide +kernel) ?_
                refine wm_isub 131 (by decide +kernel) rfl ?_
                exact wm_iret (by decide +kernel) ⟨.int, rfl, rfl⟩ H
              · replace H := H.1 c27
                refine wm_aload_n 0 76 (by decide +kernel) rfl rfl ?_
                refine wm_ldc (-1000000002) 78 co_RX8_133 (by decide +kernel) rfl ?_
                refine wm_callVi mX8_finds 1 8 [_] [] _ _ 81 mo_X8_finds np_X8_finds ml_RX8_129 im_X8_finds se_X8_finds (by decide +kernel) (by decide +kernel) rfl rfl rfl (Nat.le_of_ble_eq_true rfl) (by decide +kernel) rfl (Nat.le_of_ble_eq_true rfl) _ (ent_pad 0 rfl) (l_X8_finds g _ _ _ H) (fun v34 h33 H hzv34 => ?_)
                exact wm_iret (by decide +kernel) ⟨.int, rfl, rfl⟩ H
            · replace H := H.1 c26
              refine wm_aload_n 0 60 (by decide +kernel) rfl rfl ?_
              refine wm_ldc (-1000000001) 62 co_RX8_96 (by decide +kernel) rfl ?_
              refine wm_callVi mX8_finds 1 8 [_] [] _ _ 65 mo_X8_finds np_X8_finds ml_RX8_129 im_X8_finds se_X8_finds (by decide +kernel) (by decide +kernel) rfl rfl rfl (Nat.le_of_ble_eq_true rfl) (by decide +kernel) rfl (Nat.le_of_ble_eq_true rfl) _ (ent_pad 0 rfl) (l_X8_finds g _ _ _ H) (fun v36 h35 H hzv36 => ?_)
              exact wm_iret (by decide +kernel) ⟨.int, rfl, rfl⟩ H
def f_X8_comesTo_J32 (x1 : Int32) (x3 : Int32) (xs0 : Int32) (xs1 : Int32) (k4 : Int32 → Int32 → HP → Prop) (Q : Int32 → HP → Prop) (h : HP) : Prop :=
  ∀ x2_5 : Int32, x2_5 = (xs1 + xs0) →
  ∀ x3_6 : Int32, x3_6 = (x3 + 1) →
  k4 x2_5 x3_6 h
def f_X8_comesTo_L4 (x1 : Int32)  (Q : Int32 → HP → Prop) : Nat → Int32 → Int32 → HP → Prop
  | 0, _, _, _ => False
  | n + 1, x2, x3, h =>
    ((((gi h 117 7) ≤ x3) →
      Q x2 h) ∧
     (¬ ((gi h 117 7) ≤ x3) →
      f_X8_at x3 2 h (fun v3 h2 =>
      (((v3 = x1) →
        f_X8_onWay x3 h2 (fun v8 h7 =>
        f_X8_comesTo_J32 x1 x3 v8 x2 (f_X8_comesTo_L4 x1 Q n) Q h7)) ∧
       (¬ (v3 = x1) →
        f_X8_comesTo_J32 x1 x3 0 x2 (f_X8_comesTo_L4 x1 Q n) Q h2)))))
def f_X8_comesTo (x1 : Int32) (h : HP) (Q : Int32 → HP → Prop) : Prop :=
  ∃ n9, f_X8_comesTo_L4 x1
    Q n9 0 0 h
set_option maxRecDepth 20000 in
theorem l_X8_comesTo_J32 (g : GE) (x1 : Int32) (x3 : Int32) (xs0 : Int32) (xs1 : Int32)  (k4 : Int32 → Int32 → HP → Prop) (Q : Int32 → HP → Prop) (hk4 : ∀ (x2 : Int32) (x3 : Int32) (h : HP), k4 x2 x3 h → Wm g mX8_comesTo 4 [some (.ref 117), some (.int x1), some (.int x2), some (.int x3)] [] h (qi Q)) (h : HP) (H : f_X8_comesTo_J32 x1 x3 xs0 xs1 k4 Q h) : Wm g mX8_comesTo 32 [some (.ref 117), some (.int x1), none, some (.int x3)] [(.int xs0), (.int xs1)] h (qi Q) := by
  unfold f_X8_comesTo_J32 at H
  refine wm_iadd 33 (by decide +kernel) rfl ?_
  replace H := H _ rfl
  refine wm_istore_n 2 34 [some _, some _, some _, some _] (by decide +kernel) rfl (by decide +kernel) (okS_spec rfl) rfl ?_
  replace H := H _ rfl
  refine wm_iinc 3 (_ + 1) 37 [some _, some _, some _, some _] (by decide +kernel : decode cX8_comesTo 34 = .ok (.iinc 3 1, 3)) rfl (by decide +kernel) rfl (ofI_eq (by decide +kernel)) (okS_spec rfl) rfl ?_
  refine wm_goto 4 (by decide +kernel : decode cX8_comesTo 37 = .ok (.goto (-33), 3)) (by decide) ?_
  exact hk4 _ _ _ H
set_option maxRecDepth 20000 in
theorem l_X8_comesTo_L4 (g : GE) (x1 : Int32)   (Q : Int32 → HP → Prop)  : ∀ (n : Nat) (x2 : Int32) (x3 : Int32) (h : HP), f_X8_comesTo_L4 x1 Q n x2 x3 h → Wm g mX8_comesTo 4 [some (.ref 117), some (.int x1), some (.int x2), some (.int x3)] [] h (qi Q) := by
  intro n
  induction n with
  | zero => intro x2 x3 h H; exact H.elim
  | succ n ih =>
    intro x2 x3 h H
    unfold f_X8_comesTo_L4 at H
    refine wm_iload_n 3 5 (by decide +kernel) rfl rfl ?_
    refine wm_aload_n 0 6 (by decide +kernel) rfl rfl ?_
    refine wm_geti 8 7 9 fl_RX8_105 (by decide +kernel) rfl (by decide +kernel) rfl ?_
    refine wm_icmp_ge 12 40 (by decide +kernel : decode cX8_comesTo 9 = .ok (.if_icmp .ge 31, 3)) (by decide) rfl (fun c1 => ?_) (fun c1 => ?_)
    · replace H := H.1 c1
      refine wm_iload_n 2 41 (by decide +kernel) rfl rfl ?_
      exact wm_iret (by decide +kernel) ⟨.int, rfl, rfl⟩ H
    · replace H := H.2 c1
      refine wm_iload_n 2 13 (by decide +kernel) rfl rfl ?_
      refine wm_aload_n 0 14 (by decide +kernel) rfl rfl ?_
      refine wm_iload_n 3 15 (by decide +kernel) rfl rfl ?_
      refine wm_iconst 2 16 (by decide +kernel : decode cX8_comesTo 15 = .ok (.iconst 2, 1)) rfl (by decide +kernel) ?_
      refine wm_callVi mX8_at 2 8 [_, _] [_] _ _ 19 mo_X8_at np_X8_at ml_RX8_109 im_X8_at se_X8_at (by decide +kernel) (by decide +kernel) rfl rfl rfl (Nat.le_of_ble_eq_true rfl) (by decide +kernel) rfl (Nat.le_of_ble_eq_true rfl) _ (ent_pad 0 rfl) (l_X8_at g _ _ _ _ H) (fun v3 h2 H hzv3 => ?_)
      refine wm_iload_n 1 20 (by decide +kernel) rfl rfl ?_
      refine wm_icmp_ne 23 31 (by decide +kernel : decode cX8_comesTo 20 = .ok (.if_icmp .ne 11, 3)) (by decide) rfl (fun c4 => ?_) (fun c4 => ?_)
      · replace H := H.2 c4
        refine wm_iconst 0 32 (by decide +kernel : decode cX8_comesTo 31 = .ok (.iconst 0, 1)) rfl (by decide +kernel) ?_
        refine wm_mask [true, true, false, true] [some _, some _, none, some _] rfl ?_
        exact l_X8_comesTo_J32 g _ _ _ _ _ _ (ih) _ H
      · replace H := H.1 c4
        refine wm_aload_n 0 24 (by decide +kernel) rfl rfl ?_
        refine wm_iload_n 3 25 (by decide +kernel) rfl rfl ?_
        refine wm_callVi mX8_onWay 1 8 [_] [_] _ _ 28 mo_X8_onWay np_X8_onWay ml_RX8_151 im_X8_onWay se_X8_onWay (by decide +kernel) (by decide +kernel) rfl rfl rfl (Nat.le_of_ble_eq_true rfl) (by decide +kernel) rfl (Nat.le_of_ble_eq_true rfl) _ (ent_pad 2 rfl) (l_X8_onWay g _ _ _ H) (fun v8 h7 H hzv8 => ?_)
        refine wm_goto 32 (by decide +kernel : decode cX8_comesTo 28 = .ok (.goto 4, 3)) (by decide) ?_
        refine wm_mask [true, true, false, true] [some _, some _, none, some _] rfl ?_
        exact l_X8_comesTo_J32 g _ _ _ _ _ _ (ih) _ H
set_option maxRecDepth 20000 in
theorem l_X8_comesTo (g : GE) (x1 : Int32)  (h : HP) (Q : Int32 → HP → Prop) (H : f_X8_comesTo x1 h Q) : Wm g mX8_comesTo 0 [some (.ref 117), some (.int x1), none, none] [] h (qi Q) := by
  unfold f_X8_comesTo at H
  refine wm_iconst 0 1 (by decide +kernel : decode cX8_comesTo 0 = .ok (.iconst 0, 1)) rfl (by decide +kernel) ?_
  refine wm_istore_n 2 2 [some _, some _, some _, none] (by decide +kernel) rfl (by decide +kernel) (okS_spec rfl) rfl ?_
  refine wm_iconst 0 3 (by decide +kernel : decode cX8_comesTo 2 = .ok (.iconst 0, 1)) rfl (by decide +kernel) ?_
  refine wm_istore_n 3 4 [some _, some _, some _, some _] (by decide +kernel) rfl (by decide +kernel) (okS_spec rfl) rfl ?_
  obtain ⟨n9, H⟩ := H
  refine l_X8_comesTo_L4 g _ _  _ _ _ _ H
def f_X8_of (x1 : Int32) (x2 : Int32) (h : HP) (Q : Int32 → HP → Prop) : Prop :=
  f_X8_isStation x1 h (fun v2 h1 =>
  (((v2 = 0) →
    f_X8_finds (-1000000001 : Int32) h1 (fun v19 h18 =>
    Q v19 h18)) ∧
   (¬ (v2 = 0) →
    (((x2 = 0) →
      vp_in x1 6 ∧
      Q (gi h1 119 (ix x1)) h1) ∧
     (¬ (x2 = 0) →
      (((x2 = 1) →
        vp_in x1 6 ∧
        Q (gi h1 120 (ix x1)) h1) ∧
       (¬ (x2 = 1) →
        (((x2 = 2) →
          vp_in x1 6 ∧
          Q (gi h1 121 (ix x1)) h1) ∧
         (¬ (x2 = 2) →
          (((x2 = 3) →
            f_X8_holds x1 (gi h1 117 1) h1 (fun v12 h11 =>
            Q v12 h11)) ∧
           (¬ (x2 = 3) →
            (((x2 = 4) →
              f_X8_comesTo x1 h1 (fun v15 h14 =>
              Q v15 h14)) ∧
             (¬ (x2 = 4) →
              f_X8_finds (-1000000001 : Int32) h1 (fun v17 h16 =>
              Q v17 h16))))))))))))))
set_option maxRecDepth 20000 in
theorem l_X8_of (g : GE) (x1 : Int32) (x2 : Int32)  (h : HP) (Q : Int32 → HP → Prop) (H : f_X8_of x1 x2 h Q) : Wm g mX8_of 0 [some (.ref 117), some (.int x1), some (.int x2)] [] h (qi Q) := by
  unfold f_X8_of at H
  refine wm_aload_n 0 1 (by decide +kernel) rfl rfl ?_
  refine wm_iload_n 1 2 (by decide +kernel) rfl rfl ?_
  refine wm_callVi mX8_isStation 1 8 [_] [] _ _ 5 mo_X8_isStation np_X8_isStation ml_RX8_140 im_X8_isStation se_X8_isStation (by decide +kernel) (by decide +kernel) rfl rfl rfl (Nat.le_of_ble_eq_true rfl) (by decide +kernel) rfl (Nat.le_of_ble_eq_true rfl) _ (ent_pad 0 rfl) (l_X8_isStation g _ _ _ H) (fun v2 h1 H hzv2 => ?_)
  refine wm_if_ne 8 15 (by decide +kernel : decode cX8_of 5 = .ok (.ifCond .ne 10, 3)) (by decide) rfl (fun c3 => ?_) (fun c3 => ?_)
  · replace H := H.2 c3
    refine wm_iload_n 2 16 (by decide +kernel) rfl rfl ?_
    refine em_go H (fun c4 H => ?_) (fun c4 H => ?_)
    · refine wm_tin (off := 36) 0 52 c4 (by decide +kernel : decode cX8_of 16 = .ok (.tableswitch 73 0 4 #[36, 43, 50, 57, 67], 36)) (by decide +kernel) (by decide +kernel) (by decide +kernel) (by decide) ?_
      refine wm_aload_n 0 53 (by decide +kernel) rfl rfl ?_
      refine wm_getr 8 4 2 119 56 fl_RX8_13 (by decide +kernel) rfl (by decide +kernel) rfl rfl (by decide) ?_
      refine wm_iload_n 1 57 (by decide +kernel) rfl rfl ?_
      obtain ⟨o5, H⟩ := H
      refine wm_iald 6 58 (by decide +kernel) rfl (by decide +kernel) (by decide +kernel) o5 ?_
      exact wm_iret (by decide +kernel) ⟨.int, rfl, rfl⟩ H
    · skip
      refine em_go H (fun c6 H => ?_) (fun c6 H => ?_)
      · refine wm_tin (off := 43) 1 59 c6 (by decide +kernel : decode cX8_of 16 = .ok (.tableswitch 73 0 4 #[36, 43, 50, 57, 67], 36)) (by decide +kernel) (by decide +kernel) (by decide +kernel) (by decide) ?_
        refine wm_aload_n 0 60 (by decide +kernel) rfl rfl ?_
        refine wm_getr 8 5 3 120 63 fl_RX8_16 (by decide +kernel) rfl (by decide +kernel) rfl rfl (by decide) ?_
        refine wm_iload_n 1 64 (by decide +kernel) rfl rfl ?_
        obtain ⟨o7, H⟩ := H
        refine wm_iald 6 65 (by decide +kernel) rfl (by decide +kernel) (by decide +kernel) o7 ?_
        exact wm_iret (by decide +kernel) ⟨.int, rfl, rfl⟩ H
      · skip
        refine em_go H (fun c8 H => ?_) (fun c8 H => ?_)
        · refine wm_tin (off := 50) 2 66 c8 (by decide +kernel : decode cX8_of 16 = .ok (.tableswitch 73 0 4 #[36, 43, 50, 57, 67], 36)) (by decide +kernel) (by decide +kernel) (by decide +kernel) (by decide) ?_
          refine wm_aload_n 0 67 (by decide +kernel) rfl rfl ?_
          refine wm_getr 8 6 4 121 70 fl_RX8_19 (by decide +kernel) rfl (by decide +kernel) rfl rfl (by decide) ?_
          refine wm_iload_n 1 71 (by decide +kernel) rfl rfl ?_
          obtain ⟨o9, H⟩ := H
          refine wm_iald 6 72 (by decide +kernel) rfl (by decide +kernel) (by decide +kernel) o9 ?_
          exact wm_iret (by decide +kernel) ⟨.int, rfl, rfl⟩ H
        · skip
          refine em_go H (fun c10 H => ?_) (fun c10 H => ?_)
          · refine wm_tin (off := 57) 3 73 c10 (by decide +kernel : decode cX8_of 16 = .ok (.tableswitch 73 0 4 #[36, 43, 50, 57, 67], 36)) (by decide +kernel) (by decide +kernel) (by decide +kernel) (by decide) ?_
            refine wm_aload_n 0 74 (by decide +kernel) rfl rfl ?_
            refine wm_iload_n 1 75 (by decide +kernel) rfl rfl ?_
            refine wm_aload_n 0 76 (by decide +kernel) rfl rfl ?_
            refine wm_geti 8 1 79 fl_RX8_154 (by decide +kernel) rfl (by decide +kernel) rfl ?_
            refine wm_callVi mX8_holds 2 8 [_, _] [] _ _ 82 mo_X8_holds np_X8_holds ml_RX8_157 im_X8_holds se_X8_holds (by decide +kernel) (by decide +kernel) rfl rfl rfl (Nat.le_of_ble_eq_true rfl) (by decide +kernel) rfl (Nat.le_of_ble_eq_true rfl) _ (ent_pad 0 rfl) (l_X8_holds g _ _ _ _ H) (fun v12 h11 H hzv12 => ?_)
            exact wm_iret (by decide +kernel) ⟨.int, rfl, rfl⟩ H
          · skip
            refine em_go H (fun c13 H => ?_) (fun c13 H => ?_)
            · refine wm_tin (off := 67) 4 83 c13 (by decide +kernel : decode cX8_of 16 = .ok (.tableswitch 73 0 4 #[36, 43, 50, 57, 67], 36)) (by decide +kernel) (by decide +kernel) (by decide +kernel) (by decide) ?_
              refine wm_aload_n 0 84 (by decide +kernel) rfl rfl ?_
              refine wm_iload_n 1 85 (by decide +kernel) rfl rfl ?_
              refine wm_callVi mX8_comesTo 1 8 [_] [] _ _ 88 mo_X8_comesTo np_X8_comesTo ml_RX8_160 im_X8_comesTo se_X8_comesTo (by decide +kernel) (by decide +kernel) rfl rfl rfl (Nat.le_of_ble_eq_true rfl) (by decide +kernel) rfl (Nat.le_of_ble_eq_true rfl) _ (ent_pad 2 rfl) (l_X8_comesTo g _ _ _ H) (fun v15 h14 H hzv15 => ?_)
              exact wm_iret (by decide +kernel) ⟨.int, rfl, rfl⟩ H
            · skip
              refine wm_tout 89 (by decide +kernel : decode cX8_of 16 = .ok (.tableswitch 73 0 4 #[36, 43, 50, 57, 67], 36)) (by have q0 := ne_toInt 0 (by decide +kernel) c4; have q1 := ne_toInt 1 (by decide +kernel) c6; have q2 := ne_toInt 2 (by decide +kernel) c8; have q3 := ne_toInt 3 (by decide +kernel) c10; have q4 := ne_toInt 4 (by decide +kernel) c13; omega) (by decide) ?_
              refine wm_aload_n 0 90 (by decide +kernel) rfl rfl ?_
              refine wm_ldc (-1000000001) 92 co_RX8_96 (by decide +kernel) rfl ?_
              refine wm_callVi mX8_finds 1 8 [_] [] _ _ 95 mo_X8_finds np_X8_finds ml_RX8_129 im_X8_finds se_X8_finds (by decide +kernel) (by decide +kernel) rfl rfl rfl (Nat.le_of_ble_eq_true rfl) (by decide +kernel) rfl (Nat.le_of_ble_eq_true rfl) _ (ent_pad 0 rfl) (l_X8_finds g _ _ _ H) (fun v17 h16 H hzv17 => ?_)
              exact wm_iret (by decide +kernel) ⟨.int, rfl, rfl⟩ H
  · replace H := H.1 c3
    refine wm_aload_n 0 9 (by decide +kernel) rfl rfl ?_
    refine wm_ldc (-1000000001) 11 co_RX8_96 (by decide +kernel) rfl ?_
    refine wm_callVi mX8_finds 1 8 [_] [] _ _ 14 mo_X8_finds np_X8_finds ml_RX8_129 im_X8_finds se_X8_finds (by decide +kernel) (by decide +kernel) rfl rfl rfl (Nat.le_of_ble_eq_true rfl) (by decide +kernel) rfl (Nat.le_of_ble_eq_true rfl) _ (ent_pad 0 rfl) (l_X8_finds g _ _ _ H) (fun v19 h18 H hzv19 => ?_)
    exact wm_iret (by decide +kernel) ⟨.int, rfl, rfl⟩ H
def f_X8_its (x1 : Int32) (x2 : Int32) (h : HP) (Q : Int32 → HP → Prop) : Prop :=
  f_X8_isLine x1 h (fun v2 h1 =>
  (((v2 = 0) →
    f_X8_finds (-1000000001 : Int32) h1 (fun v5 h4 =>
    Q v5 h4)) ∧
   (¬ (v2 = 0) →
    f_X8_in ((x2 : Int32).toInt64) (0 : Int64) (11 : Int64) h1 (fun v7 h6 =>
    (((v7 = 0) →
      f_X8_finds (-1000000001 : Int32) h6 (fun v23 h22 =>
      Q v23 h22)) ∧
     (¬ (v7 = 0) →
      (((8 ≤ x2) →
        (((x2 = 8) →
          f_X8_room x1 (gi h6 117 1) h6 (fun v19 h18 =>
          Q v19 h18)) ∧
         (¬ (x2 = 8) →
          (((x2 = 9) →
            f_X8_takes x1 h6 (fun v17 h16 =>
            Q v17 h16)) ∧
           (¬ (x2 = 9) →
            (((x2 = 10) →
              vp_in x1 10 ∧
              Q (gi h6 123 (ix x1)) h6) ∧
             (¬ (x2 = 10) →
              f_X8_onWay x1 h6 (fun v14 h13 =>
              Q v14 h13)))))))) ∧
       (¬ (8 ≤ x2) →
        f_X8_at x1 x2 h6 (fun v21 h20 =>
        Q v21 h20)))))))))
set_option maxRecDepth 20000 in
theorem l_X8_its (g : GE) (x1 : Int32) (x2 : Int32)  (h : HP) (Q : Int32 → HP → Prop) (H : f_X8_its x1 x2 h Q) : Wm g mX8_its 0 [some (.ref 117), some (.int x1), some (.int x2)] [] h (qi Q) := by
  unfold f_X8_its at H
  refine wm_aload_n 0 1 (by decide +kernel) rfl rfl ?_
  refine wm_iload_n 1 2 (by decide +kernel) rfl rfl ?_
  refine wm_callVi mX8_isLine 1 8 [_] [] _ _ 5 mo_X8_isLine np_X8_isLine ml_RX8_163 im_X8_isLine se_X8_isLine (by decide +kernel) (by decide +kernel) rfl rfl rfl (Nat.le_of_ble_eq_true rfl) (by decide +kernel) rfl (Nat.le_of_ble_eq_true rfl) _ (ent_pad 0 rfl) (l_X8_isLine g _ _ _ H) (fun v2 h1 H hzv2 => ?_)
  refine wm_if_eq 8 20 (by decide +kernel : decode cX8_its 5 = .ok (.ifCond .eq 15, 3)) (by decide) rfl (fun c3 => ?_) (fun c3 => ?_)
  · replace H := H.1 c3
    refine wm_aload_n 0 21 (by decide +kernel) rfl rfl ?_
    refine wm_ldc (-1000000001) 23 co_RX8_96 (by decide +kernel) rfl ?_
    refine wm_callVi mX8_finds 1 8 [_] [] _ _ 26 mo_X8_finds np_X8_finds ml_RX8_129 im_X8_finds se_X8_finds (by decide +kernel) (by decide +kernel) rfl rfl rfl (Nat.le_of_ble_eq_true rfl) (by decide +kernel) rfl (Nat.le_of_ble_eq_true rfl) _ (ent_pad 0 rfl) (l_X8_finds g _ _ _ H) (fun v5 h4 H hzv5 => ?_)
    exact wm_iret (by decide +kernel) ⟨.int, rfl, rfl⟩ H
  · replace H := H.2 c3
    refine wm_iload_n 2 9 (by decide +kernel) rfl rfl ?_
    refine wm_i2l 10 (by decide +kernel) rfl ?_
    refine wm_lconst 0 11 (by decide +kernel : decode cX8_its 10 = .ok (.lconst 0, 1)) rfl (by decide +kernel) ?_
    refine wm_ldc2 11 14 cl_RX8_166 (by decide +kernel) rfl ?_
    refine wm_callSi mX8_in 3 [_, _, _] [] _ _ 17 mo_X8_in np_X8_in ml_RX8_101 sc_X8_in (by decide +kernel) (by decide +kernel) rfl rfl rfl (Nat.le_of_ble_eq_true rfl) (Nat.le_of_ble_eq_true rfl) _ (ent_pad 0 rfl) (l_X8_in g _ _ _ _ _ H) (fun v7 h6 H hzv7 => ?_)
    refine wm_if_ne 20 27 (by decide +kernel : decode cX8_its 17 = .ok (.ifCond .ne 10, 3)) (by decide) rfl (fun c8 => ?_) (fun c8 => ?_)
    · replace H := H.2 c8
      refine wm_iload_n 2 28 (by decide +kernel) rfl rfl ?_
      refine wm_bipush 8 30 (by decide +kernel : decode cX8_its 28 = .ok (.bipush 8, 2)) rfl (by decide +kernel) ?_
      refine wm_icmp_ge 33 40 (by decide +kernel : decode cX8_its 30 = .ok (.if_icmp .ge 10, 3)) (by decide) rfl (fun c9 => ?_) (fun c9 => ?_)
      · replace H := H.1 c9
        refine wm_iload_n 2 41 (by decide +kernel) rfl rfl ?_
        refine wm_bipush 8 43 (by decide +kernel : decode cX8_its 41 = .ok (.bipush 8, 2)) rfl (by decide +kernel) ?_
        refine wm_icmp_ne 46 58 (by decide +kernel : decode cX8_its 43 = .ok (.if_icmp .ne 15, 3)) (by decide) rfl (fun c10 => ?_) (fun c10 => ?_)
        · replace H := H.2 c10
          refine wm_iload_n 2 59 (by decide +kernel) rfl rfl ?_
          refine wm_bipush 9 61 (by decide +kernel : decode cX8_its 59 = .ok (.bipush 9, 2)) rfl (by decide +kernel) ?_
          refine wm_icmp_ne 64 72 (by decide +kernel : decode cX8_its 61 = .ok (.if_icmp .ne 11, 3)) (by decide) rfl (fun c11 => ?_) (fun c11 => ?_)
          · replace H := H.2 c11
            refine wm_iload_n 2 73 (by decide +kernel) rfl rfl ?_
            refine wm_bipush 10 75 (by decide +kernel : decode cX8_its 73 = .ok (.bipush 10, 2)) rfl (by decide +kernel) ?_
            refine wm_icmp_ne 78 87 (by decide +kernel : decode cX8_its 75 = .ok (.if_icmp .ne 12, 3)) (by decide) rfl (fun c12 => ?_) (fun c12 => ?_)
            · replace H := H.2 c12
              refine wm_aload_n 0 88 (by decide +kernel) rfl rfl ?_
              refine wm_iload_n 1 89 (by decide +kernel) rfl rfl ?_
              refine wm_callVi mX8_onWay 1 8 [_] [] _ _ 92 mo_X8_onWay np_X8_onWay ml_RX8_151 im_X8_onWay se_X8_onWay (by decide +kernel) (by decide +kernel) rfl rfl rfl (Nat.le_of_ble_eq_true rfl) (by decide +kernel) rfl (Nat.le_of_ble_eq_true rfl) _ (ent_pad 2 rfl) (l_X8_onWay g _ _ _ H) (fun v14 h13 H hzv14 => ?_)
              exact wm_iret (by decide +kernel) ⟨.int, rfl, rfl⟩ H
            · replace H := H.1 c12
              refine wm_aload_n 0 79 (by decide +kernel) rfl rfl ?_
              refine wm_getr 8 9 6 123 82 fl_RX8_25 (by decide +kernel) rfl (by decide +kernel) rfl rfl (by decide) ?_
              refine wm_iload_n 1 83 (by decide +kernel) rfl rfl ?_
              obtain ⟨o15, H⟩ := H
              refine wm_iald 10 84 (by decide +kernel) rfl (by decide +kernel) (by decide +kernel) o15 ?_
              refine wm_goto 92 (by decide +kernel : decode cX8_its 84 = .ok (.goto 8, 3)) (by decide) ?_
              exact wm_iret (by decide +kernel) ⟨.int, rfl, rfl⟩ H
          · replace H := H.1 c11
            refine wm_aload_n 0 65 (by decide +kernel) rfl rfl ?_
            refine wm_iload_n 1 66 (by decide +kernel) rfl rfl ?_
            refine wm_callVi mX8_takes 1 8 [_] [] _ _ 69 mo_X8_takes np_X8_takes ml_RX8_171 im_X8_takes se_X8_takes (by decide +kernel) (by decide +kernel) rfl rfl rfl (Nat.le_of_ble_eq_true rfl) (by decide +kernel) rfl (Nat.le_of_ble_eq_true rfl) _ (ent_pad 1 rfl) (l_X8_takes g _ _ _ H) (fun v17 h16 H hzv17 => ?_)
            refine wm_goto 92 (by decide +kernel : decode cX8_its 69 = .ok (.goto 23, 3)) (by decide) ?_
            exact wm_iret (by decide +kernel) ⟨.int, rfl, rfl⟩ H
        · replace H := H.1 c10
          refine wm_aload_n 0 47 (by decide +kernel) rfl rfl ?_
          refine wm_iload_n 1 48 (by decide +kernel) rfl rfl ?_
          refine wm_aload_n 0 49 (by decide +kernel) rfl rfl ?_
          refine wm_geti 8 1 52 fl_RX8_154 (by decide +kernel) rfl (by decide +kernel) rfl ?_
          refine wm_callVi mX8_room 2 8 [_, _] [] _ _ 55 mo_X8_room np_X8_room ml_RX8_168 im_X8_room se_X8_room (by decide +kernel) (by decide +kernel) rfl rfl rfl (Nat.le_of_ble_eq_true rfl) (by decide +kernel) rfl (Nat.le_of_ble_eq_true rfl) _ (ent_pad 0 rfl) (l_X8_room g _ _ _ _ H) (fun v19 h18 H hzv19 => ?_)
          refine wm_goto 92 (by decide +kernel : decode cX8_its 55 = .ok (.goto 37, 3)) (by decide) ?_
          exact wm_iret (by decide +kernel) ⟨.int, rfl, rfl⟩ H
      · replace H := H.2 c9
        refine wm_aload_n 0 34 (by decide +kernel) rfl rfl ?_
        refine wm_iload_n 1 35 (by decide +kernel) rfl rfl ?_
        refine wm_iload_n 2 36 (by decide +kernel) rfl rfl ?_
        refine wm_callVi mX8_at 2 8 [_, _] [] _ _ 39 mo_X8_at np_X8_at ml_RX8_109 im_X8_at se_X8_at (by decide +kernel) (by decide +kernel) rfl rfl rfl (Nat.le_of_ble_eq_true rfl) (by decide +kernel) rfl (Nat.le_of_ble_eq_true rfl) _ (ent_pad 0 rfl) (l_X8_at g _ _ _ _ H) (fun v21 h20 H hzv21 => ?_)
        exact wm_iret (by decide +kernel) ⟨.int, rfl, rfl⟩ H
    · replace H := H.1 c8
      refine wm_aload_n 0 21 (by decide +kernel) rfl rfl ?_
      refine wm_ldc (-1000000001) 23 co_RX8_96 (by decide +kernel) rfl ?_
      refine wm_callVi mX8_finds 1 8 [_] [] _ _ 26 mo_X8_finds np_X8_finds ml_RX8_129 im_X8_finds se_X8_finds (by decide +kernel) (by decide +kernel) rfl rfl rfl (Nat.le_of_ble_eq_true rfl) (by decide +kernel) rfl (Nat.le_of_ble_eq_true rfl) _ (ent_pad 0 rfl) (l_X8_finds g _ _ _ H) (fun v23 h22 H hzv23 => ?_)
      exact wm_iret (by decide +kernel) ⟨.int, rfl, rfl⟩ H
def f_X8_set_J93 (x1 : Int32) (x2 : Int32) (x3 : Int32) (xs0 : Int32)  (Q : Int32 → HP → Prop) (h : HP) : Prop :=
  (((x2 = 0) →
    vp_in x1 6 ∧
    ∀ h26 : HP, h26 = si h 119 (ix x1) x3 →
    Q xs0 h26) ∧
   (¬ (x2 = 0) →
    (((x2 = 1) →
      vp_in x1 6 ∧
      ∀ h24 : HP, h24 = si h 120 (ix x1) x3 →
      Q xs0 h24) ∧
     (¬ (x2 = 1) →
      vp_in x1 6 ∧
      ∀ h22 : HP, h22 = si h 121 (ix x1) x3 →
      Q xs0 h22))))
def f_X8_set_J47 (x1 : Int32) (x2 : Int32) (x3 : Int32) (xs0 : Int64) (xs1 : Int64) (xs2 : Int64)  (Q : Int32 → HP → Prop) (h : HP) : Prop :=
  f_X8_in xs2 xs1 xs0 h (fun v14 h13 =>
  (((v14 = 0) →
    f_X8_finds (-1000000001 : Int32) h13 (fun v30 h29 =>
    Q v30 h29)) ∧
   (¬ (v14 = 0) →
    (((x2 = 0) →
      vp_in x1 6 ∧
      f_X8_set_J93 x1 x2 x3 (gi h13 119 (ix x1))  Q h13) ∧
     (¬ (x2 = 0) →
      (((x2 = 1) →
        vp_in x1 6 ∧
        f_X8_set_J93 x1 x2 x3 (gi h13 120 (ix x1))  Q h13) ∧
       (¬ (x2 = 1) →
        vp_in x1 6 ∧
        f_X8_set_J93 x1 x2 x3 (gi h13 121 (ix x1))  Q h13)))))))
def f_X8_set (x1 : Int32) (x2 : Int32) (x3 : Int32) (h : HP) (Q : Int32 → HP → Prop) : Prop :=
  f_X8_isStation x1 h (fun v2 h1 =>
  (((v2 = 0) →
    f_X8_finds (-1000000001 : Int32) h1 (fun v5 h4 =>
    Q v5 h4)) ∧
   (¬ (v2 = 0) →
    f_X8_in ((x2 : Int32).toInt64) (0 : Int64) (2 : Int64) h1 (fun v7 h6 =>
    (((v7 = 0) →
      f_X8_finds (-1000000001 : Int32) h6 (fun v10 h9 =>
      Q v10 h9)) ∧
     (¬ (v7 = 0) →
      (((x2 = 0) →
        f_X8_set_J47 x1 x2 x3 (3 : Int64) (0 : Int64) ((x3 : Int32).toInt64)  Q h6) ∧
       (¬ (x2 = 0) →
        (((x2 = 1) →
          f_X8_set_J47 x1 x2 x3 (999 : Int64) (0 : Int64) ((x3 : Int32).toInt64)  Q h6) ∧
         (¬ (x2 = 1) →
          f_X8_set_J47 x1 x2 x3 (99 : Int64) (0 : Int64) ((x3 : Int32).toInt64)  Q h6))))))))))
set_option maxRecDepth 20000 in
theorem l_X8_set_J93 (g : GE) (x1 : Int32) (x2 : Int32) (x3 : Int32) (xs0 : Int32)   (Q : Int32 → HP → Prop)  (h : HP) (H : f_X8_set_J93 x1 x2 x3 xs0  Q h) : Wm g mX8_set 93 [some (.ref 117), some (.int x1), some (.int x2), some (.int x3), none] [(.int xs0)] h (qi Q) := by
  unfold f_X8_set_J93 at H
  refine wm_istore 4 95 [some _, some _, some _, some _, some _] (by decide +kernel) rfl (by decide +kernel) (okS_spec rfl) rfl ?_
  refine wm_iload_n 2 96 (by decide +kernel) rfl rfl ?_
  refine wm_if_ne 99 109 (by decide +kernel : decode cX8_set 96 = .ok (.ifCond .ne 13, 3)) (by decide) rfl (fun c19 => ?_) (fun c19 => ?_)
  · replace H := H.2 c19
    refine wm_iload_n 2 110 (by decide +kernel) rfl rfl ?_
    refine wm_iconst 1 111 (by decide +kernel : decode cX8_set 110 = .ok (.iconst 1, 1)) rfl (by decide +kernel) ?_
    refine wm_icmp_ne 114 124 (by decide +kernel : decode cX8_set 111 = .ok (.if_icmp .ne 13, 3)) (by decide) rfl (fun c20 => ?_) (fun c20 => ?_)
    · replace H := H.2 c20
      refine wm_aload_n 0 125 (by decide +kernel) rfl rfl ?_
      refine wm_getr 8 6 4 121 128 fl_RX8_19 (by decide +kernel) rfl (by decide +kernel) rfl rfl (by decide) ?_
      refine wm_iload_n 1 129 (by decide +kernel) rfl rfl ?_
      refine wm_iload_n 3 130 (by decide +kernel) rfl rfl ?_
      obtain ⟨o21, H⟩ := H
      replace H := H _ rfl
      refine wm_iast 6 131 (by decide +kernel) rfl (by decide +kernel) (by decide +kernel) o21 ?_
      refine wm_iload 4 133 (by decide +kernel) rfl rfl ?_
      exact wm_iret (by decide +kernel) ⟨.int, rfl, rfl⟩ H
    · replace H := H.1 c20
      refine wm_aload_n 0 115 (by decide +kernel) rfl rfl ?_
      refine wm_getr 8 5 3 120 118 fl_RX8_16 (by decide +kernel) rfl (by decide +kernel) rfl rfl (by decide) ?_
      refine wm_iload_n 1 119 (by decide +kernel) rfl rfl ?_
      refine wm_iload_n 3 120 (by decide +kernel) rfl rfl ?_
      obtain ⟨o23, H⟩ := H
      replace H := H _ rfl
      refine wm_iast 6 121 (by decide +kernel) rfl (by decide +kernel) (by decide +kernel) o23 ?_
      refine wm_goto 131 (by decide +kernel : decode cX8_set 121 = .ok (.goto 10, 3)) (by decide) ?_
      refine wm_iload 4 133 (by decide +kernel) rfl rfl ?_
      exact wm_iret (by decide +kernel) ⟨.int, rfl, rfl⟩ H
  · replace H := H.1 c19
    refine wm_aload_n 0 100 (by decide +kernel) rfl rfl ?_
    refine wm_getr 8 4 2 119 103 fl_RX8_13 (by decide +kernel) rfl (by decide +kernel) rfl rfl (by decide) ?_
    refine wm_iload_n 1 104 (by decide +kernel) rfl rfl ?_
    refine wm_iload_n 3 105 (by decide +kernel) rfl rfl ?_
    obtain ⟨o25, H⟩ := H
    replace H := H _ rfl
    refine wm_iast 6 106 (by decide +kernel) rfl (by decide +kernel) (by decide +kernel) o25 ?_
    refine wm_goto 131 (by decide +kernel : decode cX8_set 106 = .ok (.goto 25, 3)) (by decide) ?_
    refine wm_iload 4 133 (by decide +kernel) rfl rfl ?_
    exact wm_iret (by decide +kernel) ⟨.int, rfl, rfl⟩ H
set_option maxRecDepth 20000 in
theorem l_X8_set_J47 (g : GE) (x1 : Int32) (x2 : Int32) (x3 : Int32) (xs0 : Int64) (xs1 : Int64) (xs2 : Int64)   (Q : Int32 → HP → Prop)  (h : HP) (H : f_X8_set_J47 x1 x2 x3 xs0 xs1 xs2  Q h) : Wm g mX8_set 47 [some (.ref 117), some (.int x1), some (.int x2), some (.int x3), none] [(.long xs0), (.long xs1), (.long xs2)] h (qi Q) := by
  unfold f_X8_set_J47 at H
  refine wm_callSi mX8_in 3 [_, _, _] [] _ _ 50 mo_X8_in np_X8_in ml_RX8_101 sc_X8_in (by decide +kernel) (by decide +kernel) rfl rfl rfl (Nat.le_of_ble_eq_true rfl) (Nat.le_of_ble_eq_true rfl) _ (ent_pad 0 rfl) (l_X8_in g _ _ _ _ _ H) (fun v14 h13 H hzv14 => ?_)
  refine wm_if_ne 53 60 (by decide +kernel : decode cX8_set 50 = .ok (.ifCond .ne 10, 3)) (by decide) rfl (fun c15 => ?_) (fun c15 => ?_)
  · replace H := H.2 c15
    refine wm_iload_n 2 61 (by decide +kernel) rfl rfl ?_
    refine wm_if_ne 64 73 (by decide +kernel : decode cX8_set 61 = .ok (.ifCond .ne 12, 3)) (by decide) rfl (fun c16 => ?_) (fun c16 => ?_)
    · replace H := H.2 c16
      refine wm_iload_n 2 74 (by decide +kernel) rfl rfl ?_
      refine wm_iconst 1 75 (by decide +kernel : decode cX8_set 74 = .ok (.iconst 1, 1)) rfl (by decide +kernel) ?_
      refine wm_icmp_ne 78 87 (by decide +kernel : decode cX8_set 75 = .ok (.if_icmp .ne 12, 3)) (by decide) rfl (fun c17 => ?_) (fun c17 => ?_)
      · replace H := H.2 c17
        refine wm_aload_n 0 88 (by decide +kernel) rfl rfl ?_
        refine wm_getr 8 6 4 121 91 fl_RX8_19 (by decide +kernel) rfl (by decide +kernel) rfl rfl (by decide) ?_
        refine wm_iload_n 1 92 (by decide +kernel) rfl rfl ?_
        obtain ⟨o18, H⟩ := H
        refine wm_iald 6 93 (by decide +kernel) rfl (by decide +kernel) (by decide +kernel) o18 ?_
        exact l_X8_set_J93 g _ _ _ _ _  _ H
      · replace H := H.1 c17
        refine wm_aload_n 0 79 (by decide +kernel) rfl rfl ?_
        refine wm_getr 8 5 3 120 82 fl_RX8_16 (by decide +kernel) rfl (by decide +kernel) rfl rfl (by decide) ?_
        refine wm_iload_n 1 83 (by decide +kernel) rfl rfl ?_
        obtain ⟨o27, H⟩ := H
        refine wm_iald 6 84 (by decide +kernel) rfl (by decide +kernel) (by decide +kernel) o27 ?_
        refine wm_goto 93 (by decide +kernel : decode cX8_set 84 = .ok (.goto 9, 3)) (by decide) ?_
        exact l_X8_set_J93 g _ _ _ _ _  _ H
    · replace H := H.1 c16
      refine wm_aload_n 0 65 (by decide +kernel) rfl rfl ?_
      refine wm_getr 8 4 2 119 68 fl_RX8_13 (by decide +kernel) rfl (by decide +kernel) rfl rfl (by decide) ?_
      refine wm_iload_n 1 69 (by decide +kernel) rfl rfl ?_
      obtain ⟨o28, H⟩ := H
      refine wm_iald 6 70 (by decide +kernel) rfl (by decide +kernel) (by decide +kernel) o28 ?_
      refine wm_goto 93 (by decide +kernel : decode cX8_set 70 = .ok (.goto 23, 3)) (by decide) ?_
      exact l_X8_set_J93 g _ _ _ _ _  _ H
  · replace H := H.1 c15
    refine wm_aload_n 0 54 (by decide +kernel) rfl rfl ?_
    refine wm_ldc (-1000000001) 56 co_RX8_96 (by decide +kernel) rfl ?_
    refine wm_callVi mX8_finds 1 8 [_] [] _ _ 59 mo_X8_finds np_X8_finds ml_RX8_129 im_X8_finds se_X8_finds (by decide +kernel) (by decide +kernel) rfl rfl rfl (Nat.le_of_ble_eq_true rfl) (by decide +kernel) rfl (Nat.le_of_ble_eq_true rfl) _ (ent_pad 0 rfl) (l_X8_finds g _ _ _ H) (fun v30 h29 H hzv30 => ?_)
    exact wm_iret (by decide +kernel) ⟨.int, rfl, rfl⟩ H
set_option maxRecDepth 20000 in
theorem l_X8_set (g : GE) (x1 : Int32) (x2 : Int32) (x3 : Int32)  (h : HP) (Q : Int32 → HP → Prop) (H : f_X8_set x1 x2 x3 h Q) : Wm g mX8_set 0 [some (.ref 117), some (.int x1), some (.int x2), some (.int x3), none] [] h (qi Q) := by
  unfold f_X8_set at H
  refine wm_aload_n 0 1 (by decide +kernel) rfl rfl ?_
  refine wm_iload_n 1 2 (by decide +kernel) rfl rfl ?_
  refine wm_callVi mX8_isStation 1 8 [_] [] _ _ 5 mo_X8_isStation np_X8_isStation ml_RX8_140 im_X8_isStation se_X8_isStation (by decide +kernel) (by decide +kernel) rfl rfl rfl (Nat.le_of_ble_eq_true rfl) (by decide +kernel) rfl (Nat.le_of_ble_eq_true rfl) _ (ent_pad 0 rfl) (l_X8_isStation g _ _ _ H) (fun v2 h1 H hzv2 => ?_)
  refine wm_if_eq 8 53 (by decide +kernel : decode cX8_set 5 = .ok (.ifCond .eq 48, 3)) (by decide) rfl (fun c3 => ?_) (fun c3 => ?_)
  · replace H := H.1 c3
    refine wm_aload_n 0 54 (by decide +kernel) rfl rfl ?_
    refine wm_ldc (-1000000001) 56 co_RX8_96 (by decide +kernel) rfl ?_
    refine wm_callVi mX8_finds 1 8 [_] [] _ _ 59 mo_X8_finds np_X8_finds ml_RX8_129 im_X8_finds se_X8_finds (by decide +kernel) (by decide +kernel) rfl rfl rfl (Nat.le_of_ble_eq_true rfl) (by decide +kernel) rfl (Nat.le_of_ble_eq_true rfl) _ (ent_pad 0 rfl) (l_X8_finds g _ _ _ H) (fun v5 h4 H hzv5 => ?_)
    exact wm_iret (by decide +kernel) ⟨.int, rfl, rfl⟩ H
  · replace H := H.2 c3
    refine wm_iload_n 2 9 (by decide +kernel) rfl rfl ?_
    refine wm_i2l 10 (by decide +kernel) rfl ?_
    refine wm_lconst 0 11 (by decide +kernel : decode cX8_set 10 = .ok (.lconst 0, 1)) rfl (by decide +kernel) ?_
    refine wm_ldc2 2 14 cl_RX8_174 (by decide +kernel) rfl ?_
    refine wm_callSi mX8_in 3 [_, _, _] [] _ _ 17 mo_X8_in np_X8_in ml_RX8_101 sc_X8_in (by decide +kernel) (by decide +kernel) rfl rfl rfl (Nat.le_of_ble_eq_true rfl) (Nat.le_of_ble_eq_true rfl) _ (ent_pad 0 rfl) (l_X8_in g _ _ _ _ _ H) (fun v7 h6 H hzv7 => ?_)
    refine wm_if_eq 20 53 (by decide +kernel : decode cX8_set 17 = .ok (.ifCond .eq 36, 3)) (by decide) rfl (fun c8 => ?_) (fun c8 => ?_)
    · replace H := H.1 c8
      refine wm_aload_n 0 54 (by decide +kernel) rfl rfl ?_
      refine wm_ldc (-1000000001) 56 co_RX8_96 (by decide +kernel) rfl ?_
      refine wm_callVi mX8_finds 1 8 [_] [] _ _ 59 mo_X8_finds np_X8_finds ml_RX8_129 im_X8_finds se_X8_finds (by decide +kernel) (by decide +kernel) rfl rfl rfl (Nat.le_of_ble_eq_true rfl) (by decide +kernel) rfl (Nat.le_of_ble_eq_true rfl) _ (ent_pad 0 rfl) (l_X8_finds g _ _ _ H) (fun v10 h9 H hzv10 => ?_)
      exact wm_iret (by decide +kernel) ⟨.int, rfl, rfl⟩ H
    · replace H := H.2 c8
      refine wm_iload_n 3 21 (by decide +kernel) rfl rfl ?_
      refine wm_i2l 22 (by decide +kernel) rfl ?_
      refine wm_lconst 0 23 (by decide +kernel : decode cX8_set 22 = .ok (.lconst 0, 1)) rfl (by decide +kernel) ?_
      refine wm_iload_n 2 24 (by decide +kernel) rfl rfl ?_
      refine wm_if_ne 27 33 (by decide +kernel : decode cX8_set 24 = .ok (.ifCond .ne 9, 3)) (by decide) rfl (fun c11 => ?_) (fun c11 => ?_)
      · replace H := H.2 c11
        refine wm_iload_n 2 34 (by decide +kernel) rfl rfl ?_
        refine wm_iconst 1 35 (by decide +kernel : decode cX8_set 34 = .ok (.iconst 1, 1)) rfl (by decide +kernel) ?_
        refine wm_icmp_ne 38 44 (by decide +kernel : decode cX8_set 35 = .ok (.if_icmp .ne 9, 3)) (by decide) rfl (fun c12 => ?_) (fun c12 => ?_)
        · replace H := H.2 c12
          refine wm_ldc2 99 47 cl_RX8_144 (by decide +kernel) rfl ?_
          exact l_X8_set_J47 g _ _ _ _ _ _ _  _ H
        · replace H := H.1 c12
          refine wm_ldc2 999 41 cl_RX8_127 (by decide +kernel) rfl ?_
          refine wm_goto 47 (by decide +kernel : decode cX8_set 41 = .ok (.goto 6, 3)) (by decide) ?_
          exact l_X8_set_J47 g _ _ _ _ _ _ _  _ H
      · replace H := H.1 c11
        refine wm_ldc2 3 30 cl_RX8_125 (by decide +kernel) rfl ?_
        refine wm_goto 47 (by decide +kernel : decode cX8_set 30 = .ok (.goto 17, 3)) (by decide) ?_
        exact l_X8_set_J47 g _ _ _ _ _ _ _  _ H
def f_X8_mayBe (x1 : Int32) (x2 : Int32) (x3 : Int32) (h : HP) (Q : Int32 → HP → Prop) : Prop :=
  (((x2 = 0) →
    f_X8_in ((x3 : Int32).toInt64) (0 : Int64) (5 : Int64) h (fun v3 h2 =>
    Q v3 h2)) ∧
   (¬ (x2 = 0) →
    (((x2 = 1) →
      f_X8_isStation x3 h (fun v6 h5 =>
      (((v6 = 0) →
        Q 0 h5) ∧
       (¬ (v6 = 0) →
        f_X8_at x1 2 h5 (fun v9 h8 =>
        (((x3 = v9) →
          Q 0 h8) ∧
         (¬ (x3 = v9) →
          Q 1 h8))))))) ∧
     (¬ (x2 = 1) →
      (((x2 = 2) →
        f_X8_isStation x3 h (fun v13 h12 =>
        (((v13 = 0) →
          Q 0 h12) ∧
         (¬ (v13 = 0) →
          f_X8_at x1 1 h12 (fun v16 h15 =>
          (((x3 = v16) →
            Q 0 h15) ∧
           (¬ (x3 = v16) →
            Q 1 h15))))))) ∧
       (¬ (x2 = 2) →
        (((x2 = 3) →
          f_X8_in ((x3 : Int32).toInt64) (0 : Int64) (99 : Int64) h (fun v20 h19 =>
          Q v20 h19)) ∧
         (¬ (x2 = 3) →
          (((x2 = 4) →
            f_X8_in ((x3 : Int32).toInt64) (1 : Int64) (9 : Int64) h (fun v23 h22 =>
            Q v23 h22)) ∧
           (¬ (x2 = 4) →
            (((x2 = 5) →
              f_X8_in ((x3 : Int32).toInt64) (0 : Int64) (5 : Int64) h (fun v26 h25 =>
              Q v26 h25)) ∧
             (¬ (x2 = 5) →
              (((x2 = 6) →
                f_X8_in ((x3 : Int32).toInt64) (0 : Int64) (99 : Int64) h (fun v29 h28 =>
                Q v29 h28)) ∧
               (¬ (x2 = 6) →
                (((x2 = 7) →
                  f_X8_in ((x3 : Int32).toInt64) (0 : Int64) (99999 : Int64) h (fun v32 h31 =>
                  Q v32 h31)) ∧
                 (¬ (x2 = 7) →
                  Q 0 h))))))))))))))))
set_option maxRecDepth 20000 in
theorem l_X8_mayBe (g : GE) (x1 : Int32) (x2 : Int32) (x3 : Int32)  (h : HP) (Q : Int32 → HP → Prop) (H : f_X8_mayBe x1 x2 x3 h Q) : Wm g mX8_mayBe 0 [some (.ref 117), some (.int x1), some (.int x2), some (.int x3)] [] h (qi Q) := by
  unfold f_X8_mayBe at H
  refine wm_iload_n 2 1 (by decide +kernel) rfl rfl ?_
  refine em_go H (fun c1 H => ?_) (fun c1 H => ?_)
  · refine wm_tin (off := 47) 0 48 c1 (by decide +kernel : decode cX8_mayBe 1 = .ok (.tableswitch 135 0 7 #[47, 57, 81, 115, 105, 47, 115, 125], 47)) (by decide +kernel) (by decide +kernel) (by decide +kernel) (by decide) ?_
    refine wm_iload_n 3 49 (by decide +kernel) rfl rfl ?_
    refine wm_i2l 50 (by decide +kernel) rfl ?_
    refine wm_lconst 0 51 (by decide +kernel : decode cX8_mayBe 50 = .ok (.lconst 0, 1)) rfl (by decide +kernel) ?_
    refine wm_ldc2 5 54 cl_RX8_138 (by decide +kernel) rfl ?_
    refine wm_callSi mX8_in 3 [_, _, _] [] _ _ 57 mo_X8_in np_X8_in ml_RX8_101 sc_X8_in (by decide +kernel) (by decide +kernel) rfl rfl rfl (Nat.le_of_ble_eq_true rfl) (Nat.le_of_ble_eq_true rfl) _ (ent_pad 0 rfl) (l_X8_in g _ _ _ _ _ H) (fun v3 h2 H hzv3 => ?_)
    exact wm_iret (by decide +kernel) ⟨.boolean, rfl, (rv_bool hzv3 rfl)⟩ H
  · skip
    refine em_go H (fun c4 H => ?_) (fun c4 H => ?_)
    · refine wm_tin (off := 57) 1 58 c4 (by decide +kernel : decode cX8_mayBe 1 = .ok (.tableswitch 135 0 7 #[47, 57, 81, 115, 105, 47, 115, 125], 47)) (by decide +kernel) (by decide +kernel) (by decide +kernel) (by decide) ?_
      refine wm_aload_n 0 59 (by decide +kernel) rfl rfl ?_
      refine wm_iload_n 3 60 (by decide +kernel) rfl rfl ?_
      refine wm_callVi mX8_isStation 1 8 [_] [] _ _ 63 mo_X8_isStation np_X8_isStation ml_RX8_140 im_X8_isStation se_X8_isStation (by decide +kernel) (by decide +kernel) rfl rfl rfl (Nat.le_of_ble_eq_true rfl) (by decide +kernel) rfl (Nat.le_of_ble_eq_true rfl) _ (ent_pad 0 rfl) (l_X8_isStation g _ _ _ H) (fun v6 h5 H hzv6 => ?_)
      refine wm_if_eq 66 80 (by decide +kernel : decode cX8_mayBe 63 = .ok (.ifCond .eq 17, 3)) (by decide) rfl (fun c7 => ?_) (fun c7 => ?_)
      · replace H := H.1 c7
        refine wm_iconst 0 81 (by decide +kernel : decode cX8_mayBe 80 = .ok (.iconst 0, 1)) rfl (by decide +kernel) ?_
        exact wm_iret (by decide +kernel) ⟨.boolean, rfl, (by decide +kernel)⟩ H
      · replace H := H.2 c7
        refine wm_iload_n 3 67 (by decide +kernel) rfl rfl ?_
        refine wm_aload_n 0 68 (by decide +kernel) rfl rfl ?_
        refine wm_iload_n 1 69 (by decide +kernel) rfl rfl ?_
        refine wm_iconst 2 70 (by decide +kernel : decode cX8_mayBe 69 = .ok (.iconst 2, 1)) rfl (by decide +kernel) ?_
        refine wm_callVi mX8_at 2 8 [_, _] [_] _ _ 73 mo_X8_at np_X8_at ml_RX8_109 im_X8_at se_X8_at (by decide +kernel) (by decide +kernel) rfl rfl rfl (Nat.le_of_ble_eq_true rfl) (by decide +kernel) rfl (Nat.le_of_ble_eq_true rfl) _ (ent_pad 0 rfl) (l_X8_at g _ _ _ _ H) (fun v9 h8 H hzv9 => ?_)
        refine wm_icmp_eq 76 80 (by decide +kernel : decode cX8_mayBe 73 = .ok (.if_icmp .eq 7, 3)) (by decide) rfl (fun c10 => ?_) (fun c10 => ?_)
        · replace H := H.1 c10
          refine wm_iconst 0 81 (by decide +kernel : decode cX8_mayBe 80 = .ok (.iconst 0, 1)) rfl (by decide +kernel) ?_
          exact wm_iret (by decide +kernel) ⟨.boolean, rfl, (by decide +kernel)⟩ H
        · replace H := H.2 c10
          refine wm_iconst 1 77 (by decide +kernel : decode cX8_mayBe 76 = .ok (.iconst 1, 1)) rfl (by decide +kernel) ?_
          refine wm_goto 81 (by decide +kernel : decode cX8_mayBe 77 = .ok (.goto 4, 3)) (by decide) ?_
          exact wm_iret (by decide +kernel) ⟨.boolean, rfl, (by decide +kernel)⟩ H
    · skip
      refine em_go H (fun c11 H => ?_) (fun c11 H => ?_)
      · refine wm_tin (off := 81) 2 82 c11 (by decide +kernel : decode cX8_mayBe 1 = .ok (.tableswitch 135 0 7 #[47, 57, 81, 115, 105, 47, 115, 125], 47)) (by decide +kernel) (by decide +kernel) (by decide +kernel) (by decide) ?_
        refine wm_aload_n 0 83 (by decide +kernel) rfl rfl ?_
        refine wm_iload_n 3 84 (by decide +kernel) rfl rfl ?_
        refine wm_callVi mX8_isStation 1 8 [_] [] _ _ 87 mo_X8_isStation np_X8_isStation ml_RX8_140 im_X8_isStation se_X8_isStation (by decide +kernel) (by decide +kernel) rfl rfl rfl (Nat.le_of_ble_eq_true rfl) (by decide +kernel) rfl (Nat.le_of_ble_eq_true rfl) _ (ent_pad 0 rfl) (l_X8_isStation g _ _ _ H) (fun v13 h12 H hzv13 => ?_)
        refine wm_if_eq 90 104 (by decide +kernel : decode cX8_mayBe 87 = .ok (.ifCond .eq 17, 3)) (by decide) rfl (fun c14 => ?_) (fun c14 => ?_)
        · replace H := H.1 c14
          refine wm_iconst 0 105 (by decide +kernel : decode cX8_mayBe 104 = .ok (.iconst 0, 1)) rfl (by decide +kernel) ?_
          exact wm_iret (by decide +kernel) ⟨.boolean, rfl, (by decide +kernel)⟩ H
        · replace H := H.2 c14
          refine wm_iload_n 3 91 (by decide +kernel) rfl rfl ?_
          refine wm_aload_n 0 92 (by decide +kernel) rfl rfl ?_
          refine wm_iload_n 1 93 (by decide +kernel) rfl rfl ?_
          refine wm_iconst 1 94 (by decide +kernel : decode cX8_mayBe 93 = .ok (.iconst 1, 1)) rfl (by decide +kernel) ?_
          refine wm_callVi mX8_at 2 8 [_, _] [_] _ _ 97 mo_X8_at np_X8_at ml_RX8_109 im_X8_at se_X8_at (by decide +kernel) (by decide +kernel) rfl rfl rfl (Nat.le_of_ble_eq_true rfl) (by decide +kernel) rfl (Nat.le_of_ble_eq_true rfl) _ (ent_pad 0 rfl) (l_X8_at g _ _ _ _ H) (fun v16 h15 H hzv16 => ?_)
          refine wm_icmp_eq 100 104 (by decide +kernel : decode cX8_mayBe 97 = .ok (.if_icmp .eq 7, 3)) (by decide) rfl (fun c17 => ?_) (fun c17 => ?_)
          · replace H := H.1 c17
            refine wm_iconst 0 105 (by decide +kernel : decode cX8_mayBe 104 = .ok (.iconst 0, 1)) rfl (by decide +kernel) ?_
            exact wm_iret (by decide +kernel) ⟨.boolean, rfl, (by decide +kernel)⟩ H
          · replace H := H.2 c17
            refine wm_iconst 1 101 (by decide +kernel : decode cX8_mayBe 100 = .ok (.iconst 1, 1)) rfl (by decide +kernel) ?_
            refine wm_goto 105 (by decide +kernel : decode cX8_mayBe 101 = .ok (.goto 4, 3)) (by decide) ?_
            exact wm_iret (by decide +kernel) ⟨.boolean, rfl, (by decide +kernel)⟩ H
      · skip
        refine em_go H (fun c18 H => ?_) (fun c18 H => ?_)
        · refine wm_tin (off := 115) 3 116 c18 (by decide +kernel : decode cX8_mayBe 1 = .ok (.tableswitch 135 0 7 #[47, 57, 81, 115, 105, 47, 115, 125], 47)) (by decide +kernel) (by decide +kernel) (by decide +kernel) (by decide) ?_
          refine wm_iload_n 3 117 (by decide +kernel) rfl rfl ?_
          refine wm_i2l 118 (by decide +kernel) rfl ?_
          refine wm_lconst 0 119 (by decide +kernel : decode cX8_mayBe 118 = .ok (.lconst 0, 1)) rfl (by decide +kernel) ?_
          refine wm_ldc2 99 122 cl_RX8_144 (by decide +kernel) rfl ?_
          refine wm_callSi mX8_in 3 [_, _, _] [] _ _ 125 mo_X8_in np_X8_in ml_RX8_101 sc_X8_in (by decide +kernel) (by decide +kernel) rfl rfl rfl (Nat.le_of_ble_eq_true rfl) (Nat.le_of_ble_eq_true rfl) _ (ent_pad 0 rfl) (l_X8_in g _ _ _ _ _ H) (fun v20 h19 H hzv20 => ?_)
          exact wm_iret (by decide +kernel) ⟨.boolean, rfl, (rv_bool hzv20 rfl)⟩ H
        · skip
          refine em_go H (fun c21 H => ?_) (fun c21 H => ?_)
          · refine wm_tin (off := 105) 4 106 c21 (by decide +kernel : decode cX8_mayBe 1 = .ok (.tableswitch 135 0 7 #[47, 57, 81, 115, 105, 47, 115, 125], 47)) (by decide +kernel) (by decide +kernel) (by decide +kernel) (by decide) ?_
            refine wm_iload_n 3 107 (by decide +kernel) rfl rfl ?_
            refine wm_i2l 108 (by decide +kernel) rfl ?_
            refine wm_lconst 1 109 (by decide +kernel : decode cX8_mayBe 108 = .ok (.lconst 1, 1)) rfl (by decide +kernel) ?_
            refine wm_ldc2 9 112 cl_RX8_146 (by decide +kernel) rfl ?_
            refine wm_callSi mX8_in 3 [_, _, _] [] _ _ 115 mo_X8_in np_X8_in ml_RX8_101 sc_X8_in (by decide +kernel) (by decide +kernel) rfl rfl rfl (Nat.le_of_ble_eq_true rfl) (Nat.le_of_ble_eq_true rfl) _ (ent_pad 0 rfl) (l_X8_in g _ _ _ _ _ H) (fun v23 h22 H hzv23 => ?_)
            exact wm_iret (by decide +kernel) ⟨.boolean, rfl, (rv_bool hzv23 rfl)⟩ H
          · skip
            refine em_go H (fun c24 H => ?_) (fun c24 H => ?_)
            · refine wm_tin (off := 47) 5 48 c24 (by decide +kernel : decode cX8_mayBe 1 = .ok (.tableswitch 135 0 7 #[47, 57, 81, 115, 105, 47, 115, 125], 47)) (by decide +kernel) (by decide +kernel) (by decide +kernel) (by decide) ?_
              refine wm_iload_n 3 49 (by decide +kernel) rfl rfl ?_
              refine wm_i2l 50 (by decide +kernel) rfl ?_
              refine wm_lconst 0 51 (by decide +kernel : decode cX8_mayBe 50 = .ok (.lconst 0, 1)) rfl (by decide +kernel) ?_
              refine wm_ldc2 5 54 cl_RX8_138 (by decide +kernel) rfl ?_
              refine wm_callSi mX8_in 3 [_, _, _] [] _ _ 57 mo_X8_in np_X8_in ml_RX8_101 sc_X8_in (by decide +kernel) (by decide +kernel) rfl rfl rfl (Nat.le_of_ble_eq_true rfl) (Nat.le_of_ble_eq_true rfl) _ (ent_pad 0 rfl) (l_X8_in g _ _ _ _ _ H) (fun v26 h25 H hzv26 => ?_)
              exact wm_iret (by decide +kernel) ⟨.boolean, rfl, (rv_bool hzv26 rfl)⟩ H
            · skip
              refine em_go H (fun c27 H => ?_) (fun c27 H => ?_)
              · refine wm_tin (off := 115) 6 116 c27 (by decide +kernel : decode cX8_mayBe 1 = .ok (.tableswitch 135 0 7 #[47, 57, 81, 115, 105, 47, 115, 125], 47)) (by decide +kernel) (by decide +kernel) (by decide +kernel) (by decide) ?_
                refine wm_iload_n 3 117 (by decide +kernel) rfl rfl ?_
                refine wm_i2l 118 (by decide +kernel) rfl ?_
                refine wm_lconst 0 119 (by decide +kernel : decode cX8_mayBe 118 = .ok (.lconst 0, 1)) rfl (by decide +kernel) ?_
                refine wm_ldc2 99 122 cl_RX8_144 (by decide +kernel) rfl ?_
                refine wm_callSi mX8_in 3 [_, _, _] [] _ _ 125 mo_X8_in np_X8_in ml_RX8_101 sc_X8_in (by decide +kernel) (by decide +kernel) rfl rfl rfl (Nat.le_of_ble_eq_true rfl) (Nat.le_of_ble_eq_true rfl) _ (ent_pad 0 rfl) (l_X8_in g _ _ _ _ _ H) (fun v29 h28 H hzv29 => ?_)
                exact wm_iret (by decide +kernel) ⟨.boolean, rfl, (rv_bool hzv29 rfl)⟩ H
              · skip
                refine em_go H (fun c30 H => ?_) (fun c30 H => ?_)
                · refine wm_tin (off := 125) 7 126 c30 (by decide +kernel : decode cX8_mayBe 1 = .ok (.tableswitch 135 0 7 #[47, 57, 81, 115, 105, 47, 115, 125], 47)) (by decide +kernel) (by decide +kernel) (by decide +kernel) (by decide) ?_
                  refine wm_iload_n 3 127 (by decide +kernel) rfl rfl ?_
                  refine wm_i2l 128 (by decide +kernel) rfl ?_
                  refine wm_lconst 0 129 (by decide +kernel : decode cX8_mayBe 128 = .ok (.lconst 0, 1)) rfl (by decide +kernel) ?_
                  refine wm_ldc2 99999 132 cl_RX8_176 (by decide +kernel) rfl ?_
                  refine wm_callSi mX8_in 3 [_, _, _] [] _ _ 135 mo_X8_in np_X8_in ml_RX8_101 sc_X8_in (by decide +kernel) (by decide +kernel) rfl rfl rfl (Nat.le_of_ble_eq_true rfl) (Nat.le_of_ble_eq_true rfl) _ (ent_pad 0 rfl) (l_X8_in g _ _ _ _ _ H) (fun v32 h31 H hzv32 => ?_)
                  exact wm_iret (by decide +kernel) ⟨.boolean, rfl, (rv_bool hzv32 rfl)⟩ H
                · skip
                  refine wm_tout 136 (by decide +kernel : decode cX8_mayBe 1 = .ok (.tableswitch 135 0 7 #[47, 57, 81, 115, 105, 47, 115, 125], 47)) (by have q0 := ne_toInt 0 (by decide +kernel) c1; have q1 := ne_toInt 1 (by decide +kernel) c4; have q2 := ne_toInt 2 (by decide +kernel) c11; have q3 := ne_toInt 3 (by decide +kernel) c18; have q4 := ne_toInt 4 (by decide +kernel) c21; have q5 := ne_toInt 5 (by decide +kernel) c24; have q6 := ne_toInt 6 (by decide +kernel) c27; have q7 := ne_toInt 7 (by decide +kernel) c30; omega) (by decide) ?_
                  refine wm_iconst 0 137 (by decide +kernel : decode cX8_mayBe 136 = .ok (.iconst 0, 1)) rfl (by decide +kernel) ?_
                  exact wm_iret (by decide +kernel) ⟨.boolean, rfl, (by decide +kernel)⟩ H
def f_X8_change (x1 : Int32) (x2 : Int32) (x3 : Int32) (h : HP) (Q : Int32 → HP → Prop) : Prop :=
  f_X8_isLine x1 h (fun v2 h1 =>
  (((v2 = 0) →
    f_X8_finds (-1000000001 : Int32) h1 (fun v5 h4 =>
    Q v5 h4)) ∧
   (¬ (v2 = 0) →
    f_X8_mayBe x1 x2 x3 h1 (fun v7 h6 =>
    (((v7 = 0) →
      f_X8_finds (-1000000001 : Int32) h6 (fun v14 h13 =>
      Q v14 h13)) ∧
     (¬ (v7 = 0) →
      f_X8_at x1 x2 h6 (fun v10 h9 =>
      vp_in ((8 * x1) + x2) 80 ∧
      ∀ h12 : HP, h12 = si h9 122 (ix ((8 * x1) + x2)) x3 →
      Q v10 h12)))))))
set_option maxRecDepth 20000 in
theorem l_X8_change (g : GE) (x1 : Int32) (x2 : Int32) (x3 : Int32)  (h : HP) (Q : Int32 → HP → Prop) (H : f_X8_change x1 x2 x3 h Q) : Wm g mX8_change 0 [some (.ref 117), some (.int x1), some (.int x2), some (.int x3), none] [] h (qi Q) := by
  unfold f_X8_change at H
  refine wm_aload_n 0 1 (by decide +kernel) rfl rfl ?_
  refine wm_iload_n 1 2 (by decide +kernel) rfl rfl ?_
  refine wm_callVi mX8_isLine 1 8 [_] [] _ _ 5 mo_X8_isLine np_X8_isLine ml_RX8_163 im_X8_isLine se_X8_isLine (by decide +kernel) (by decide +kernel) rfl rfl rfl (Nat.le_of_ble_eq_true rfl) (by decide +kernel) rfl (Nat.le_of_ble_eq_true rfl) _ (ent_pad 0 rfl) (l_X8_isLine g _ _ _ H) (fun v2 h1 H hzv2 => ?_)
  refine wm_if_eq 8 18 (by decide +kernel : decode cX8_change 5 = .ok (.ifCond .eq 13, 3)) (by decide) rfl (fun c3 => ?_) (fun c3 => ?_)
  · replace H := H.1 c3
    refine wm_aload_n 0 19 (by decide +kernel) rfl rfl ?_
    refine wm_ldc (-1000000001) 21 co_RX8_96 (by decide +kernel) rfl ?_
    refine wm_callVi mX8_finds 1 8 [_] [] _ _ 24 mo_X8_finds np_X8_finds ml_RX8_129 im_X8_finds se_X8_finds (by decide +kernel) (by decide +kernel) rfl rfl rfl (Nat.le_of_ble_eq_true rfl) (by decide +kernel) rfl (Nat.le_of_ble_eq_true rfl) _ (ent_pad 0 rfl) (l_X8_finds g _ _ _ H) (fun v5 h4 H hzv5 => ?_)
    exact wm_iret (by decide +kernel) ⟨.int, rfl, rfl⟩ H
  · replace H := H.2 c3
    refine wm_aload_n 0 9 (by decide +kernel) rfl rfl ?_
    refine wm_iload_n 1 10 (by decide +kernel) rfl rfl ?_
    refine wm_iload_n 2 11 (by decide +kernel) rfl rfl ?_
    refine wm_iload_n 3 12 (by decide +kernel) rfl rfl ?_
    refine wm_callVi mX8_mayBe 3 8 [_, _, _] [] _ _ 15 mo_X8_mayBe np_X8_mayBe ml_RX8_178 im_X8_mayBe se_X8_mayBe (by decide +kernel) (by decide +kernel) rfl rfl rfl (Nat.le_of_ble_eq_true rfl) (by decide +kernel) rfl (Nat.le_of_ble_eq_true rfl) _ (ent_pad 0 rfl) (l_X8_mayBe g _ _ _ _ _ H) (fun v7 h6 H hzv7 => ?_)
    refine wm_if_ne 18 25 (by decide +kernel : decode cX8_change 15 = .ok (.ifCond .ne 10, 3)) (by decide) rfl (fun c8 => ?_) (fun c8 => ?_)
    · replace H := H.2 c8
      refine wm_aload_n 0 26 (by decide +kernel) rfl rfl ?_
      refine wm_iload_n 1 27 (by decide +kernel) rfl rfl ?_
      refine wm_iload_n 2 28 (by decide +kernel) rfl rfl ?_
      refine wm_callVi mX8_at 2 8 [_, _] [] _ _ 31 mo_X8_at np_X8_at ml_RX8_109 im_X8_at se_X8_at (by decide +kernel) (by decide +kernel) rfl rfl rfl (Nat.le_of_ble_eq_true rfl) (by decide +kernel) rfl (Nat.le_of_ble_eq_true rfl) _ (ent_pad 0 rfl) (l_X8_at g _ _ _ _ H) (fun v10 h9 H hzv10 => ?_)
      refine wm_istore 4 33 [some _, some _, some _, some _, some _] (by decide +kernel) rfl (by decide +kernel) (okS_spec rfl) rfl ?_
      refine wm_aload_n 0 34 (by decide +kernel) rfl rfl ?_
      refine wm_getr 8 8 5 122 37 fl_RX8_22 (by decide +kernel) rfl (by decide +kernel) rfl rfl (by decide) ?_
      refine wm_bipush 8 39 (by decide +kernel : decode cX8_change 37 = .ok (.bipush 8, 2)) rfl (by decide +kernel) ?_
      refine wm_iload_n 1 40 (by decide +kernel) rfl rfl ?_
      refine wm_imul 41 (by decide +kernel) rfl ?_
      refine wm_iload_n 2 42 (by decide +kernel) rfl rfl ?_
      refine wm_iadd 43 (by decide +kernel) rfl ?_
      refine wm_iload_n 3 44 (by decide +kernel) rfl rfl ?_
      obtain ⟨o11, H⟩ := H
      replace H := H _ rfl
      refine wm_iast 80 45 (by decide +kernel) rfl (by decide +kernel) (by decide +kernel) o11 ?_
      refine wm_iload 4 47 (by decide +kernel) rfl rfl ?_
      exact wm_iret (by decide +kernel) ⟨.int, rfl, rfl⟩ H
    · replace H := H.1 c8
      refine wm_aload_n 0 19 (by decide +kernel) rfl rfl ?_
      refine wm_ldc (-1000000001) 21 co_RX8_96 (by decide +kernel) rfl ?_
      refine wm_callVi mX8_finds 1 8 [_] [] _ _ 24 mo_X8_finds np_X8_finds ml_RX8_129 im_X8_finds se_X8_finds (by decide +kernel) (by decide +kernel) rfl rfl rfl (Nat.le_of_ble_eq_true rfl) (by decide +kernel) rfl (Nat.le_of_ble_eq_true rfl) _ (ent_pad 0 rfl) (l_X8_finds g _ _ _ H) (fun v14 h13 H hzv14 => ?_)
      exact wm_iret (by decide +kernel) ⟨.int, rfl, rfl⟩ H
def f_X8_as_J68 (x1 : Int32) (xs0 : Int32)  (Q : Int32 → HP → Prop) (h : HP) : Prop :=
  (((xs0 = 0) →
    f_X8_finds (-1000000003 : Int32) h (fun v14 h13 =>
    Q v14 h13)) ∧
   (¬ (xs0 = 0) →
    f_X8_at x1 3 h (fun v16 h15 =>
    Q v16 h15)))
def f_X8_as_J53 (x1 : Int32) (x2 : Int32) (x3 : Int32)  (Q : Int32 → HP → Prop) (h : HP) : Prop :=
  (((x2 = 2) →
    (((x3 = 4) →
      f_X8_as_J68 x1 1  Q h) ∧
     (¬ (x3 = 4) →
      f_X8_as_J68 x1 0  Q h))) ∧
   (¬ (x2 = 2) →
    f_X8_as_J68 x1 0  Q h))
def f_X8_as (x1 : Int32) (x2 : Int32) (h : HP) (Q : Int32 → HP → Prop) : Prop :=
  f_X8_isLine x1 h (fun v2 h1 =>
  (((v2 = 0) →
    f_X8_finds (-1000000001 : Int32) h1 (fun v5 h4 =>
    Q v5 h4)) ∧
   (¬ (v2 = 0) →
    f_X8_in ((x2 : Int32).toInt64) (0 : Int64) (5 : Int64) h1 (fun v7 h6 =>
    (((v7 = 0) →
      f_X8_finds (-1000000001 : Int32) h6 (fun v23 h22 =>
      Q v23 h22)) ∧
     (¬ (v7 = 0) →
      f_X8_at x1 0 h6 (fun v10 h9 =>
      (((x2 = 0) →
        f_X8_as_J68 x1 1  Q h9) ∧
       (¬ (x2 = 0) →
        (((x2 = v10) →
          f_X8_as_J68 x1 1  Q h9) ∧
         (¬ (x2 = v10) →
          (((x2 = 1) →
            (((v10 = 3) →
              f_X8_as_J68 x1 1  Q h9) ∧
             (¬ (v10 = 3) →
              f_X8_as_J53 x1 x2 v10  Q h9))) ∧
           (¬ (x2 = 1) →
            f_X8_as_J53 x1 x2 v10  Q h9)))))))))))))
set_option maxRecDepth 20000 in
theorem l_X8_as_J68 (g : GE) (x1 : Int32) (xs0 : Int32) (hzxs0 : narrow .boolean (.int xs0) = .int xs0)  (Q : Int32 → HP → Prop)  (h : HP) (H : f_X8_as_J68 x1 xs0  Q h) : Wm g mX8_as 68 [some (.ref 117), some (.int x1), none, none, none] [(.int xs0)] h (qi Q) := by
  unfold f_X8_as_J68 at H
  refine wm_istore 4 70 [some _, some _, none, none, some _] (by decide +kernel) rfl (by decide +kernel) (okS_spec rfl) rfl ?_
  refine wm_iload 4 72 (by decide +kernel) rfl rfl ?_
  refine wm_if_eq 75 84 (by decide +kernel : decode cX8_as 72 = .ok (.ifCond .eq 12, 3)) (by decide) rfl (fun c12 => ?_) (fun c12 => ?_)
  · replace H := H.1 c12
    refine wm_aload_n 0 85 (by decide +kernel) rfl rfl ?_
    refine wm_ldc (-1000000003) 87 co_RX8_182 (by decide +kernel) rfl ?_
    refine wm_callVi mX8_finds 1 8 [_] [] _ _ 90 mo_X8_finds np_X8_finds ml_RX8_129 im_X8_finds se_X8_finds (by decide +kernel) (by decide +kernel) rfl rfl rfl (Nat.le_of_ble_eq_true rfl) (by decide +kernel) rfl (Nat.le_of_ble_eq_true rfl) _ (ent_pad 0 rfl) (l_X8_finds g _ _ _ H) (fun v14 h13 H hzv14 => ?_)
    exact wm_iret (by decide +kernel) ⟨.int, rfl, rfl⟩ H
  · replace H := H.2 c12
    refine wm_aload_n 0 76 (by decide +kernel) rfl rfl ?_
    refine wm_iload_n 1 77 (by decide +kernel) rfl rfl ?_
    refine wm_iconst 3 78 (by decide +kernel : decode cX8_as 77 = .ok (.iconst 3, 1)) rfl (by decide +kernel) ?_
    refine wm_callVi mX8_at 2 8 [_, _] [] _ _ 81 mo_X8_at np_X8_at ml_RX8_109 im_X8_at se_X8_at (by decide +kernel) (by decide +kernel) rfl rfl rfl (Nat.le_of_ble_eq_true rfl) (by decide +kernel) rfl (Nat.le_of_ble_eq_true rfl) _ (ent_pad 0 rfl) (l_X8_at g _ _ _ _ H) (fun v16 h15 H hzv16 => ?_)
    refine wm_goto 90 (by decide +kernel : decode cX8_as 81 = .ok (.goto 9, 3)) (by decide) ?_
    exact wm_iret (by decide +kernel) ⟨.int, rfl, rfl⟩ H
set_option maxRecDepth 20000 in
theorem l_X8_as_J53 (g : GE) (x1 : Int32) (x2 : Int32) (x3 : Int32)   (Q : Int32 → HP → Prop)  (h : HP) (H : f_X8_as_J53 x1 x2 x3  Q h) : Wm g mX8_as 53 [some (.ref 117), some (.int x1), some (.int x2), some (.int x3), none] [] h (qi Q) := by
  unfold f_X8_as_J53 at H
  refine wm_iload_n 2 54 (by decide +kernel) rfl rfl ?_
  refine wm_iconst 2 55 (by decide +kernel : decode cX8_as 54 = .ok (.iconst 2, 1)) rfl (by decide +kernel) ?_
  refine wm_icmp_ne 58 67 (by decide +kernel : decode cX8_as 55 = .ok (.if_icmp .ne 12, 3)) (by decide) rfl (fun c19 => ?_) (fun c19 => ?_)
  · replace H := H.2 c19
    refine wm_iconst 0 68 (by decide +kernel : decode cX8_as 67 = .ok (.iconst 0, 1)) rfl (by decide +kernel) ?_
    refine wm_mask [true, true, false, false, false] [some _, some _, none, none, none] rfl ?_
    exact l_X8_as_J68 g _ _ (by decide +kernel) _  _ H
  · replace H := H.1 c19
    refine wm_iload_n 3 59 (by decide +kernel) rfl rfl ?_
    refine wm_iconst 4 60 (by decide +kernel : decode cX8_as 59 = .ok (.iconst 4, 1)) rfl (by decide +kernel) ?_
    refine wm_icmp_ne 63 67 (by decide +kernel : decode cX8_as 60 = .ok (.if_icmp .ne 7, 3)) (by decide) rfl (fun c20 => ?_) (fun c20 => ?_)
    · replace H := H.2 c20
      refine wm_iconst 0 68 (by decide +kernel : decode cX8_as 67 = .ok (.iconst 0, 1)) rfl (by decide +kernel) ?_
      refine wm_mask [true, true, false, false, false] [some _, some _, none, none, none] rfl ?_
      exact l_X8_as_J68 g _ _ (by decide +kernel) _  _ H
    · replace H := H.1 c20
      refine wm_iconst 1 64 (by decide +kernel : decode cX8_as 63 = .ok (.iconst 1, 1)) rfl (by decide +kernel) ?_
      refine wm_goto 68 (by decide +kernel : decode cX8_as 64 = .ok (.goto 4, 3)) (by decide) ?_
      refine wm_mask [true, true, false, false, false] [some _, some _, none, none, none] rfl ?_
      exact l_X8_as_J68 g _ _ (by decide +kernel) _  _ H
set_option maxRecDepth 20000 in
theorem l_X8_as (g : GE) (x1 : Int32) (x2 : Int32)  (h : HP) (Q : Int32 → HP → Prop) (H : f_X8_as x1 x2 h Q) : Wm g mX8_as 0 [some (.ref 117), some (.int x1), some (.int x2), none, none] [] h (qi Q) := by
  unfold f_X8_as at H
  refine wm_aload_n 0 1 (by decide +kernel) rfl rfl ?_
  refine wm_iload_n 1 2 (by decide +kernel) rfl rfl ?_
  refine wm_callVi mX8_isLine 1 8 [_] [] _ _ 5 mo_X8_isLine np_X8_isLine ml_RX8_163 im_X8_isLine se_X8_isLine (by decide +kernel) (by decide +kernel) rfl rfl rfl (Nat.le_of_ble_eq_true rfl) (by decide +kernel) rfl (Nat.le_of_ble_eq_true rfl) _ (ent_pad 0 rfl) (l_X8_isLine g _ _ _ H) (fun v2 h1 H hzv2 => ?_)
  refine wm_if_eq 8 20 (by decide +kernel : decode cX8_as 5 = .ok (.ifCond .eq 15, 3)) (by decide) rfl (fun c3 => ?_) (fun c3 => ?_)
  · replace H := H.1 c3
    refine wm_aload_n 0 21 (by decide +kernel) rfl rfl ?_
    refine wm_ldc (-1000000001) 23 co_RX8_96 (by decide +kernel) rfl ?_
    refine wm_callVi mX8_finds 1 8 [_] [] _ _ 26 mo_X8_finds np_X8_finds ml_RX8_129 im_X8_finds se_X8_finds (by decide +kernel) (by decide +kernel) rfl rfl rfl (Nat.le_of_ble_eq_true rfl) (by decide +kernel) rfl (Nat.le_of_ble_eq_true rfl) _ (ent_pad 0 rfl) (l_X8_finds g _ _ _ H) (fun v5 h4 H hzv5 => ?_)
    exact wm_iret (by decide +kernel) ⟨.int, rfl, rfl⟩ H
  · replace H := H.2 c3
    refine wm_iload_n 2 9 (by decide +kernel) rfl rfl ?_
    refine wm_i2l 10 (by decide +kernel) rfl ?_
    refine wm_lconst 0 11 (by decide +kernel : decode cX8_as 10 = .ok (.lconst 0, 1)) rfl (by decide +kernel) ?_
    refine wm_ldc2 5 14 cl_RX8_138 (by decide +kernel) rfl ?_
    refine wm_callSi mX8_in 3 [_, _, _] [] _ _ 17 mo_X8_in np_X8_in ml_RX8_101 sc_X8_in (by decide +kernel) (by decide +kernel) rfl rfl rfl (Nat.le_of_ble_eq_true rfl) (Nat.le_of_ble_eq_true rfl) _ (ent_pad 0 rfl) (l_X8_in g _ _ _ _ _ H) (fun v7 h6 H hzv7 => ?_)
    refine wm_if_ne 20 27 (by decide +kernel : decode cX8_as 17 = .ok (.ifCond .ne 10, 3)) (by decide) rfl (fun c8 => ?_) (fun c8 => ?_)
    · replace H := H.2 c8
      refine wm_aload_n 0 28 (by decide +kernel) rfl rfl ?_
      refine wm_iload_n 1 29 (by decide +kernel) rfl rfl ?_
      refine wm_iconst 0 30 (by decide +kernel : decode cX8_as 29 = .ok (.iconst 0, 1)) rfl (by decide +kernel) ?_
      refine wm_callVi mX8_at 2 8 [_, _] [] _ _ 33 mo_X8_at np_X8_at ml_RX8_109 im_X8_at se_X8_at (by decide +kernel) (by decide +kernel) rfl rfl rfl (Nat.le_of_ble_eq_true rfl) (by decide +kernel) rfl (Nat.le_of_ble_eq_true rfl) _ (ent_pad 0 rfl) (l_X8_at g _ _ _ _ H) (fun v10 h9 H hzv10 => ?_)
      refine wm_istore_n 3 34 [some _, some _, some _, some _, none] (by decide +kernel) rfl (by decide +kernel) (okS_spec rfl) rfl ?_
      refine wm_iload_n 2 35 (by decide +kernel) rfl rfl ?_
      refine wm_if_eq 38 63 (by decide +kernel : decode cX8_as 35 = .ok (.ifCond .eq 28, 3)) (by decide) rfl (fun c11 => ?_) (fun c11 => ?_)
      · replace H := H.1 c11
        refine wm_iconst 1 64 (by decide +kernel : decode cX8_as 63 = .ok (.iconst 1, 1)) rfl (by decide +kernel) ?_
        refine wm_goto 68 (by decide +kernel : decode cX8_as 64 = .ok (.goto 4, 3)) (by decide) ?_
        refine wm_mask [true, true, false, false, false] [some _, some _, none, none, none] rfl ?_
        exact l_X8_as_J68 g _ _ (by decide +kernel) _  _ H
      · replace H := H.2 c11
        refine wm_iload_n 2 39 (by decide +kernel) rfl rfl ?_
        refine wm_iload_n 3 40 (by decide +kernel) rfl rfl ?_
        refine wm_icmp_eq 43 63 (by decide +kernel : decode cX8_as 40 = .ok (.if_icmp .eq 23, 3)) (by decide) rfl (fun c17 => ?_) (fun c17 => ?_)
        · replace H := H.1 c17
          refine wm_iconst 1 64 (by decide +kernel : decode cX8_as 63 = .ok (.iconst 1, 1)) rfl (by decide +kernel) ?_
          refine wm_goto 68 (by decide +kernel : decode cX8_as 64 = .ok (.goto 4, 3)) (by decide) ?_
          refine wm_mask [true, true, false, false, false] [some _, some _, none, none, none] rfl ?_
          exact l_X8_as_J68 g _ _ (by decide +kernel) _  _ H
        · replace H := H.2 c17
          refine wm_iload_n 2 44 (by decide +kernel) rfl rfl ?_
          refine wm_iconst 1 45 (by decide +kernel : decode cX8_as 44 = .ok (.iconst 1, 1)) rfl (by decide +kernel) ?_
          refine wm_icmp_ne 48 53 (by decide +kernel : decode cX8_as 45 = .ok (.if_icmp .ne 8, 3)) (by decide) rfl (fun c18 => ?_) (fun c18 => ?_)
          · replace H := H.2 c18
            exact l_X8_as_J53 g _ _ _ _  _ H
          · replace H := H.1 c18
            refine wm_iload_n 3 49 (by decide +kernel) rfl rfl ?_
            refine wm_iconst 3 50 (by decide +kernel : decode cX8_as 49 = .ok (.iconst 3, 1)) rfl (by decide +kernel) ?_
            refine wm_icmp_eq 53 63 (by decide +kernel : decode cX8_as 50 = .ok (.if_icmp .eq 13, 3)) (by decide) rfl (fun c21 => ?_) (fun c21 => ?_)
            · replace H := H.1 c21
              refine wm_iconst 1 64 (by decide +kernel : decode cX8_as 63 = .ok (.iconst 1, 1)) rfl (by decide +kernel) ?_
              refine wm_goto 68 (by decide +kernel : decode cX8_as 64 = .ok (.goto 4, 3)) (by decide) ?_
              refine wm_mask [true, true, false, false, false] [some _, some _, none, none, none] rfl ?_
              exact l_X8_as_J68 g _ _ (by decide +kernel) _  _ H
            · replace H := H.2 c21
              exact l_X8_as_J53 g _ _ _ _  _ H
    · replace H := H.1 c8
      refine wm_aload_n 0 21 (by decide +kernel) rfl rfl ?_
      refine wm_ldc (-1000000001) 23 co_RX8_96 (by decide +kernel) rfl ?_
      refine wm_callVi mX8_finds 1 8 [_] [] _ _ 26 mo_X8_finds np_X8_finds ml_RX8_129 im_X8_finds se_X8_finds (by decide +kernel) (by decide +kernel) rfl rfl rfl (Nat.le_of_ble_eq_true rfl) (by decide +kernel) rfl (Nat.le_of_ble_eq_true rfl) _ (ent_pad 0 rfl) (l_X8_finds g _ _ _ H) (fun v23 h22 H hzv23 => ?_)
      exact wm_iret (by decide +kernel) ⟨.int, rfl, rfl⟩ H
def f_X8_stands_J61 (x1 : Int32) (xs0 : Int32)  (Q : Int32 → HP → Prop) (h : HP) : Prop :=
  (((xs0 = 0) →
    f_X8_finds (-1000000003 : Int32) h (fun v12 h11 =>
    Q v12 h11)) ∧
   (¬ (xs0 = 0) →
    vp_in x1 6 ∧
    Q (gi h 121 (ix x1)) h))
def f_X8_stands (x1 : Int32) (x2 : Int32) (h : HP) (Q : Int32 → HP → Prop) : Prop :=
  f_X8_isStation x1 h (fun v2 h1 =>
  (((v2 = 0) →
    f_X8_finds (-1000000001 : Int32) h1 (fun v5 h4 =>
    Q v5 h4)) ∧
   (¬ (v2 = 0) →
    f_X8_in ((x2 : Int32).toInt64) (0 : Int64) (3 : Int64) h1 (fun v7 h6 =>
    (((v7 = 0) →
      f_X8_finds (-1000000001 : Int32) h6 (fun v20 h19 =>
      Q v20 h19)) ∧
     (¬ (v7 = 0) →
      (((x2 = 0) →
        f_X8_stands_J61 x1 1  Q h6) ∧
       (¬ (x2 = 0) →
        vp_in x1 6 ∧
        (((x2 = (gi h6 119 (ix x1))) →
          f_X8_stands_J61 x1 1  Q h6) ∧
         (¬ (x2 = (gi h6 119 (ix x1))) →
          (((x2 = 1) →
            vp_in x1 6 ∧
            ((((gi h6 119 (ix x1)) = 3) →
              f_X8_stands_J61 x1 1  Q h6) ∧
             (¬ ((gi h6 119 (ix x1)) = 3) →
              f_X8_stands_J61 x1 0  Q h6))) ∧
           (¬ (x2 = 1) →
            f_X8_stands_J61 x1 0  Q h6))))))))))))
set_option maxRecDepth 20000 in
theorem l_X8_stands_J61 (g : GE) (x1 : Int32) (xs0 : Int32) (hzxs0 : narrow .boolean (.int xs0) = .int xs0)  (Q : Int32 → HP → Prop)  (h : HP) (H : f_X8_stands_J61 x1 xs0  Q h) : Wm g mX8_stands 61 [some (.ref 117), some (.int x1), none, none] [(.int xs0)] h (qi Q) := by
  unfold f_X8_stands_J61 at H
  refine wm_istore_n 3 62 [some _, some _, none, some _] (by decide +kernel) rfl (by decide +kernel) (okS_spec rfl) rfl ?_
  refine wm_iload_n 3 63 (by decide +kernel) rfl rfl ?_
  refine wm_if_eq 66 75 (by decide +kernel : decode cX8_stands 63 = .ok (.ifCond .eq 12, 3)) (by decide) rfl (fun c10 => ?_) (fun c10 => ?_)
  · replace H := H.1 c10
    refine wm_aload_n 0 76 (by decide +kernel) rfl rfl ?_
    refine wm_ldc (-1000000003) 78 co_RX8_182 (by decide +kernel) rfl ?_
    refine wm_callVi mX8_finds 1 8 [_] [] _ _ 81 mo_X8_finds np_X8_finds ml_RX8_129 im_X8_finds se_X8_finds (by decide +kernel) (by decide +kernel) rfl rfl rfl (Nat.le_of_ble_eq_true rfl) (by decide +kernel) rfl (Nat.le_of_ble_eq_true rfl) _ (ent_pad 0 rfl) (l_X8_finds g _ _ _ H) (fun v12 h11 H hzv12 => ?_)
    exact wm_iret (by decide +kernel) ⟨.int, rfl, rfl⟩ H
  · replace H := H.2 c10
    refine wm_aload_n 0 67 (by decide +kernel) rfl rfl ?_
    refine wm_getr 8 6 4 121 70 fl_RX8_19 (by decide +kernel) rfl (by decide +kernel) rfl rfl (by decide) ?_
    refine wm_iload_n 1 71 (by decide +kernel) rfl rfl ?_
    obtain ⟨o13, H⟩ := H
    refine wm_iald 6 72 (by decide +kernel) rfl (by decide +kernel) (by decide +kernel) o13 ?_
    refine wm_goto 81 (by decide +kernel : decode cX8_stands 72 = .ok (.goto 9, 3)) (by decide) ?_
    exact wm_iret (by decide +kernel) ⟨.int, rfl, rfl⟩ H
set_option maxRecDepth 20000 in
theorem l_X8_stands (g : GE) (x1 : Int32) (x2 : Int32)  (h : HP) (Q : Int32 → HP → Prop) (H : f_X8_stands x1 x2 h Q) : Wm g mX8_stands 0 [some (.ref 117), some (.int x1), some (.int x2), none] [] h (qi Q) := by
  unfold f_X8_stands at H
  refine wm_aload_n 0 1 (by decide +kernel) rfl rfl ?_
  refine wm_iload_n 1 2 (by decide +kernel) rfl rfl ?_
  refine wm_callVi mX8_isStation 1 8 [_] [] _ _ 5 mo_X8_isStation np_X8_isStation ml_RX8_140 im_X8_isStation se_X8_isStation (by decide +kernel) (by decide +kernel) rfl rfl rfl (Nat.le_of_ble_eq_true rfl) (by decide +kernel) rfl (Nat.le_of_ble_eq_true rfl) _ (ent_pad 0 rfl) (l_X8_isStation g _ _ _ H) (fun v2 h1 H hzv2 => ?_)
  refine wm_if_eq 8 20 (by decide +kernel : decode cX8_stands 5 = .ok (.ifCond .eq 15, 3)) (by decide) rfl (fun c3 => ?_) (fun c3 => ?_)
  · replace H := H.1 c3
    refine wm_aload_n 0 21 (by decide +kernel) rfl rfl ?_
    refine wm_ldc (-1000000001) 23 co_RX8_96 (by decide +kernel) rfl ?_
    refine wm_callVi mX8_finds 1 8 [_] [] _ _ 26 mo_X8_finds np_X8_finds ml_RX8_129 im_X8_finds se_X8_finds (by decide +kernel) (by decide +kernel) rfl rfl rfl (Nat.le_of_ble_eq_true rfl) (by decide +kernel) rfl (Nat.le_of_ble_eq_true rfl) _ (ent_pad 0 rfl) (l_X8_finds g _ _ _ H) (fun v5 h4 H hzv5 => ?_)
    exact wm_iret (by decide +kernel) ⟨.int, rfl, rfl⟩ H
  · replace H := H.2 c3
    refine wm_iload_n 2 9 (by decide +kernel) rfl rfl ?_
    refine wm_i2l 10 (by decide +kernel) rfl ?_
    refine wm_lconst 0 11 (by decide +kernel : decode cX8_stands 10 = .ok (.lconst 0, 1)) rfl (by decide +kernel) ?_
    refine wm_ldc2 3 14 cl_RX8_125 (by decide +kernel) rfl ?_
    refine wm_callSi mX8_in 3 [_, _, _] [] _ _ 17 mo_X8_in np_X8_in ml_RX8_101 sc_X8_in (by decide +kernel) (by decide +kernel) rfl rfl rfl (Nat.le_of_ble_eq_true rfl) (Nat.le_of_ble_eq_true rfl) _ (ent_pad 0 rfl) (l_X8_in g _ _ _ _ _ H) (fun v7 h6 H hzv7 => ?_)
    refine wm_if_ne 20 27 (by decide +kernel : decode cX8_stands 17 = .ok (.ifCond .ne 10, 3)) (by decide) rfl (fun c8 => ?_) (fun c8 => ?_)
    · replace H := H.2 c8
      refine wm_iload_n 2 28 (by decide +kernel) rfl rfl ?_
      refine wm_if_eq 31 56 (by decide +kernel : decode cX8_stands 28 = .ok (.ifCond .eq 28, 3)) (by decide) rfl (fun c9 => ?_) (fun c9 => ?_)
      · replace H := H.1 c9
        refine wm_iconst 1 57 (by decide +kernel : decode cX8_stands 56 = .ok (.iconst 1, 1)) rfl (by decide +kernel) ?_
        refine wm_goto 61 (by decide +kernel : decode cX8_stands 57 = .ok (.goto 4, 3)) (by decide) ?_
        refine wm_mask [true, true, false, false] [some _, some _, none, none] rfl ?_
        exact l_X8_stands_J61 g _ _ (by decide +kernel) _  _ H
      · replace H := H.2 c9
        refine wm_iload_n 2 32 (by decide +kernel) rfl rfl ?_
        refine wm_aload_n 0 33 (by decide +kernel) rfl rfl ?_
        refine wm_getr 8 4 2 119 36 fl_RX8_13 (by decide +kernel) rfl (by decide +kernel) rfl rfl (by decide) ?_
        refine wm_iload_n 1 37 (by decide +kernel) rfl rfl ?_
        obtain ⟨o14, H⟩ := H
        refine wm_iald 6 38 (by decide +kernel) rfl (by decide +kernel) (by decide +kernel) o14 ?_
        refine wm_icmp_eq 41 56 (by decide +kernel : decode cX8_stands 38 = .ok (.if_icmp .eq 18, 3)) (by decide) rfl (fun c15 => ?_) (fun c15 => ?_)
        · replace H := H.1 c15
          refine wm_iconst 1 57 (by decide +kernel : decode cX8_stands 56 = .ok (.iconst 1, 1)) rfl (by decide +kernel) ?_
          refine wm_goto 61 (by decide +kernel : decode cX8_stands 57 = .ok (.goto 4, 3)) (by decide) ?_
          refine wm_mask [true, true, false, false] [some _, some _, none, none] rfl ?_
          exact l_X8_stands_J61 g _ _ (by decide +kernel) _  _ H
        · replace H := H.2 c15
          refine wm_iload_n 2 42 (by decide +kernel) rfl rfl ?_
          refine wm_iconst 1 43 (by decide +kernel : decode cX8_stands 42 = .ok (.iconst 1, 1)) rfl (by decide +kernel) ?_
          refine wm_icmp_ne 46 60 (by decide +kernel : decode cX8_stands 43 = .ok (.if_icmp .ne 17, 3)) (by decide) rfl (fun c16 => ?_) (fun c16 => ?_)
          · replace H := H.2 c16
            refine wm_iconst 0 61 (by decide +kernel : decode cX8_stands 60 = .ok (.iconst 0, 1)) rfl (by decide +kernel) ?_
            refine wm_mask [true, true, false, false] [some _, some _, none, none] rfl ?_
            exact l_X8_stands_J61 g _ _ (by decide +kernel) _  _ H
          · replace H := H.1 c16
            refine wm_aload_n 0 47 (by decide +kernel) rfl rfl ?_
            refine wm_getr 8 4 2 119 50 fl_RX8_13 (by decide +kernel) rfl (by decide +kernel) rfl rfl (by decide) ?_
            refine wm_iload_n 1 51 (by decide +kernel) rfl rfl ?_
            obtain ⟨o17, H⟩ := H
            refine wm_iald 6 52 (by decide +kernel) rfl (by decide +kernel) (by decide +kernel) o17 ?_
            refine wm_iconst 3 53 (by decide +kernel : decode cX8_stands 52 = .ok (.iconst 3, 1)) rfl (by decide +kernel) ?_
            refine wm_icmp_ne 56 60 (by decide +kernel : decode cX8_stands 53 = .ok (.if_icmp .ne 7, 3)) (by decide) rfl (fun c18 => ?_) (fun c18 => ?_)
            · replace H := H.2 c18
              refine wm_iconst 0 61 (by decide +kernel : decode cX8_stands 60 = .ok (.iconst 0, 1)) rfl (by decide +kernel) ?_
              refine wm_mask [true, true, false, false] [some _, some _, none, none] rfl ?_
              exact l_X8_stands_J61 g _ _ (by decide +kernel) _  _ H
            · replace H := H.1 c18
              refine wm_iconst 1 57 (by decide +kernel : decode cX8_stands 56 = .ok (.iconst 1, 1)) rfl (by decide +kernel) ?_
              refine wm_goto 61 (by decide +kernel : decode cX8_stands 57 = .ok (.goto 4, 3)) (by decide) ?_
              refine wm_mask [true, true, false, false] [some _, some _, none, none] rfl ?_
              exact l_X8_stands_J61 g _ _ (by decide +kernel) _  _ H
    · replace H := H.1 c8
      refine wm_aload_n 0 21 (by decide +kernel) rfl rfl ?_
      refine wm_ldc (-1000000001) 23 co_RX8_96 (by decide +kernel) rfl ?_
      refine wm_callVi mX8_finds 1 8 [_] [] _ _ 26 mo_X8_finds np_X8_finds ml_RX8_129 im_X8_finds se_X8_finds (by decide +kernel) (by decide +kernel) rfl rfl rfl (Nat.le_of_ble_eq_true rfl) (by decide +kernel) rfl (Nat.le_of_ble_eq_true rfl) _ (ent_pad 0 rfl) (l_X8_finds g _ _ _ H) (fun v20 h19 H hzv20 => ?_)
      exact wm_iret (by decide +kernel) ⟨.int, rfl, rfl⟩ H
def f_X8_canSend (x1 : Int32) (x2 : Int64) (h : HP) (Q : Int32 → HP → Prop) : Prop :=
  f_X8_at x1 1 h (fun v2 h1 =>
  vp_in v2 6 ∧
  f_X8_in x2 (0 : Int64) (((gi h1 120 (ix v2)) : Int32).toInt64) h1 (fun v5 h4 =>
  (((v5 = 0) →
    Q 0 h4) ∧
   (¬ (v5 = 0) →
    vp_in x1 10 ∧
    f_X8_room x1 (gi h4 117 1) h4 (fun v9 h8 =>
    (((0 < (lg_cmp (((gi h4 123 (ix x1)) : Int32).toInt64 + x2) (v9 : Int32).toInt64)) →
      Q 0 h8) ∧
     (¬ (0 < (lg_cmp (((gi h4 123 (ix x1)) : Int32).toInt64 + x2) (v9 : Int32).toInt64)) →
      Q 1 h8)))))))
set_option maxRecDepth 20000 in
theorem l_X8_canSend (g : GE) (x1 : Int32) (x2 : Int64)  (h : HP) (Q : Int32 → HP → Prop) (H : f_X8_canSend x1 x2 h Q) : Wm g mX8_canSend 0 [some (.ref 117), some (.int x1), some (.long x2), none] [] h (qi Q) := by
  unfold f_X8_canSend at H
  refine wm_lload_n 2 1 (by decide +kernel) rfl rfl ?_
  refine wm_lconst 0 2 (by decide +kernel : decode cX8_canSend 1 = .ok (.lconst 0, 1)) rfl (by decide +kernel) ?_
  refine wm_aload_n 0 3 (by decide +kernel) rfl rfl ?_
  refine wm_getr 8 5 3 120 6 fl_RX8_16 (by decide +kernel) rfl (by decide +kernel) rfl rfl (by decide) ?_
  refine wm_aload_n 0 7 (by decide +kernel) rfl rfl ?_
  refine wm_iload_n 1 8 (by decide +kernel) rfl rfl ?_
  refine wm_iconst 1 9 (by decide +kernel : decode cX8_canSend 8 = .ok (.iconst 1, 1)) rfl (by decide +kernel) ?_
  refine wm_callVi mX8_at 2 8 [_, _] [_, _, _] _ _ 12 mo_X8_at np_X8_at ml_RX8_109 im_X8_at se_X8_at (by decide +kernel) (by decide +kernel) rfl rfl rfl (Nat.le_of_ble_eq_true rfl) (by decide +kernel) rfl (Nat.le_of_ble_eq_true rfl) _ (ent_pad 0 rfl) (l_X8_at g _ _ _ _ H) (fun v2 h1 H hzv2 => ?_)
  obtain ⟨o3, H⟩ := H
  refine wm_iald 6 13 (by decide +kernel) rfl (by decide +kernel) (by decide +kernel) o3 ?_
  refine wm_i2l 14 (by decide +kernel) rfl ?_
  refine wm_callSi mX8_in 3 [_, _, _] [] _ _ 17 mo_X8_in np_X8_in ml_RX8_101 sc_X8_in (by decide +kernel) (by decide +kernel) rfl rfl rfl (Nat.le_of_ble_eq_true rfl) (Nat.le_of_ble_eq_true rfl) _ (ent_pad 0 rfl) (l_X8_in g _ _ _ _ _ H) (fun v5 h4 H hzv5 => ?_)
  refine wm_if_eq 20 47 (by decide +kernel : decode cX8_canSend 17 = .ok (.ifCond .eq 30, 3)) (by decide) rfl (fun c6 => ?_) (fun c6 => ?_)
  · replace H := H.1 c6
    refine wm_iconst 0 48 (by decide +kernel : decode cX8_canSend 47 = .ok (.iconst 0, 1)) rfl (by decide +kernel) ?_
    exact wm_iret (by decide +kernel) ⟨.boolean, rfl, (by decide +kernel)⟩ H
  · replace H := H.2 c6
    refine wm_aload_n 0 21 (by decide +kernel) rfl rfl ?_
    refine wm_getr 8 9 6 123 24 fl_RX8_25 (by decide +kernel) rfl (by decide +kernel) rfl rfl (by decide) ?_
    refine wm_iload_n 1 25 (by decide +kernel) rfl rfl ?_
    obtain ⟨o7, H⟩ := H
    refine wm_iald 10 26 (by decide +kernel) rfl (by decide +kernel) (by decide +kernel) o7 ?_
    refine wm_i2l 27 (by decide +kernel) rfl ?_
    refine wm_lload_n 2 28 (by decide +kernel) rfl rfl ?_
    refine wm_ladd 29 (by decide +kernel) rfl ?_
    refine wm_aload_n 0 30 (by decide +kernel) rfl rfl ?_
    refine wm_iload_n 1 31 (by decide +kernel) rfl rfl ?_
    refine wm_aload_n 0 32 (by decide +kernel) rfl rfl ?_
    refine wm_geti 8 1 35 fl_RX8_154 (by decide +kernel) rfl (by decide +kernel) rfl ?_
    refine wm_callVi mX8_room 2 8 [_, _] [_] _ _ 38 mo_X8_room np_X8_room ml_RX8_168 im_X8_room se_X8_room (by decide +kernel) (by decide +kernel) rfl rfl rfl (Nat.le_of_ble_eq_true rfl) (by decide +kernel) rfl (Nat.le_of_ble_eq_true rfl) _ (ent_pad 0 rfl) (l_X8_room g _ _ _ _ H) (fun v9 h8 H hzv9 => ?_)
    refine wm_i2l 39 (by decide +kernel) rfl ?_
    refine wm_lcmp 40 (by decide +kernel) rfl ?_
    refine wm_if_gt 43 47 (by decide +kernel : decode cX8_canSend 40 = .ok (.ifCond .gt 7, 3)) (by decide) rfl (fun c10 => ?_) (fun c10 => ?_)
    · replace H := H.1 c10
      refine wm_iconst 0 48 (by decide +kernel : decode cX8_canSend 47 = .ok (.iconst 0, 1)) rfl (by decide +kernel) ?_
      exact wm_iret (by decide +kernel) ⟨.boolean, rfl, (by decide +kernel)⟩ H
    · replace H := H.2 c10
      refine wm_iconst 1 44 (by decide +kernel : decode cX8_canSend 43 = .ok (.iconst 1, 1)) rfl (by decide +kernel) ?_
      refine wm_goto 48 (by decide +kernel : decode cX8_canSend 44 = .ok (.goto 4, 3)) (by decide) ?_
      exact wm_iret (by decide +kernel) ⟨.boolean, rfl, (by decide +kernel)⟩ H
def f_X8_sends (x1 : Int32) (x2 : Int32) (h : HP) (Q : HP → Prop) : Prop :=
  f_X8_at x1 1 h (fun v2 h1 =>
  vp_in v2 6 ∧
  vp_in v2 6 ∧
  ∀ h5 : HP, h5 = si h1 120 (ix v2) ((gi h1 120 (ix v2)) - x2) →
  vp_in x1 10 ∧
  vp_in x1 10 ∧
  ∀ h8 : HP, h8 = si h5 123 (ix x1) ((gi h5 123 (ix x1)) + x2) →
  f_X8_takes x1 h8 (fun v10 h9 =>
  vp_in ((16 * x1) + (((gi h8 117 1) + v10) - ((gi h8 117 1) + v10) / 16 * 16)) 160 ∧
  vp_in ((16 * x1) + (((gi h8 117 1) + v10) - ((gi h8 117 1) + v10) / 16 * 16)) 160 ∧
  ∀ h13 : HP, h13 = si h9 124 (ix ((16 * x1) + (((gi h8 117 1) + v10) - ((gi h8 117 1) + v10) / 16 * 16))) ((gi h9 124 (ix ((16 * x1) + (((gi h8 117 1) + v10) - ((gi h8 117 1) + v10) / 16 * 16)))) + x2) →
  Q h13))
set_option maxRecDepth 20000 in
theorem l_X8_sends (g : GE) (x1 : Int32) (x2 : Int32)  (h : HP) (Q : HP → Prop) (H : f_X8_sends x1 x2 h Q) : Wm g mX8_sends 0 [some (.ref 117), some (.int x1), some (.int x2)] [] h (qv Q) := by
  unfold f_X8_sends at H
  refine wm_aload_n 0 1 (by decide +kernel) rfl rfl ?_
  refine wm_getr 8 5 3 120 4 fl_RX8_16 (by decide +kernel) rfl (by decide +kernel) rfl rfl (by decide) ?_
  refine wm_aload_n 0 5 (by decide +kernel) rfl rfl ?_
  refine wm_iload_n 1 6 (by decide +kernel) rfl rfl ?_
  refine wm_iconst 1 7 (by decide +kernel : decode cX8_sends 6 = .ok (.iconst 1, 1)) rfl (by decide +kernel) ?_
  refine wm_callVi mX8_at 2 8 [_, _] [_] _ _ 10 mo_X8_at np_X8_at ml_RX8_109 im_X8_at se_X8_at (by decide +kernel) (by decide +kernel) rfl rfl rfl (Nat.le_of_ble_eq_true rfl) (by decide +kernel) rfl (Nat.le_of_ble_eq_true rfl) _ (ent_pad 0 rfl) (l_X8_at g _ _ _ _ H) (fun v2 h1 H hzv2 => ?_)
  refine wm_dup2 11 (by decide +kernel) rfl rfl rfl ?_
  obtain ⟨o3, H⟩ := H
  refine wm_iald 6 12 (by decide +kernel) rfl (by decide +kernel) (by decide +kernel) o3 ?_
  refine wm_iload_n 2 13 (by decide +kernel) rfl rfl ?_
  refine wm_isub 14 (by decide +kernel) rfl ?_
  obtain ⟨o4, H⟩ := H
  replace H := H _ rfl
  refine wm_iast 6 15 (by decide +kernel) rfl (by decide +kernel) (by decide +kernel) o4 ?_
  refine wm_aload_n 0 16 (by decide +kernel) rfl rfl ?_
  refine wm_getr 8 9 6 123 19 fl_RX8_25 (by decide +kernel) rfl (by decide +kernel) rfl rfl (by decide) ?_
  refine wm_iload_n 1 20 (by decide +kernel) rfl rfl ?_
  refine wm_dup2 21 (by decide +kernel) rfl rfl rfl ?_
  obtain ⟨o6, H⟩ := H
  refine wm_iald 10 22 (by decide +kernel) rfl (by decide +kernel) (by decide +kernel) o6 ?_
  refine wm_iload_n 2 23 (by decide +kernel) rfl rfl ?_
  refine wm_iadd 24 (by decide +kernel) rfl ?_
  obtain ⟨o7, H⟩ := H
  replace H := H _ rfl
  refine wm_iast 10 25 (by decide +kernel) rfl (by decide +kernel) (by decide +kernel) o7 ?_
  refine wm_aload_n 0 26 (by decide +kernel) rfl rfl ?_
  refine wm_getr 8 10 7 124 29 fl_RX8_28 (by decide +kernel) rfl (by decide +kernel) rfl rfl (by decide) ?_
  refine wm_bipush 16 31 (by decide +kernel : decode cX8_sends 29 = .ok (.bipush 16, 2)) rfl (by decide +kernel) ?_
  refine wm_iload_n 1 32 (by decide +kernel) rfl rfl ?_
  refine wm_imul 33 (by decide +kernel) rfl ?_
  refine wm_aload_n 0 34 (by decide +kernel) rfl rfl ?_
  refine wm_geti 8 1 37 fl_RX8_154 (by decide +kernel) rfl (by decide +kernel) rfl ?_
  refine wm_aload_n 0 38 (by decide +kernel) rfl rfl ?_
  refine wm_iload_n 1 39 (by decide +kernel) rfl rfl ?_
  refine wm_callVi mX8_takes 1 8 [_] [_, _, _] _ _ 42 mo_X8_takes np_X8_takes ml_RX8_171 im_X8_takes se_X8_takes (by decide +kernel) (by decide +kernel) rfl rfl rfl (Nat.le_of_ble_eq_true rfl) (by decide +kernel) rfl (Nat.le_of_ble_eq_true rfl) _ (ent_pad 1 rfl) (l_X8_takes g _ _ _ H) (fun v10 h9 H hzv10 => ?_)
  refine wm_iadd 43 (by decide +kernel) rfl ?_
  refine wm_bipush 16 45 (by decide +kernel : decode cX8_sends 43 = .ok (.bipush 16, 2)) rfl (by decide +kernel) ?_
  refine wm_irem 46 (by decide +kernel) rfl (by decide +kernel) ?_
  refine wm_iadd 47 (by decide +kernel) rfl ?_
  refine wm_dup2 48 (by decide +kernel) rfl rfl rfl ?_
  obtain ⟨o11, H⟩ := H
  refine wm_iald 160 49 (by decide +kernel) rfl (by decide +kernel) (by decide +kernel) o11 ?_
  refine wm_iload_n 2 50 (by decide +kernel) rfl rfl ?_
  refine wm_iadd 51 (by decide +kernel) rfl ?_
  obtain ⟨o12, H⟩ := H
  replace H := H _ rfl
  refine wm_iast 160 52 (by decide +kernel) rfl (by decide +kernel) (by decide +kernel) o12 ?_
  exact wm_vret (by decide +kernel) rfl H
def f_X8_send (x1 : Int32) (x2 : Int32) (h : HP) (Q : Int32 → HP → Prop) : Prop :=
  f_X8_isLine x1 h (fun v2 h1 =>
  (((v2 = 0) →
    f_X8_finds (-1000000001 : Int32) h1 (fun v5 h4 =>
    Q v5 h4)) ∧
   (¬ (v2 = 0) →
    f_X8_in ((x2 : Int32).toInt64) (0 : Int64) (9999 : Int64) h1 (fun v7 h6 =>
    (((v7 = 0) →
      f_X8_finds (-1000000001 : Int32) h6 (fun v19 h18 =>
      Q v19 h18)) ∧
     (¬ (v7 = 0) →
      f_X8_canSend x1 ((x2 : Int32).toInt64) h6 (fun v10 h9 =>
      (((v10 = 0) →
        f_X8_finds (-1000000005 : Int32) h9 (fun v17 h16 =>
        Q v17 h16)) ∧
       (¬ (v10 = 0) →
        f_X8_sends x1 x2 h9 (fun h12 =>
        f_X8_at x1 1 h12 (fun v14 h13 =>
        vp_in v14 6 ∧
        Q (gi h13 120 (ix v14)) h13)))))))))))
set_option maxRecDepth 20000 in
theorem l_X8_send (g : GE) (x1 : Int32) (x2 : Int32)  (h : HP) (Q : Int32 → HP → Prop) (H : f_X8_send x1 x2 h Q) : Wm g mX8_send 0 [some (.ref 117), some (.int x1), some (.int x2)] [] h (qi Q) := by
  unfold f_X8_send at H
  refine wm_aload_n 0 1 (by decide +kernel) rfl rfl ?_
  refine wm_iload_n 1 2 (by decide +kernel) rfl rfl ?_
  refine wm_callVi mX8_isLine 1 8 [_] [] _ _ 5 mo_X8_isLine np_X8_isLine ml_RX8_163 im_X8_isLine se_X8_isLine (by decide +kernel) (by decide +kernel) rfl rfl rfl (Nat.le_of_ble_eq_true rfl) (by decide +kernel) rfl (Nat.le_of_ble_eq_true rfl) _ (ent_pad 0 rfl) (l_X8_isLine g _ _ _ H) (fun v2 h1 H hzv2 => ?_)
  refine wm_if_eq 8 20 (by decide +kernel : decode cX8_send 5 = .ok (.ifCond .eq 15, 3)) (by decide) rfl (fun c3 => ?_) (fun c3 => ?_)
  · replace H := H.1 c3
    refine wm_aload_n 0 21 (by decide +kernel) rfl rfl ?_
    refine wm_ldc (-1000000001) 23 co_RX8_96 (by decide +kernel) rfl ?_
    refine wm_callVi mX8_finds 1 8 [_] [] _ _ 26 mo_X8_finds np_X8_finds ml_RX8_129 im_X8_finds se_X8_finds (by decide +kernel) (by decide +kernel) rfl rfl rfl (Nat.le_of_ble_eq_true rfl) (by decide +kernel) rfl (Nat.le_of_ble_eq_true rfl) _ (ent_pad 0 rfl) (l_X8_finds g _ _ _ H) (fun v5 h4 H hzv5 => ?_)
    exact wm_iret (by decide +kernel) ⟨.int, rfl, rfl⟩ H
  · replace H := H.2 c3
    refine wm_iload_n 2 9 (by decide +kernel) rfl rfl ?_
    refine wm_i2l 10 (by decide +kernel) rfl ?_
    refine wm_lconst 0 11 (by decide +kernel : decode cX8_send 10 = .ok (.lconst 0, 1)) rfl (by decide +kernel) ?_
    refine wm_ldc2 9999 14 cl_RX8_183 (by decide +kernel) rfl ?_
    refine wm_callSi mX8_in 3 [_, _, _] [] _ _ 17 mo_X8_in np_X8_in ml_RX8_101 sc_X8_in (by decide +kernel) (by decide +kernel) rfl rfl rfl (Nat.le_of_ble_eq_true rfl) (Nat.le_of_ble_eq_true rfl) _ (ent_pad 0 rfl) (l_X8_in g _ _ _ _ _ H) (fun v7 h6 H hzv7 => ?_)
    refine wm_if_ne 20 27 (by decide +kernel : decode cX8_send 17 = .ok (.ifCond .ne 10, 3)) (by decide) rfl (fun c8 => ?_) (fun c8 => ?_)
    · replace H := H.2 c8
      refine wm_aload_n 0 28 (by decide +kernel) rfl rfl ?_
      refine wm_iload_n 1 29 (by decide +kernel) rfl rfl ?_
      refine wm_iload_n 2 30 (by decide +kernel) rfl rfl ?_
      refine wm_i2l 31 (by decide +kernel) rfl ?_
      refine wm_callVi mX8_canSend 2 8 [_, _] [] _ _ 34 mo_X8_canSend np_X8_canSend ml_RX8_185 im_X8_canSend se_X8_canSend (by decide +kernel) (by decide +kernel) rfl rfl rfl (Nat.le_of_ble_eq_true rfl) (by decide +kernel) rfl (Nat.le_of_ble_eq_true rfl) _ (ent_pad 0 rfl) (l_X8_canSend g _ _ _ _ H) (fun v10 h9 H hzv10 => ?_)
      refine wm_if_ne 37 44 (by decide +kernel : decode cX8_send 34 = .ok (.ifCond .ne 10, 3)) (by decide) rfl (fun c11 => ?_) (fun c11 => ?_)
      · replace H := H.2 c11
        refine wm_aload_n 0 45 (by decide +kernel) rfl rfl ?_
        refine wm_iload_n 1 46 (by decide +kernel) rfl rfl ?_
        refine wm_iload_n 2 47 (by decide +kernel) rfl rfl ?_
        refine wm_callVv mX8_sends 2 8 [_, _] [] _ _ 50 mo_X8_sends np_X8_sends ml_RX8_190 im_X8_sends se_X8_sends (by decide +kernel) (by decide +kernel) rfl rfl rfl (Nat.le_of_ble_eq_true rfl) (by decide +kernel) rfl (Nat.le_of_ble_eq_true rfl) _ (ent_pad 0 rfl) (l_X8_sends g _ _ _ _ H) (fun h12 H => ?_)
        refine wm_aload_n 0 51 (by decide +kernel) rfl rfl ?_
        refine wm_getr 8 5 3 120 54 fl_RX8_16 (by decide +kernel) rfl (by decide +kernel) rfl rfl (by decide) ?_
        refine wm_aload_n 0 55 (by decide +kernel) rfl rfl ?_
        refine wm_iload_n 1 56 (by decide +kernel) rfl rfl ?_
        refine wm_iconst 1 57 (by decide +kernel : decode cX8_send 56 = .ok (.iconst 1, 1)) rfl (by decide +kernel) ?_
        refine wm_callVi mX8_at 2 8 [_, _] [_] _ _ 60 mo_X8_at np_X8_at ml_RX8_109 im_X8_at se_X8_at (by decide +kernel) (by decide +kernel) rfl rfl rfl (Nat.le_of_ble_eq_true rfl) (by decide +kernel) rfl (Nat.le_of_ble_eq_true rfl) _ (ent_pad 0 rfl) (l_X8_at g _ _ _ _ H) (fun v14 h13 H hzv14 => ?_)
        obtain ⟨o15, H⟩ := H
        refine wm_iald 6 61 (by decide +kernel) rfl (by decide +kernel) (by decide +kernel) o15 ?_
        exact wm_iret (by decide +kernel) ⟨.int, rfl, rfl⟩ H
      · replace H := H.1 c11
        refine wm_aload_n 0 38 (by decide +kernel) rfl rfl ?_
        refine wm_ldc (-1000000005) 40 co_RX8_189 (by decide +kernel) rfl ?_
        refine wm_callVi mX8_finds 1 8 [_] [] _ _ 43 mo_X8_finds np_X8_finds ml_RX8_129 im_X8_finds se_X8_finds (by decide +kernel) (by decide +kernel) rfl rfl rfl (Nat.le_of_ble_eq_true rfl) (by decide +kernel) rfl (Nat.le_of_ble_eq_true rfl) _ (ent_pad 0 rfl) (l_X8_finds g _ _ _ H) (fun v17 h16 H hzv17 => ?_)
        exact wm_iret (by decide +kernel) ⟨.int, rfl, rfl⟩ H
    · replace H := H.1 c8
      refine wm_aload_n 0 21 (by decide +kernel) rfl rfl ?_
      refine wm_ldc (-1000000001) 23 co_RX8_96 (by decide +kernel) rfl ?_
      refine wm_callVi mX8_finds 1 8 [_] [] _ _ 26 mo_X8_finds np_X8_finds ml_RX8_129 im_X8_finds se_X8_finds (by decide +kernel) (by decide +kernel) rfl rfl rfl (Nat.le_of_ble_eq_true rfl) (by decide +kernel) rfl (Nat.le_of_ble_eq_true rfl) _ (ent_pad 0 rfl) (l_X8_finds g _ _ _ H) (fun v19 h18 H hzv19 => ?_)
      exact wm_iret (by decide +kernel) ⟨.int, rfl, rfl⟩ H
def f_X8_oneTick_L2  (k60 : HP → Prop) (Q : HP → Prop) : Nat → Int32 → HP → Prop
  | 0, _, _ => False
  | n + 1, x1, h =>
    ((((gi h 117 3) ≤ x1) →
      k60 h) ∧
     (¬ ((gi h 117 3) ≤ x1) →
      f_X8_holds x1 (gi h 117 1) h (fun v3 h2 =>
      vp_in x1 6 ∧
      ((((gi h2 120 (ix x1)) ≤ v3) →
        ∀ x1_6 : Int32, x1_6 = (x1 + 1) →
        f_X8_oneTick_L2 k60 Q n x1_6 h2) ∧
       (¬ ((gi h2 120 (ix x1)) ≤ v3) →
        vp_in x1 6 ∧
        ∀ h8 : HP, h8 = si h2 117 2 ((gi h2 117 2) + ((gi h2 120 (ix x1)) - v3)) →
        vp_in x1 6 ∧
        ∀ h10 : HP, h10 = si h8 120 (ix x1) v3 →
        ∀ x1_11 : Int32, x1_11 = (x1 + 1) →
        f_X8_oneTick_L2 k60 Q n x1_11 h10)))))
def f_X8_oneTick_L72   (Q : HP → Prop) : Nat → Int32 → HP → Prop
  | 0, _, _ => False
  | n + 1, x1, h =>
    ((((gi h 117 7) ≤ x1) →
      Q h) ∧
     (¬ ((gi h 117 7) ≤ x1) →
      vp_in x1 10 ∧
      ∀ h16 : HP, h16 = si h 123 (ix x1) 0 →
      ∀ x2_17 : Int32, x2_17 = ((16 * x1) + ((gi h16 117 1) - (gi h16 117 1) / 16 * 16)) →
      f_X8_at x1 2 h16 (fun v19 h18 =>
      vp_in v19 6 ∧
      vp_in x2_17 160 ∧
      vp_in v19 6 ∧
      ∀ h23 : HP, h23 = si h18 120 (ix v19) ((gi h18 120 (ix v19)) + (gi h18 124 (ix x2_17))) →
      vp_in x2_17 160 ∧
      ∀ h25 : HP, h25 = si h23 124 (ix x2_17) 0 →
      ∀ x1_26 : Int32, x1_26 = (x1 + 1) →
      f_X8_oneTick_L72 Q n x1_26 h25)))
def f_X8_oneTick  (h : HP) (Q : HP → Prop) : Prop :=
  ∃ n28, f_X8_oneTick_L2 
    (fun h12 =>
      ∀ h13 : HP, h13 = si h12 117 1 ((gi h12 117 1) + 1) →
      ∃ n27, f_X8_oneTick_L72 
        Q n27 0 h13)
    Q n28 0 h
set_option maxRecDepth 20000 in
theorem l_X8_oneTick_L2 (g : GE)   (k60 : HP → Prop) (Q : HP → Prop) (hk60 : ∀  (h : HP), k60  h → Wm g mX8_oneTick 60 [some (.ref 117), none, none] [] h (qv Q)) : ∀ (n : Nat) (x1 : Int32) (h : HP), f_X8_oneTick_L2 k60 Q n x1 h → Wm g mX8_oneTick 2 [some (.ref 117), some (.int x1), none] [] h (qv Q) := by
  intro n
  induction n with
  | zero => intro x1 h H; exact H.elim
  | succ n ih =>
    intro x1 h H
    unfold f_X8_oneTick_L2 at H
    refine wm_iload_n 1 3 (by decide +kernel) rfl rfl ?_
    refine wm_aload_n 0 4 (by decide +kernel) rfl rfl ?_
    refine wm_geti 8 3 7 fl_RX8_97 (by decide +kernel) rfl (by decide +kernel) rfl ?_
    refine wm_icmp_ge 10 60 (by decide +kernel : decode cX8_oneTick 7 = .ok (.if_icmp .ge 53, 3)) (by decide) rfl (fun c1 => ?_) (fun c1 => ?_)
    · replace H := H.1 c1
      refine wm_mask [true, false, false] [some _, none, none] rfl ?_
      exact hk60 _ H
    · replace H := H.2 c1
      refine wm_aload_n 0 11 (by decide +kernel) rfl rfl ?_
      refine wm_iload_n 1 12 (by decide +kernel) rfl rfl ?_
      refine wm_aload_n 0 13 (by decide +kernel) rfl rfl ?_
      refine wm_geti 8 1 16 fl_RX8_154 (by decide +kernel) rfl (by decide +kernel) rfl ?_
      refine wm_callVi mX8_holds 2 8 [_, _] [] _ _ 19 mo_X8_holds np_X8_holds ml_RX8_157 im_X8_holds se_X8_holds (by decide +kernel) (by decide +kernel) rfl rfl rfl (Nat.le_of_ble_eq_true rfl) (by decide +kernel) rfl (Nat.le_of_ble_eq_true rfl) _ (ent_pad 0 rfl) (l_X8_holds g _ _ _ _ H) (fun v3 h2 H hzv3 => ?_)
      refine wm_istore_n 2 20 [some _, some _, some _] (by decide +kernel) rfl (by decide +kernel) (okS_spec rfl) rfl ?_
      refine wm_aload_n 0 21 (by decide +kernel) rfl rfl ?_
      refine wm_getr 8 5 3 120 24 fl_RX8_16 (by decide +kernel) rfl (by decide +kernel) rfl rfl (by decide) ?_
      refine wm_iload_n 1 25 (by decide +kernel) rfl rfl ?_
      obtain ⟨o4, H⟩ := H
      refine wm_iald 6 26 (by decide +kernel) rfl (by decide +kernel) (by decide +kernel) o4 ?_
      refine wm_iload_n 2 27 (by decide +kernel) rfl rfl ?_
      refine wm_icmp_le 30 54 (by decide +kernel : decode cX8_oneTick 27 = .ok (.if_icmp .le 27, 3)) (by decide) rfl (fun c5 => ?_) (fun c5 => ?_)
      · replace H := H.1 c5
        replace H := H _ rfl
        refine wm_iinc 1 (_ + 1) 57 [some _, some _, some _] (by decide +kernel : decode cX8_oneTick 54 = .ok (.iinc 1 1, 3)) rfl (by decide +kernel) rfl (ofI_eq (by decide +kernel)) (okS_spec rfl) rfl ?_
        refine wm_goto 2 (by decide +kernel : decode cX8_oneTick 57 = .ok (.goto (-55), 3)) (by decide) ?_
        refine wm_mask [true, true, false] [some _, some _, none] rfl ?_
        exact ih _ _ H
      · replace H := H.2 c5
        refine wm_aload_n 0 31 (by decide +kernel) rfl rfl ?_
        refine wm_dup 32 (by decide +kernel) rfl rfl ?_
        refine wm_geti 8 2 35 fl_RX8_194 (by decide +kernel) rfl (by decide +kernel) rfl ?_
        refine wm_aload_n 0 36 (by decide +kernel) rfl rfl ?_
        refine wm_getr 8 5 3 120 39 fl_RX8_16 (by decide +kernel) rfl (by decide +kernel) rfl rfl (by decide) ?_
        refine wm_iload_n 1 40 (by decide +kernel) rfl rfl ?_
        obtain ⟨o7, H⟩ := H
        refine wm_iald 6 41 (by decide +kernel) rfl (by decide +kernel) (by decide +kernel) o7 ?_
        refine wm_iload_n 2 42 (by decide +kernel) rfl rfl ?_
        refine wm_isub 43 (by decide +kernel) rfl ?_
        refine wm_iadd 44 (by decide +kernel) rfl ?_
        replace H := H _ rfl
        refine wm_puti 8 2 47 fl_RX8_194 (by decide +kernel) rfl (by decide +kernel) rfl rfl ⟨rfl, rfl⟩ ?_
        refine wm_aload_n 0 48 (by decide +kernel) rfl rfl ?_
        refine wm_getr 8 5 3 120 51 fl_RX8_16 (by decide +kernel) rfl (by decide +kernel) rfl rfl (by decide) ?_
        refine wm_iload_n 1 52 (by decide +kernel) rfl rfl ?_
        refine wm_iload_n 2 53 (by decide +kernel) rfl rfl ?_
        obtain ⟨o9, H⟩ := H
        replace H := H _ rfl
        refine wm_iast 6 54 (by decide +kernel) rfl (by decide +kernel) (by decide +kernel) o9 ?_
        replace H := H _ rfl
        refine wm_iinc 1 (_ + 1) 57 [some _, some _, some _] (by decide +kernel : decode cX8_oneTick 54 = .ok (.iinc 1 1, 3)) rfl (by decide +kernel) rfl (ofI_eq (by decide +kernel)) (okS_spec rfl) rfl ?_
        refine wm_goto 2 (by decide +kernel : decode cX8_oneTick 57 = .ok (.goto (-55), 3)) (by decide) ?_
        refine wm_mask [true, true, false] [some _, some _, none] rfl ?_
        exact ih _ _ H
set_option maxRecDepth 20000 in
theorem l_X8_oneTick_L72 (g : GE)    (Q : HP → Prop)  : ∀ (n : Nat) (x1 : Int32) (h : HP), f_X8_oneTick_L72 Q n x1 h → Wm g mX8_oneTick 72 [some (.ref 117), some (.int x1), none] [] h (qv Q) := by
  intro n
  induction n with
  | zero => intro x1 h H; exact H.elim
  | succ n ih =>
    intro x1 h H
    unfold f_X8_oneTick_L72 at H
    refine wm_iload_n 1 73 (by decide +kernel) rfl rfl ?_
    refine wm_aload_n 0 74 (by decide +kernel) rfl rfl ?_
    refine wm_geti 8 7 77 fl_RX8_105 (by decide +kernel) rfl (by decide +kernel) rfl ?_
    refine wm_icmp_ge 80 133 (by decide +kernel : decode cX8_oneTick 77 = .ok (.if_icmp .ge 56, 3)) (by decide) rfl (fun c14 => ?_) (fun c14 => ?_)
    · replace H := H.1 c14
      exact wm_vret (by decide +kernel) rfl H
    · replace H := H.2 c14
      refine wm_aload_n 0 81 (by decide +kernel) rfl rfl ?_
      refine wm_getr 8 9 6 123 84 fl_RX8_25 (by decide +kernel) rfl (by decide +kernel) rfl rfl (by decide) ?_
      refine wm_iload_n 1 85 (by decide +kernel) rfl rfl ?_
      refine wm_iconst 0 86 (by decide +kernel : decode cX8_oneTick 85 = .ok (.iconst 0, 1)) rfl (by decide +kernel) ?_
      obtain ⟨o15, H⟩ := H
      replace H := H _ rfl
      refine wm_iast 10 87 (by decide +kernel) rfl (by decide +kernel) (by decide +kernel) o15 ?_
      refine wm_bipush 16 89 (by decide +kernel : decode cX8_oneTick 87 = .ok (.bipush 16, 2)) rfl (by decide +kernel) ?_
      refine wm_iload_n 1 90 (by decide +kernel) rfl rfl ?_
      refine wm_imul 91 (by decide +kernel) rfl ?_
      refine wm_aload_n 0 92 (by decide +kernel) rfl rfl ?_
      refine wm_geti 8 1 95 fl_RX8_154 (by decide +kernel) rfl (by decide +kernel) rfl ?_
      refine wm_bipush 16 97 (by decide +kernel : decode cX8_oneTick 95 = .ok (.bipush 16, 2)) rfl (by decide +kernel) ?_
      refine wm_irem 98 (by decide +kernel) rfl (by decide +kernel) ?_
      refine wm_iadd 99 (by decide +kernel) rfl ?_
      replace H := H _ rfl
      refine wm_istore_n 2 100 [some _, some _, some _] (by decide +kernel) rfl (by decide +kernel) (okS_spec rfl) rfl ?_
      refine wm_aload_n 0 101 (by decide +kernel) rfl rfl ?_
      refine wm_getr 8 5 3 120 104 fl_RX8_16 (by decide +kernel) rfl (by decide +kernel) rfl rfl (by decide) ?_
      refine wm_aload_n 0 105 (by decide +kernel) rfl rfl ?_
      refine wm_iload_n 1 106 (by decide +kernel) rfl rfl ?_
      refine wm_iconst 2 107 (by decide +kernel : decode cX8_oneTick 106 = .ok (.iconst 2, 1)) rfl (by decide +kernel) ?_
      refine wm_callVi mX8_at 2 8 [_, _] [_] _ _ 110 mo_X8_at np_X8_at ml_RX8_109 im_X8_at se_X8_at (by decide +kernel) (by decide +kernel) rfl rfl rfl (Nat.le_of_ble_eq_true rfl) (by decide +kernel) rfl (Nat.le_of_ble_eq_true rfl) _ (ent_pad 0 rfl) (l_X8_at g _ _ _ _ H) (fun v19 h18 H hzv19 => ?_)
      refine wm_dup2 111 (by decide +kernel) rfl rfl rfl ?_
      obtain ⟨o20, H⟩ := H
      refine wm_iald 6 112 (by decide +kernel) rfl (by decide +kernel) (by decide +kernel) o20 ?_
      refine wm_aload_n 0 113 (by decide +kernel) rfl rfl ?_
      refine wm_getr 8 10 7 124 116 fl_RX8_28 (by decide +kernel) rfl (by decide +kernel) rfl rfl (by decide) ?_
      refine wm_iload_n 2 117 (by decide +kernel) rfl rfl ?_
      obtain ⟨o21, H⟩ := H
      refine wm_iald 160 118 (by decide +kernel) rfl (by decide +kernel) (by decide +kernel) o21 ?_
      refine wm_iadd 119 (by decide +kernel) rfl ?_
      obtain ⟨o22, H⟩ := H
      replace H := H _ rfl
      refine wm_iast 6 120 (by decide +kernel) rfl (by decide +kernel) (by decide +kernel) o22 ?_
      refine wm_aload_n 0 121 (by decide +kernel) rfl rfl ?_
      refine wm_getr 8 10 7 124 124 fl_RX8_28 (by decide +kernel) rfl (by decide +kernel) rfl rfl (by decide) ?_
      refine wm_iload_n 2 125 (by decide +kernel) rfl rfl ?_
      refine wm_iconst 0 126 (by decide +kernel : decode cX8_oneTick 125 = .ok (.iconst 0, 1)) rfl (by decide +kernel) ?_
      obtain ⟨o24, H⟩ := H
      replace H := H _ rfl
      refine wm_iast 160 127 (by decide +kernel) rfl (by decide +kernel) (by decide +kernel) o24 ?_
      replace H := H _ rfl
      refine wm_iinc 1 (_ + 1) 130 [some _, some _, some _] (by decide +kernel : decode cX8_oneTick 127 = .ok (.iinc 1 1, 3)) rfl (by decide +kernel) rfl (ofI_eq (by decide +kernel)) (okS_spec rfl) rfl ?_
      refine wm_goto 72 (by decide +kernel : decode cX8_oneTick 130 = .ok (.goto (-58), 3)) (by decide) ?_
      refine wm_mask [true, true, false] [some _, some _, none] rfl ?_
      exact ih _ _ H
set_option maxRecDepth 20000 in
theorem l_X8_oneTick (g : GE)   (h : HP) (Q : HP → Prop) (H : f_X8_oneTick  h Q) : Wm g mX8_oneTick 0 [some (.ref 117), none, none] [] h (qv Q) := by
  unfold f_X8_oneTick at H
  refine wm_iconst 0 1 (by decide +kernel : decode cX8_oneTick 0 = .ok (.iconst 0, 1)) rfl (by decide +kernel) ?_
  refine wm_istore_n 1 2 [some _, some _, none] (by decide +kernel) rfl (by decide +kernel) (okS_spec rfl) rfl ?_
  obtain ⟨n28, H⟩ := H
  refine l_X8_oneTick_L2 g _ _ (fun h12 H => ?_) _ _ _ H
  · skip
    refine wm_aload_n 0 61 (by decide +kernel) rfl rfl ?_
    refine wm_dup 62 (by decide +kernel) rfl rfl ?_
    refine wm_geti 8 1 65 fl_RX8_154 (by decide +kernel) rfl (by decide +kernel) rfl ?_
    refine wm_iconst 1 66 (by decide +kernel : decode cX8_oneTick 65 = .ok (.iconst 1, 1)) rfl (by decide +kernel) ?_
    refine wm_iadd 67 (by decide +kernel) rfl ?_
    replace H := H _ rfl
    refine wm_puti 8 1 70 fl_RX8_154 (by decide +kernel) rfl (by decide +kernel) rfl rfl ⟨rfl, rfl⟩ ?_
    refine wm_iconst 0 71 (by decide +kernel : decode cX8_oneTick 70 = .ok (.iconst 0, 1)) rfl (by decide +kernel) ?_
    refine wm_istore_n 1 72 [some _, some _, none] (by decide +kernel) rfl (by decide +kernel) (okS_spec rfl) rfl ?_
    obtain ⟨n27, H⟩ := H
    refine l_X8_oneTick_L72 g _  _ _ _ H
def f_X8_go_L39 (x1 : Int32)  (Q : Int32 → HP → Prop) : Nat → Int32 → HP → Prop
  | 0, _, _ => False
  | n + 1, x2, h =>
    (((x1 ≤ x2) →
      Q (gi h 117 2) h) ∧
     (¬ (x1 ≤ x2) →
      f_X8_oneTick h (fun h6 =>
      ∀ x2_7 : Int32, x2_7 = (x2 + 1) →
      f_X8_go_L39 x1 Q n x2_7 h6)))
def f_X8_go (x1 : Int32) (h : HP) (Q : Int32 → HP → Prop) : Prop :=
  f_X8_in ((x1 : Int32).toInt64) (1 : Int64) (60 : Int64) h (fun v2 h1 =>
  (((v2 = 0) →
    f_X8_finds (-1000000001 : Int32) h1 (fun v12 h11 =>
    Q v12 h11)) ∧
   (¬ (v2 = 0) →
    (((((gi h1 117 1) + x1) ≤ 99999) →
      ∃ n8, f_X8_go_L39 x1
        Q n8 0 h1) ∧
     (¬ (((gi h1 117 1) + x1) ≤ 99999) →
      f_X8_finds (-1000000005 : Int32) h1 (fun v10 h9 =>
      Q v10 h9))))))
set_option maxRecDepth 20000 in
theorem l_X8_go_L39 (g : GE) (x1 : Int32)   (Q : Int32 → HP → Prop)  : ∀ (n : Nat) (x2 : Int32) (h : HP), f_X8_go_L39 x1 Q n x2 h → Wm g mX8_go 39 [some (.ref 117), some (.int x1), some (.int x2)] [] h (qi Q) := by
  intro n
  induction n with
  | zero => intro x2 h H; exact H.elim
  | succ n ih =>
    intro x2 h H
    unfold f_X8_go_L39 at H
    refine wm_iload_n 2 40 (by decide +kernel) rfl rfl ?_
    refine wm_iload_n 1 41 (by decide +kernel) rfl rfl ?_
    refine wm_icmp_ge 44 54 (by decide +kernel : decode cX8_go 41 = .ok (.if_icmp .ge 13, 3)) (by decide) rfl (fun c5 => ?_) (fun c5 => ?_)
    · replace H := H.1 c5
      refine wm_aload_n 0 55 (by decide +kernel) rfl rfl ?_
      refine wm_geti 8 2 58 fl_RX8_194 (by decide +kernel) rfl (by decide +kernel) rfl ?_
      exact wm_iret (by decide +kernel) ⟨.int, rfl, rfl⟩ H
    · replace H := H.2 c5
      refine wm_aload_n 0 45 (by decide +kernel) rfl rfl ?_
      refine wm_callVv mX8_oneTick 0 8 [] [] _ _ 48 mo_X8_oneTick np_X8_oneTick ml_RX8_199 im_X8_oneTick se_X8_oneTick (by decide +kernel) (by decide +kernel) rfl rfl rfl (Nat.le_of_ble_eq_true rfl) (by decide +kernel) rfl (Nat.le_of_ble_eq_true rfl) _ (ent_pad 2 rfl) (l_X8_oneTick g _ _ H) (fun h6 H => ?_)
      replace H := H _ rfl
      refine wm_iinc 2 (_ + 1) 51 [some _, some _, some _] (by decide +kernel : decode cX8_go 48 = .ok (.iinc 2 1, 3)) rfl (by decide +kernel) rfl (ofI_eq (by decide +kernel)) (okS_spec rfl) rfl ?_
      refine wm_goto 39 (by decide +kernel : decode cX8_go 51 = .ok (.goto (-12), 3)) (by decide) ?_
      exact ih _ _ H
set_option maxRecDepth 20000 in
theorem l_X8_go (g : GE) (x1 : Int32)  (h : HP) (Q : Int32 → HP → Prop) (H : f_X8_go x1 h Q) : Wm g mX8_go 0 [some (.ref 117), some (.int x1), none] [] h (qi Q) := by
  unfold f_X8_go at H
  refine wm_iload_n 1 1 (by decide +kernel) rfl rfl ?_
  refine wm_i2l 2 (by decide +kernel) rfl ?_
  refine wm_lconst 1 3 (by decide +kernel : decode cX8_go 2 = .ok (.lconst 1, 1)) rfl (by decide +kernel) ?_
  refine wm_ldc2 60 6 cl_RX8_197 (by decide +kernel) rfl ?_
  refine wm_callSi mX8_in 3 [_, _, _] [] _ _ 9 mo_X8_in np_X8_in ml_RX8_101 sc_X8_in (by decide +kernel) (by decide +kernel) rfl rfl rfl (Nat.le_of_ble_eq_true rfl) (Nat.le_of_ble_eq_true rfl) _ (ent_pad 0 rfl) (l_X8_in g _ _ _ _ _ H) (fun v2 h1 H hzv2 => ?_)
  refine wm_if_ne 12 19 (by decide +kernel : decode cX8_go 9 = .ok (.ifCond .ne 10, 3)) (by decide) rfl (fun c3 => ?_) (fun c3 => ?_)
  · replace H := H.2 c3
    refine wm_aload_n 0 20 (by decide +kernel) rfl rfl ?_
    refine wm_geti 8 1 23 fl_RX8_154 (by decide +kernel) rfl (by decide +kernel) rfl ?_
    refine wm_iload_n 1 24 (by decide +kernel) rfl rfl ?_
    refine wm_iadd 25 (by decide +kernel) rfl ?_
    refine wm_ldc 99999 27 co_RX8_108 (by decide +kernel) rfl ?_
    refine wm_icmp_le 30 37 (by decide +kernel : decode cX8_go 27 = .ok (.if_icmp .le 10, 3)) (by decide) rfl (fun c4 => ?_) (fun c4 => ?_)
    · replace H := H.1 c4
      refine wm_iconst 0 38 (by decide +kernel : decode cX8_go 37 = .ok (.iconst 0, 1)) rfl (by decide +kernel) ?_
      refine wm_istore_n 2 39 [some _, some _, some _] (by decide +kernel) rfl (by decide +kernel) (okS_spec rfl) rfl ?_
      obtain ⟨n8, H⟩ := H
      refine l_X8_go_L39 g _ _  _ _ _ H
    · replace H := H.2 c4
      refine wm_aload_n 0 31 (by decide +kernel) rfl rfl ?_
      refine wm_ldc (-1000000005) 33 co_RX8_189 (by decide +kernel) rfl ?_
      refine wm_callVi mX8_finds 1 8 [_] [] _ _ 36 mo_X8_finds np_X8_finds ml_RX8_129 im_X8_finds se_X8_finds (by decide +kernel) (by decide +kernel) rfl rfl rfl (Nat.le_of_ble_eq_true rfl) (by decide +kernel) rfl (Nat.le_of_ble_eq_true rfl) _ (ent_pad 0 rfl) (l_X8_finds g _ _ _ H) (fun v10 h9 H hzv10 => ?_)
      exact wm_iret (by decide +kernel) ⟨.int, rfl, rfl⟩ H
  · replace H := H.1 c3
    refine wm_aload_n 0 13 (by decide +kernel) rfl rfl ?_
    refine wm_ldc (-1000000001) 15 co_RX8_96 (by decide +kernel) rfl ?_
    refine wm_callVi mX8_finds 1 8 [_] [] _ _ 18 mo_X8_finds np_X8_finds ml_RX8_129 im_X8_finds se_X8_finds (by decide +kernel) (by decide +kernel) rfl rfl rfl (Nat.le_of_ble_eq_true rfl) (by decide +kernel) rfl (Nat.le_of_ble_eq_true rfl) _ (ent_pad 0 rfl) (l_X8_finds g _ _ _ H) (fun v12 h11 H hzv12 => ?_)
    exact wm_iret (by decide +kernel) ⟨.int, rfl, rfl⟩ H
def f_X8_roomOfAll_L4   (Q : Int32 → HP → Prop) : Nat → Int32 → Int32 → HP → Prop
  | 0, _, _, _ => False
  | n + 1, x1, x2, h =>
    ((((gi h 117 7) ≤ x2) →
      Q x1 h) ∧
     (¬ ((gi h 117 7) ≤ x2) →
      f_X8_room x2 (gi h 117 1) h (fun v3 h2 =>
      ∀ x1_4 : Int32, x1_4 = (x1 + v3) →
      ∀ x2_5 : Int32, x2_5 = (x2 + 1) →
      f_X8_roomOfAll_L4 Q n x1_4 x2_5 h2)))
def f_X8_roomOfAll  (h : HP) (Q : Int32 → HP → Prop) : Prop :=
  ∃ n6, f_X8_roomOfAll_L4 
    Q n6 0 0 h
set_option maxRecDepth 20000 in
theorem l_X8_roomOfAll_L4 (g : GE)    (Q : Int32 → HP → Prop)  : ∀ (n : Nat) (x1 : Int32) (x2 : Int32) (h : HP), f_X8_roomOfAll_L4 Q n x1 x2 h → Wm g mX8_roomOfAll 4 [some (.ref 117), some (.int x1), some (.int x2)] [] h (qi Q) := by
  intro n
  induction n with
  | zero => intro x1 x2 h H; exact H.elim
  | succ n ih =>
    intro x1 x2 h H
    unfold f_X8_roomOfAll_L4 at H
    refine wm_iload_n 2 5 (by decide +kernel) rfl rfl ?_
    refine wm_aload_n 0 6 (by decide +kernel) rfl rfl ?_
    refine wm_geti 8 7 9 fl_RX8_105 (by decide +kernel) rfl (by decide +kernel) rfl ?_
    refine wm_icmp_ge 12 30 (by decide +kernel : decode cX8_roomOfAll 9 = .ok (.if_icmp .ge 21, 3)) (by decide) rfl (fun c1 => ?_) (fun c1 => ?_)
    · replace H := H.1 c1
      refine wm_iload_n 1 31 (by decide +kernel) rfl rfl ?_
      exact wm_iret (by decide +kernel) ⟨.int, rfl, rfl⟩ H
    · replace H := H.2 c1
      refine wm_iload_n 1 13 (by decide +kernel) rfl rfl ?_
      refine wm_aload_n 0 14 (by decide +kernel) rfl rfl ?_
      refine wm_iload_n 2 15 (by decide +kernel) rfl rfl ?_
      refine wm_aload_n 0 16 (by decide +kernel) rfl rfl ?_
      refine wm_geti 8 1 19 fl_RX8_154 (by decide +kernel) rfl (by decide +kernel) rfl ?_
      refine wm_callVi mX8_room 2 8 [_, _] [_] _ _ 22 mo_X8_room np_X8_room ml_RX8_168 im_X8_room se_X8_room (by decide +kernel) (by decide +kernel) rfl rfl rfl (Nat.le_of_ble_eq_true rfl) (by decide +kernel) rfl (Nat.le_of_ble_eq_true rfl) _ (ent_pad 0 rfl) (l_X8_room g _ _ _ _ H) (fun v3 h2 H hzv3 => ?_)
      refine wm_iadd 23 (by decide +kernel) rfl ?_
      replace H := H _ rfl
      refine wm_istore_n 1 24 [some _, some _, some _] (by decide +kernel) rfl (by decide +kernel) (okS_spec rfl) rfl ?_
      replace H := H _ rfl
      refine wm_iinc 2 (_ + 1) 27 [some _, some _, some _] (by decide +kernel : decode cX8_roomOfAll 24 = .ok (.iinc 2 1, 3)) rfl (by decide +kernel) rfl (ofI_eq (by decide +kernel)) (okS_spec rfl) rfl ?_
      refine wm_goto 4 (by decide +kernel : decode cX8_roomOfAll 27 = .ok (.goto (-23), 3)) (by decide) ?_
      exact ih _ _ _ H
set_option maxRecDepth 20000 in
theorem l_X8_roomOfAll (g : GE)   (h : HP) (Q : Int32 → HP → Prop) (H : f_X8_roomOfAll  h Q) : Wm g mX8_roomOfAll 0 [some (.ref 117), none, none] [] h (qi Q) := by
  unfold f_X8_roomOfAll at H
  refine wm_iconst 0 1 (by decide +kernel : decode cX8_roomOfAll 0 = .ok (.iconst 0, 1)) rfl (by decide +kernel) ?_
  refine wm_istore_n 1 2 [some _, some _, none] (by decide +kernel) rfl (by decide +kernel) (okS_spec rfl) rfl ?_
  refine wm_iconst 0 3 (by decide +kernel : decode cX8_roomOfAll 2 = .ok (.iconst 0, 1)) rfl (by decide +kernel) ?_
  refine wm_istore_n 2 4 [some _, some _, some _] (by decide +kernel) rfl (by decide +kernel) (okS_spec rfl) rfl ?_
  obtain ⟨n6, H⟩ := H
  refine l_X8_roomOfAll_L4 g _  _ _ _ _ H
def f_X8_losing_L4   (Q : Int32 → HP → Prop) : Nat → Int32 → Int32 → HP → Prop
  | 0, _, _, _ => False
  | n + 1, x1, x2, h =>
    ((((gi h 117 3) ≤ x2) →
      Q x1 h) ∧
     (¬ ((gi h 117 3) ≤ x2) →
      vp_in x2 6 ∧
      f_X8_holds x2 (gi h 117 1) h (fun v4 h3 =>
      ∀ x1_7 : Int32, x1_7 = (x1 ||| (if (gi h 120 (ix x2)) ≤ v4 then (0 : Int32) else (1 <<< (x2 &&& 31)))) →
      ∀ x2_8 : Int32, x2_8 = (x2 + 1) →
      f_X8_losing_L4 Q n x1_7 x2_8 h3)))
def f_X8_losing  (h : HP) (Q : Int32 → HP → Prop) : Prop :=
  ∃ n9, f_X8_losing_L4 
    Q n9 0 0 h
set_option maxRecDepth 20000 in
theorem l_X8_losing_L4 (g : GE)    (Q : Int32 → HP → Prop)  : ∀ (n : Nat) (x1 : Int32) (x2 : Int32) (h : HP), f_X8_losing_L4 Q n x1 x2 h → Wm g mX8_losing 4 [some (.ref 117), some (.int x1), some (.int x2)] [] h (qi Q) := by
  intro n
  induction n with
  | zero => intro x1 x2 h H; exact H.elim
  | succ n ih =>
    intro x1 x2 h H
    unfold f_X8_losing_L4 at H
    refine wm_iload_n 2 5 (by decide +kernel) rfl rfl ?_
    refine wm_aload_n 0 6 (by decide +kernel) rfl rfl ?_
    refine wm_geti 8 3 9 fl_RX8_97 (by decide +kernel) rfl (by decide +kernel) rfl ?_
    refine wm_icmp_ge 12 46 (by decide +kernel : decode cX8_losing 9 = .ok (.if_icmp .ge 37, 3)) (by decide) rfl (fun c1 => ?_) (fun c1 => ?_)
    · replace H := H.1 c1
      refine wm_iload_n 1 47 (by decide +kernel) rfl rfl ?_
      exact wm_iret (by decide +kernel) ⟨.int, rfl, rfl⟩ H
    · replace H := H.2 c1
      refine wm_iload_n 1 13 (by decide +kernel) rfl rfl ?_
      refine wm_aload_n 0 14 (by decide +kernel) rfl rfl ?_
      refine wm_getr 8 5 3 120 17 fl_RX8_16 (by decide +kernel) rfl (by decide +kernel) rfl rfl (by decide) ?_
      refine wm_iload_n 2 18 (by decide +kernel) rfl rfl ?_
      obtain ⟨o2, H⟩ := H
      refine wm_iald 6 19 (by decide +kernel) rfl (by decide +kernel) (by decide +kernel) o2 ?_
      refine wm_aload_n 0 20 (by decide +kernel) rfl rfl ?_
      refine wm_iload_n 2 21 (by decide +kernel) rfl rfl ?_
      refine wm_aload_n 0 22 (by decide +kernel) rfl rfl ?_
      refine wm_geti 8 1 25 fl_RX8_154 (by decide +kernel) rfl (by decide +kernel) rfl ?_
      refine wm_callVi mX8_holds 2 8 [_, _] [_, _] _ _ 28 mo_X8_holds np_X8_holds ml_RX8_157 im_X8_holds se_X8_holds (by decide +kernel) (by decide +kernel) rfl rfl rfl (Nat.le_of_ble_eq_true rfl) (by decide +kernel) rfl (Nat.le_of_ble_eq_true rfl) _ (ent_pad 0 rfl) (l_X8_holds g _ _ _ _ H) (fun v4 h3 H hzv4 => ?_)
      refine' wm_dia (pcJ := 38) (fun kt kf => wm_icmp_le 31 37 (by decide +kernel : decode cX8_losing 28 = .ok (.if_icmp .le 9, 3)) (by decide) rfl kt kf) ?D6k (fun kj c1 => ?D6t) (fun kj c1 => ?D6f)
      case D6t =>
        refine wm_iconst 0 38 (by decide +kernel : decode cX8_losing 37 = .ok (.iconst 0, 1)) rfl (by decide +kernel) ?_
        exact kj
      case D6f =>
        refine wm_iconst 1 32 (by decide +kernel : decode cX8_losing 31 = .ok (.iconst 1, 1)) rfl (by decide +kernel) ?_
        refine wm_iload_n 2 33 (by decide +kernel) rfl rfl ?_
        refine wm_ishl 34 (by decide +kernel) rfl ?_
        refine wm_goto 38 (by decide +kernel : decode cX8_losing 34 = .ok (.goto 4, 3)) (by decide) ?_
        exact kj
      case D6k =>
        refine wm_ior 39 (by decide +kernel) rfl ?_
        replace H := H _ rfl
        refine wm_istore_n 1 40 [some _, some _, some _] (by decide +kernel) rfl (by decide +kernel) (okS_spec rfl) rfl ?_
        replace H := H _ rfl
        refine wm_iinc 2 (_ + 1) 43 [some _, some _, some _] (by decide +kernel : decode cX8_losing 40 = .ok (.iinc 2 1, 3)) rfl (by decide +kernel) rfl (ofI_eq (by decide +kernel)) (okS_spec rfl) rfl ?_
        refine wm_goto 4 (by decide +kernel : decode cX8_losing 43 = .ok (.goto (-39), 3)) (by decide) ?_
        exact ih _ _ _ H
set_option maxRecDepth 20000 in
theorem l_X8_losing (g : GE)   (h : HP) (Q : Int32 → HP → Prop) (H : f_X8_losing  h Q) : Wm g mX8_losing 0 [some (.ref 117), none, none] [] h (qi Q) := by
  unfold f_X8_losing at H
  refine wm_iconst 0 1 (by decide +kernel : decode cX8_losing 0 = .ok (.iconst 0, 1)) rfl (by decide +kernel) ?_
  refine wm_istore_n 1 2 [some _, some _, none] (by decide +kernel) rfl (by decide +kernel) (okS_spec rfl) rfl ?_
  refine wm_iconst 0 3 (by decide +kernel : decode cX8_losing 2 = .ok (.iconst 0, 1)) rfl (by decide +kernel) ?_
  refine wm_istore_n 2 4 [some _, some _, some _] (by decide +kernel) rfl (by decide +kernel) (okS_spec rfl) rfl ?_
  obtain ⟨n9, H⟩ := H
  refine l_X8_losing_L4 g _  _ _ _ _ H
def f_X8_openLines_L4   (Q : Int32 → HP → Prop) : Nat → Int32 → Int32 → HP → Prop
  | 0, _, _, _ => False
  | n + 1, x1, x2, h =>
    ((((gi h 117 7) ≤ x2) →
      Q x1 h) ∧
     (¬ ((gi h 117 7) ≤ x2) →
      f_X8_canSend x2 (1 : Int64) h (fun v3 h2 =>
      ∀ x1_6 : Int32, x1_6 = (x1 ||| (if v3 = 0 then (0 : Int32) else (1 <<< (x2 &&& 31)))) →
      ∀ x2_7 : Int32, x2_7 = (x2 + 1) →
      f_X8_openLines_L4 Q n x1_6 x2_7 h2)))
def f_X8_openLines  (h : HP) (Q : Int32 → HP → Prop) : Prop :=
  ∃ n8, f_X8_openLines_L4 
    Q n8 0 0 h
set_option maxRecDepth 20000 in
theorem l_X8_openLines_L4 (g : GE)    (Q : Int32 → HP → Prop)  : ∀ (n : Nat) (x1 : Int32) (x2 : Int32) (h : HP), f_X8_openLines_L4 Q n x1 x2 h → Wm g mX8_openLines 4 [some (.ref 117), some (.int x1), some (.int x2)] [] h (qi Q) := by
  intro n
  induction n with
  | zero => intro x1 x2 h H; exact H.elim
  | succ n ih =>
    intro x1 x2 h H
    unfold f_X8_openLines_L4 at H
    refine wm_iload_n 2 5 (by decide +kernel) rfl rfl ?_
    refine wm_aload_n 0 6 (by decide +kernel) rfl rfl ?_
    refine wm_geti 8 7 9 fl_RX8_105 (by decide +kernel) rfl (by decide +kernel) rfl ?_
    refine wm_icmp_ge 12 37 (by decide +kernel : decode cX8_openLines 9 = .ok (.if_icmp .ge 28, 3)) (by decide) rfl (fun c1 => ?_) (fun c1 => ?_)
    · replace H := H.1 c1
      refine wm_iload_n 1 38 (by decide +kernel) rfl rfl ?_
      exact wm_iret (by decide +kernel) ⟨.int, rfl, rfl⟩ H
    · replace H := H.2 c1
      refine wm_iload_n 1 13 (by decide +kernel) rfl rfl ?_
      refine wm_aload_n 0 14 (by decide +kernel) rfl rfl ?_
      refine wm_iload_n 2 15 (by decide +kernel) rfl rfl ?_
      refine wm_lconst 1 16 (by decide +kernel : decode cX8_openLines 15 = .ok (.lconst 1, 1)) rfl (by decide +kernel) ?_
      refine wm_callVi mX8_canSend 2 8 [_, _] [_] _ _ 19 mo_X8_canSend np_X8_canSend ml_RX8_185 im_X8_canSend se_X8_canSend (by decide +kernel) (by decide +kernel) rfl rfl rfl (Nat.le_of_ble_eq_true rfl) (by decide +kernel) rfl (Nat.le_of_ble_eq_true rfl) _ (ent_pad 0 rfl) (l_X8_canSend g _ _ _ _ H) (fun v3 h2 H hzv3 => ?_)
      refine' wm_dia (pcJ := 29) (fun kt kf => wm_if_eq 22 28 (by decide +kernel : decode cX8_openLines 19 = .ok (.ifCond .eq 9, 3)) (by decide) rfl kt kf) ?D5k (fun kj c1 => ?D5t) (fun kj c1 => ?D5f)
      case D5t =>
        refine wm_iconst 0 29 (by decide +kernel : decode cX8_openLines 28 = .ok (.iconst 0, 1)) rfl (by decide +kernel) ?_
        exact kj
      case D5f =>
        refine wm_iconst 1 23 (by decide +kernel : decode cX8_openLines 22 = .ok (.iconst 1, 1)) rfl (by decide +kernel) ?_
        refine wm_iload_n 2 24 (by decide +kernel) rfl rfl ?_
        refine wm_ishl 25 (by decide +kernel) rfl ?_
        refine wm_goto 29 (by decide +kernel : decode cX8_openLines 25 = .ok (.goto 4, 3)) (by decide) ?_
        exact kj
      case D5k =>
        refine wm_ior 30 (by decide +kernel) rfl ?_
        replace H := H _ rfl
        refine wm_istore_n 1 31 [some _, some _, some _] (by decide +kernel) rfl (by decide +kernel) (okS_spec rfl) rfl ?_
        replace H := H _ rfl
        refine wm_iinc 2 (_ + 1) 34 [some _, some _, some _] (by decide +kernel : decode cX8_openLines 31 = .ok (.iinc 2 1, 3)) rfl (by decide +kernel) rfl (ofI_eq (by decide +kernel)) (okS_spec rfl) rfl ?_
        refine wm_goto 4 (by decide +kernel : decode cX8_openLines 34 = .ok (.goto (-30), 3)) (by decide) ?_
        exact ih _ _ _ H
set_option maxRecDepth 20000 in
theorem l_X8_openLines (g : GE)   (h : HP) (Q : Int32 → HP → Prop) (H : f_X8_openLines  h Q) : Wm g mX8_openLines 0 [some (.ref 117), none, none] [] h (qi Q) := by
  unfold f_X8_openLines at H
  refine wm_iconst 0 1 (by decide +kernel : decode cX8_openLines 0 = .ok (.iconst 0, 1)) rfl (by decide +kernel) ?_
  refine wm_istore_n 1 2 [some _, some _, none] (by decide +kernel) rfl (by decide +kernel) (okS_spec rfl) rfl ?_
  refine wm_iconst 0 3 (by decide +kernel : decode cX8_openLines 2 = .ok (.iconst 0, 1)) rfl (by decide +kernel) ?_
  refine wm_istore_n 2 4 [some _, some _, some _] (by decide +kernel) rfl (by decide +kernel) (okS_spec rfl) rfl ?_
  obtain ⟨n8, H⟩ := H
  refine l_X8_openLines_L4 g _  _ _ _ _ H
def f_X8_now (x1 : Int32) (h : HP) (Q : Int32 → HP → Prop) : Prop :=
  (((x1 = 0) →
    Q (gi h 117 1) h) ∧
   (¬ (x1 = 0) →
    (((x1 = 1) →
      f_X8_sumOf 120 (gi h 117 3) h (fun v4 h3 =>
      Q v4 h3)) ∧
     (¬ (x1 = 1) →
      (((x1 = 2) →
        f_X8_allOnWay h (fun v7 h6 =>
        Q v7 h6)) ∧
       (¬ (x1 = 2) →
        (((x1 = 3) →
          Q (gi h 117 2) h) ∧
         (¬ (x1 = 3) →
          (((x1 = 4) →
            f_X8_sumOf 123 (gi h 117 7) h (fun v11 h10 =>
            Q v11 h10)) ∧
           (¬ (x1 = 4) →
            (((x1 = 5) →
              f_X8_roomOfAll h (fun v14 h13 =>
              Q v14 h13)) ∧
             (¬ (x1 = 5) →
              (((x1 = 6) →
                f_X8_losing h (fun v17 h16 =>
                Q v17 h16)) ∧
               (¬ (x1 = 6) →
                (((x1 = 7) →
                  f_X8_openLines h (fun v20 h19 =>
                  Q v20 h19)) ∧
                 (¬ (x1 = 7) →
                  f_X8_finds (-1000000001 : Int32) h (fun v22 h21 =>
                  Q v22 h21)))))))))))))))))
set_option maxRecDepth 20000 in
theorem l_X8_now (g : GE) (x1 : Int32)  (h : HP) (Q : Int32 → HP → Prop) (H : f_X8_now x1 h Q) : Wm g mX8_now 0 [some (.ref 117), some (.int x1)] [] h (qi Q) := by
  unfold f_X8_now at H
  refine wm_iload_n 1 1 (by decide +kernel) rfl rfl ?_
  refine em_go H (fun c1 H => ?_) (fun c1 H => ?_)
  · refine wm_tin (off := 47) 0 48 c1 (by decide +kernel : decode cX8_now 1 = .ok (.tableswitch 103 0 7 #[47, 52, 65, 70, 75, 88, 93, 98], 47)) (by decide +kernel) (by decide +kernel) (by decide +kernel) (by decide) ?_
    refine wm_aload_n 0 49 (by decide +kernel) rfl rfl ?_
    refine wm_geti 8 1 52 fl_RX8_154 (by decide +kernel) rfl (by decide +kernel) rfl ?_
    exact wm_iret (by decide +kernel) ⟨.int, rfl, rfl⟩ H
  · skip
    refine em_go H (fun c2 H => ?_) (fun c2 H => ?_)
    · refine wm_tin (off := 52) 1 53 c2 (by decide +kernel : decode cX8_now 1 = .ok (.tableswitch 103 0 7 #[47, 52, 65, 70, 75, 88, 93, 98], 47)) (by decide +kernel) (by decide +kernel) (by decide +kernel) (by decide) ?_
      refine wm_aload_n 0 54 (by decide +kernel) rfl rfl ?_
      refine wm_aload_n 0 55 (by decide +kernel) rfl rfl ?_
      refine wm_getr 8 5 3 120 58 fl_RX8_16 (by decide +kernel) rfl (by decide +kernel) rfl rfl (by decide) ?_
      refine wm_aload_n 0 59 (by decide +kernel) rfl rfl ?_
      refine wm_geti 8 3 62 fl_RX8_97 (by decide +kernel) rfl (by decide +kernel) rfl ?_
      refine wm_callVi mX8_sumOf 2 8 [_, _] [] _ _ 65 mo_X8_sumOf np_X8_sumOf ml_RX8_117 im_X8_sumOf se_X8_sumOf (by decide +kernel) (by decide +kernel) rfl rfl rfl (Nat.le_of_ble_eq_true rfl) (by decide +kernel) rfl (Nat.le_of_ble_eq_true rfl) _ (ent_pad 2 rfl) (l_X8_sumOf g _ _ (by decide +kernel) _ _ H) (fun v4 h3 H hzv4 => ?_)
      exact wm_iret (by decide +kernel) ⟨.int, rfl, rfl⟩ H
    · skip
      refine em_go H (fun c5 H => ?_) (fun c5 H => ?_)
      · refine wm_tin (off := 65) 2 66 c5 (by decide +kernel : decode cX8_now 1 = .ok (.tableswitch 103 0 7 #[47, 52, 65, 70, 75, 88, 93, 98], 47)) (by decide +kernel) (by decide +kernel) (by decide +kernel) (by decide) ?_
        refine wm_aload_n 0 67 (by decide +kernel) rfl rfl ?_
        refine wm_callVi mX8_allOnWay 0 8 [] [] _ _ 70 mo_X8_allOnWay np_X8_allOnWay ml_RX8_121 im_X8_allOnWay se_X8_allOnWay (by decide +kernel) (by decide +kernel) rfl rfl rfl (Nat.le_of_ble_eq_true rfl) (by decide +kernel) rfl (Nat.le_of_ble_eq_true rfl) _ (ent_pad 0 rfl) (l_X8_allOnWay g _ _ H) (fun v7 h6 H hzv7 => ?_)
        exact wm_iret (by decide +kernel) ⟨.int, rfl, rfl⟩ H
      · skip
        refine em_go H (fun c8 H => ?_) (fun c8 H => ?_)
        · refine wm_tin (off := 70) 3 71 c8 (by decide +kernel : decode cX8_now 1 = .ok (.tableswitch 103 0 7 #[47, 52, 65, 70, 75, 88, 93, 98], 47)) (by decide +kernel) (by decide +kernel) (by decide +kernel) (by decide) ?_
          refine wm_aload_n 0 72 (by decide +kernel) rfl rfl ?_
          refine wm_geti 8 2 75 fl_RX8_194 (by decide +kernel) rfl (by decide +kernel) rfl ?_
          exact wm_iret (by decide +kernel) ⟨.int, rfl, rfl⟩ H
        · skip
          refine em_go H (fun c9 H => ?_) (fun c9 H => ?_)
          · refine wm_tin (off := 75) 4 76 c9 (by decide +kernel : decode cX8_now 1 = .ok (.tableswitch 103 0 7 #[47, 52, 65, 70, 75, 88, 93, 98], 47)) (by decide +kernel) (by decide +kernel) (by decide +kernel) (by decide) ?_
            refine wm_aload_n 0 77 (by decide +kernel) rfl rfl ?_
            refine wm_aload_n 0 78 (by decide +kernel) rfl rfl ?_
            refine wm_getr 8 9 6 123 81 fl_RX8_25 (by decide +kernel) rfl (by decide +kernel) rfl rfl (by decide) ?_
            refine wm_aload_n 0 82 (by decide +kernel) rfl rfl ?_
            refine wm_geti 8 7 85 fl_RX8_105 (by decide +kernel) rfl (by decide +kernel) rfl ?_
            refine wm_callVi mX8_sumOf 2 8 [_, _] [] _ _ 88 mo_X8_sumOf np_X8_sumOf ml_RX8_117 im_X8_sumOf se_X8_sumOf (by decide +kernel) (by decide +kernel) rfl rfl rfl (Nat.le_of_ble_eq_true rfl) (by decide +kernel) rfl (Nat.le_of_ble_eq_true rfl) _ (ent_pad 2 rfl) (l_X8_sumOf g _ _ (by decide +kernel) _ _ H) (fun v11 h10 H hzv11 => ?_)
            exact wm_iret (by decide +kernel) ⟨.int, rfl, rfl⟩ H
          · skip
            refine em_go H (fun c12 H => ?_) (fun c12 H => ?_)
            · refine wm_tin (off := 88) 5 89 c12 (by decide +kernel : decode cX8_now 1 = .ok (.tableswitch 103 0 7 #[47, 52, 65, 70, 75, 88, 93, 98], 47)) (by decide +kernel) (by decide +kernel) (by decide +kernel) (by decide) ?_
              refine wm_aload_n 0 90 (by decide +kernel) rfl rfl ?_
              refine wm_callVi mX8_roomOfAll 0 8 [] [] _ _ 93 mo_X8_roomOfAll np_X8_roomOfAll ml_RX8_202 im_X8_roomOfAll se_X8_roomOfAll (by decide +kernel) (by decide +kernel) rfl rfl rfl (Nat.le_of_ble_eq_true rfl) (by decide +kernel) rfl (Nat.le_of_ble_eq_true rfl) _ (ent_pad 2 rfl) (l_X8_roomOfAll g _ _ H) (fun v14 h13 H hzv14 => ?_)
              exact wm_iret (by decide +kernel) ⟨.int, rfl, rfl⟩ H
            · skip
              refine em_go H (fun c15 H => ?_) (fun c15 H => ?_)
              · refine wm_tin (off := 93) 6 94 c15 (by decide +kernel : decode cX8_now 1 = .ok (.tableswitch 103 0 7 #[47, 52, 65, 70, 75, 88, 93, 98], 47)) (by decide +kernel) (by decide +kernel) (by decide +kernel) (by decide) ?_
                refine wm_aload_n 0 95 (by decide +kernel) rfl rfl ?_
                refine wm_callVi mX8_losing 0 8 [] [] _ _ 98 mo_X8_losing np_X8_losing ml_RX8_205 im_X8_losing se_X8_losing (by decide +kernel) (by decide +kernel) rfl rfl rfl (Nat.le_of_ble_eq_true rfl) (by decide +kernel) rfl (Nat.le_of_ble_eq_true rfl) _ (ent_pad 2 rfl) (l_X8_losing g _ _ H) (fun v17 h16 H hzv17 => ?_)
                exact wm_iret (by decide +kernel) ⟨.int, rfl, rfl⟩ H
              · skip
                refine em_go H (fun c18 H => ?_) (fun c18 H => ?_)
                · refine wm_tin (off := 98) 7 99 c18 (by decide +kernel : decode cX8_now 1 = .ok (.tableswitch 103 0 7 #[47, 52, 65, 70, 75, 88, 93, 98], 47)) (by decide +kernel) (by decide +kernel) (by decide +kernel) (by decide) ?_
                  refine wm_aload_n 0 100 (by decide +kernel) rfl rfl ?_
                  refine wm_callVi mX8_openLines 0 8 [] [] _ _ 103 mo_X8_openLines np_X8_openLines ml_RX8_208 im_X8_openLines se_X8_openLines (by decide +kernel) (by decide +kernel) rfl rfl rfl (Nat.le_of_ble_eq_true rfl) (by decide +kernel) rfl (Nat.le_of_ble_eq_true rfl) _ (ent_pad 2 rfl) (l_X8_openLines g _ _ H) (fun v20 h19 H hzv20 => ?_)
                  exact wm_iret (by decide +kernel) ⟨.int, rfl, rfl⟩ H
                · skip
                  refine wm_tout 104 (by decide +kernel : decode cX8_now 1 = .ok (.tableswitch 103 0 7 #[47, 52, 65, 70, 75, 88, 93, 98], 47)) (by have q0 := ne_toInt 0 (by decide +kernel) c1; have q1 := ne_toInt 1 (by decide +kernel) c2; have q2 := ne_toInt 2 (by decide +kernel) c5; have q3 := ne_toInt 3 (by decide +kernel) c8; have q4 := ne_toInt 4 (by decide +kernel) c9; have q5 := ne_toInt 5 (by decide +kernel) c12; have q6 := ne_toInt 6 (by decide +kernel) c15; have q7 := ne_toInt 7 (by decide +kernel) c18; omega) (by decide) ?_
                  refine wm_aload_n 0 105 (by decide +kernel) rfl rfl ?_
                  refine wm_ldc (-1000000001) 107 co_RX8_96 (by decide +kernel) rfl ?_
                  refine wm_callVi mX8_finds 1 8 [_] [] _ _ 110 mo_X8_finds np_X8_finds ml_RX8_129 im_X8_finds se_X8_finds (by decide +kernel) (by decide +kernel) rfl rfl rfl (Nat.le_of_ble_eq_true rfl) (by decide +kernel) rfl (Nat.le_of_ble_eq_true rfl) _ (ent_pad 0 rfl) (l_X8_finds g _ _ _ H) (fun v22 h21 H hzv22 => ?_)
                  exact wm_iret (by decide +kernel) ⟨.int, rfl, rfl⟩ H
def f_X8_layOut_J91 (x1 : Int32) (x2 : Int32) (x3 : Int32) (x4 : Int32) (x5 : Int32) (x6 : Int32) (xs0 : Int32) (k28 : Int32 → HP → Prop) (Q : HP → Prop) (h : HP) : Prop :=
  ((x6 = 0) → vp_in x5 10) ∧
  ∀ x7_16 : Int32, x7_16 = (if x6 = 0 then ((xs0 - (gi h 123 (ix x5))) : Int32) else xs0) →
  vp_in ((25 * x5) + x6) 250 ∧
  ∀ h20 : HP, h20 = si h 125 (ix ((25 * x5) + x6)) (if 0 ≤ x7_16 then (x7_16 : Int32) else 0) →
  vp_in ((25 * x5) + x6) 250 ∧
  ∀ h22 : HP, h22 = si h20 130 (ix ((25 * x5) + x6)) 0 →
  ∀ x6_23 : Int32, x6_23 = (x6 + 1) →
  k28 x6_23 h22
def f_X8_layOut_J69 (x1 : Int32) (x2 : Int32) (x3 : Int32) (x4 : Int32) (x5 : Int32) (x6 : Int32) (xs0 : Int32) (k28 : Int32 → HP → Prop) (Q : HP → Prop) (h : HP) : Prop :=
  (((x5 = x3) →
    (((xs0 ≤ x4) →
      f_X8_layOut_J91 x1 x2 x3 x4 x5 x6 xs0 (fun z0 h9 => k28 z0 h9) Q h) ∧
     (¬ (xs0 ≤ x4) →
      f_X8_layOut_J91 x1 x2 x3 x4 x5 x6 x4 (fun z0 h9 => k28 z0 h9) Q h))) ∧
   (¬ (x5 = x3) →
    f_X8_layOut_J91 x1 x2 x3 x4 x5 x6 xs0 (fun z0 h9 => k28 z0 h9) Q h))
def f_X8_layOut_L28 (x1 : Int32) (x2 : Int32) (x3 : Int32) (x4 : Int32) (x5 : Int32) (k159 : HP → Prop) (Q : HP → Prop) : Nat → Int32 → HP → Prop
  | 0, _, _ => False
  | n + 1, x6, h =>
    (((25 ≤ x6) →
      k159 h) ∧
     (¬ (25 ≤ x6) →
      (((x5 = x1) →
        f_X8_layOut_J69 x1 x2 x3 x4 x5 x6 0 (f_X8_layOut_L28 x1 x2 x3 x4 x5 k159 Q n) Q h) ∧
       (¬ (x5 = x1) →
        f_X8_roomBy x5 ((gi h 117 1) + x6) (if x5 = x2 then (1 : Int32) else 0) h (fun v11 h10 =>
        f_X8_layOut_J69 x1 x2 x3 x4 x5 x6 v11 (f_X8_layOut_L28 x1 x2 x3 x4 x5 k159 Q n) Q h10)))))
def f_X8_layOut_L3 (x1 : Int32) (x2 : Int32) (x3 : Int32) (x4 : Int32) (k165 : HP → Prop) (Q : HP → Prop) : Nat → Int32 → HP → Prop
  | 0, _, _ => False
  | n + 1, x5, h =>
    ((((gi h 117 7) ≤ x5) →
      k165 h) ∧
     (¬ ((gi h 117 7) ≤ x5) →
      f_X8_takes x5 h (fun v3 h2 =>
      vp_in x5 10 ∧
      ∀ h5 : HP, h5 = si h2 131 (ix x5) v3 →
      ∃ n27, f_X8_layOut_L28 x1 x2 x3 x4 x5
        (fun h25 =>
          ∀ x5_26 : Int32, x5_26 = (x5 + 1) →
          f_X8_layOut_L3 x1 x2 x3 x4 k165 Q n x5_26 h25)
        Q n27 0 h5)))
def f_X8_layOut_L180 (x5 : Int32) (k276 : HP → Prop) (Q : HP → Prop) : Nat → Int32 → HP → Prop
  | 0, _, _ => False
  | n + 1, x6, h =>
    (((25 ≤ x6) →
      k276 h) ∧
     (¬ (25 ≤ x6) →
      f_X8_holds x5 ((gi h 117 1) + x6) h (fun v32 h31 =>
      vp_in ((25 * x5) + x6) 150 ∧
      ∀ h34 : HP, h34 = si h31 126 (ix ((25 * x5) + x6)) v32 →
      ((x6 = 0) → vp_in x5 6) ∧
      vp_in ((25 * x5) + x6) 150 ∧
      ∀ h39 : HP, h39 = si h34 127 (ix ((25 * x5) + x6)) (if x6 = 0 then ((gi h34 120 (ix x5)) : Int32) else 0) →
      vp_in ((25 * x5) + x6) 150 ∧
      ∀ h41 : HP, h41 = si h39 128 (ix ((25 * x5) + x6)) 0 →
      vp_in ((25 * x5) + x6) 150 ∧
      ∀ h43 : HP, h43 = si h41 129 (ix ((25 * x5) + x6)) 0 →
      ∀ x6_44 : Int32, x6_44 = (x6 + 1) →
      f_X8_layOut_L180 x5 k276 Q n x6_44 h43)))
def f_X8_layOut_L168  (k282 : HP → Prop) (Q : HP → Prop) : Nat → Int32 → HP → Prop
  | 0, _, _ => False
  | n + 1, x5, h =>
    ((((gi h 117 3) ≤ x5) →
      k282 h) ∧
     (¬ ((gi h 117 3) ≤ x5) →
      ∃ n47, f_X8_layOut_L180 x5
        (fun h45 =>
          ∀ x5_46 : Int32, x5_46 = (x5 + 1) →
          f_X8_layOut_L168 k282 Q n x5_46 h45)
        Q n47 0 h))
def f_X8_layOut_L297 (x5 : Int32) (k352 : HP → Prop) (Q : HP → Prop) : Nat → Int32 → HP → Prop
  | 0, _, _ => False
  | n + 1, x6, h =>
    (((16 ≤ x6) →
      k352 h) ∧
     (¬ (16 ≤ x6) →
      f_X8_at x5 2 h (fun v52 h51 =>
      vp_in ((25 * v52) + x6) 150 ∧
      vp_in ((16 * x5) + (((gi h51 117 1) + x6) - ((gi h51 117 1) + x6) / 16 * 16)) 160 ∧
      vp_in ((25 * v52) + x6) 150 ∧
      ∀ h56 : HP, h56 = si h51 127 (ix ((25 * v52) + x6)) ((gi h51 127 (ix ((25 * v52) + x6))) + (gi h51 124 (ix ((16 * x5) + (((gi h51 117 1) + x6) - ((gi h51 117 1) + x6) / 16 * 16))))) →
      ∀ x6_57 : Int32, x6_57 = (x6 + 1) →
      f_X8_layOut_L297 x5 k352 Q n x6_57 h56)))
def f_X8_layOut_L285   (Q : HP → Prop) : Nat → Int32 → HP → Prop
  | 0, _, _ => False
  | n + 1, x5, h =>
    ((((gi h 117 7) ≤ x5) →
      Q h) ∧
     (¬ ((gi h 117 7) ≤ x5) →
      ∃ n60, f_X8_layOut_L297 x5
        (fun h58 =>
          ∀ x5_59 : Int32, x5_59 = (x5 + 1) →
          f_X8_layOut_L285 Q n x5_59 h58)
        Q n60 1 h))
def f_X8_layOut (x1 : Int32) (x2 : Int32) (x3 : Int32) (x4 : Int32) (h : HP) (Q : HP → Prop) : Prop :=
  ∃ n63, f_X8_layOut_L3 x1 x2 x3 x4
    (fun h28 =>
      ∃ n62, f_X8_layOut_L168 
        (fun h48 =>
          ∃ n61, f_X8_layOut_L285 
            Q n61 0 h48)
        Q n62 0 h28)
    Q n63 0 h
set_option maxRecDepth 20000 in
theorem l_X8_layOut_J91 (g : GE) (x1 : Int32) (x2 : Int32) (x3 : Int32) (x4 : Int32) (x5 : Int32) (x6 : Int32) (xs0 : Int32)  (k28 : Int32 → HP → Prop) (Q : HP → Prop) (hk28 : ∀ (x6 : Int32) (h : HP), k28 x6 h → Wm g mX8_layOut 28 [some (.ref 117), some (.int x1), some (.int x2), some (.int x3), some (.int x4), some (.int x5), some (.int x6), none] [] h (qv Q)) (h : HP) (H : f_X8_layOut_J91 x1 x2 x3 x4 x5 x6 xs0 k28 Q h) : Wm g mX8_layOut 91 [some (.ref 117), some (.int x1), some (.int x2), some (.int x3), some (.int x4), some (.int x5), some (.int x6), none] [(.int xs0)] h (qv Q) := by
  unfold f_X8_layOut_J91 at H
  refine wm_istore 7 93 [some _, some _, some _, some _, some _, some _, some _, some _] (by decide +kernel) rfl (by decide +kernel) (okS_spec rfl) rfl ?_
  refine wm_iload 6 95 (by decide +kernel) rfl rfl ?_
  obtain ⟨D15a, H⟩ := H
  refine' wm_dia (pcJ := 113) (fun kt kf => wm_if_ne 98 111 (by decide +kernel : decode cX8_layOut 95 = .ok (.ifCond .ne 16, 3)) (by decide) rfl kf kt) ?D15k (fun kj c1 => ?D15t) (fun kj c1 => ?D15f)
  case D15t =>
    have H := D15a c1
    refine wm_iload 7 100 (by decide +kernel) rfl rfl ?_
    refine wm_aload_n 0 101 (by decide +kernel) rfl rfl ?_
    refine wm_getr 8 9 6 123 104 fl_RX8_25 (by decide +kernel) rfl (by decide +kernel) rfl rfl (by decide) ?_
    refine wm_iload 5 106 (by decide +kernel) rfl rfl ?_
    have o14 := H
    refine wm_iald 10 107 (by decide +kernel) rfl (by decide +kernel) (by decide +kernel) o14 ?_
    refine wm_isub 108 (by decide +kernel) rfl ?_
    refine wm_goto 113 (by decide +kernel : decode cX8_layOut 108 = .ok (.goto 5, 3)) (by decide) ?_
    exact kj
  case D15f =>
    refine wm_iload 7 113 (by decide +kernel) rfl rfl ?_
    exact kj
  case D15k =>
    replace H := H _ rfl
    refine wm_istore 7 115 [some _, some _, some _, some _, some _, some _, some _, some _] (by decide +kernel) rfl (by decide +kernel) (okS_spec rfl) rfl ?_
    refine wm_aload_n 0 116 (by decide +kernel) rfl rfl ?_
    refine wm_getr 8 11 8 125 119 fl_RX8_31 (by decide +kernel) rfl (by decide +kernel) rfl rfl (by decide) ?_
    refine wm_bipush 25 121 (by decide +kernel : decode cX8_layOut 119 = .ok (.bipush 25, 2)) rfl (by decide +kernel) ?_
    refine wm_iload 5 123 (by decide +kernel) rfl rfl ?_
    refine wm_imul 124 (by decide +kernel) rfl ?_
    refine wm_iload 6 126 (by decide +kernel) rfl rfl ?_
    refine wm_iadd 127 (by decide +kernel) rfl ?_
    refine wm_iload 7 129 (by decide +kernel) rfl rfl ?_
    refine' wm_dia (pcJ := 138) (fun kt kf => wm_if_ge 132 136 (by decide +kernel : decode cX8_layOut 129 = .ok (.ifCond .ge 7, 3)) (by decide) rfl kt kf) ?D18k (fun kj c1 => ?D18t) (fun kj c1 => ?D18f)
    case D18t =>
      refine wm_iload 7 138 (by decide +kernel) rfl rfl ?_
      exact kj
    case D18f =>
      refine wm_iconst 0 133 (by decide +kernel : decode cX8_layOut 132 = .ok (.iconst 0, 1)) rfl (by decide +kernel) ?_
      refine wm_goto 138 (by decide +kernel : decode cX8_layOut 133 = .ok (.goto 5, 3)) (by decide) ?_
      exact kj
    case D18k =>
      obtain ⟨o19, H⟩ := H
      replace H := H _ rfl
      refine wm_iast 250 139 (by decide +kernel) rfl (by decide +kernel) (by decide +kernel) o19 ?_
      refine wm_aload_n 0 140 (by decide +kernel) rfl rfl ?_
      refine wm_getr 8 16 13 130 143 fl_RX8_46 (by decide +kernel) rfl (by decide +kernel) rfl rfl (by decide) ?_
      refine wm_bipush 25 145 (by decide +kernel : decode cX8_layOut 143 = .ok (.bipush 25, 2)) rfl (by decide +kernel) ?_
      refine wm_iload 5 147 (by decide +kernel) rfl rfl ?_
      refine wm_imul 148 (by decide +kernel) rfl ?_
      refine wm_iload 6 150 (by decide +kernel) rfl rfl ?_
      refine wm_iadd 151 (by decide +kernel) rfl ?_
      refine wm_iconst 0 152 (by decide +kernel : decode cX8_layOut 151 = .ok (.iconst 0, 1)) rfl (by decide +kernel) ?_
      obtain ⟨o21, H⟩ := H
      replace H := H _ rfl
      refine wm_iast 250 153 (by decide +kernel) rfl (by decide +kernel) (by decide +kernel) o21 ?_
      replace H := H _ rfl
      refine wm_iinc 6 (_ + 1) 156 [some _, some _, some _, some _, some _, some _, some _, some _] (by decide +kernel : decode cX8_layOut 153 = .ok (.iinc 6 1, 3)) rfl (by decide +kernel) rfl (ofI_eq (by decide +kernel)) (okS_spec rfl) rfl ?_
      refine wm_goto 28 (by decide +kernel : decode cX8_layOut 156 = .ok (.goto (-128), 3)) (by decide) ?_
      refine wm_mask [true, true, true, true, true, true, true, false] [some _, some _, some _, some _, some _, some _, some _, none] rfl ?_
      exact hk28 _ _ H
set_option maxRecDepth 20000 in
theorem l_X8_layOut_J69 (g : GE) (x1 : Int32) (x2 : Int32) (x3 : Int32) (x4 : Int32) (x5 : Int32) (x6 : Int32) (xs0 : Int32)  (k28 : Int32 → HP → Prop) (Q : HP → Prop) (hk28 : ∀ (x6 : Int32) (h : HP), k28 x6 h → Wm g mX8_layOut 28 [some (.ref 117), some (.int x1), some (.int x2), some (.int x3), some (.int x4), some (.int x5), some (.int x6), none] [] h (qv Q)) (h : HP) (H : f_X8_layOut_J69 x1 x2 x3 x4 x5 x6 xs0 k28 Q h) : Wm g mX8_layOut 69 [some (.ref 117), some (.int x1), some (.int x2), some (.int x3), some (.int x4), some (.int x5), some (.int x6), none] [(.int xs0)] h (qv Q) := by
  unfold f_X8_layOut_J69 at H
  refine wm_istore 7 71 [some _, some _, some _, some _, some _, some _, some _, some _] (by decide +kernel) rfl (by decide +kernel) (okS_spec rfl) rfl ?_
  refine wm_iload 5 73 (by decide +kernel) rfl rfl ?_
  refine wm_iload_n 3 74 (by decide +kernel) rfl rfl ?_
  refine wm_icmp_ne 77 89 (by decide +kernel : decode cX8_layOut 74 = .ok (.if_icmp .ne 15, 3)) (by decide) rfl (fun c12 => ?_) (fun c12 => ?_)
  · replace H := H.2 c12
    refine wm_iload 7 91 (by decide +kernel) rfl rfl ?_
    refine wm_mask [true, true, true, true, true, true, true, false] [some _, some _, some _, some _, some _, some _, some _, none] rfl ?_
    exact l_X8_layOut_J91 g _ _ _ _ _ _ _ _ _ (hk28) _ H
  · replace H := H.1 c12
    refine wm_iload 7 79 (by decide +kernel) rfl rfl ?_
    refine wm_iload 4 81 (by decide +kernel) rfl rfl ?_
    refine wm_icmp_le 84 89 (by decide +kernel : decode cX8_layOut 81 = .ok (.if_icmp .le 8, 3)) (by decide) rfl (fun c24 => ?_) (fun c24 => ?_)
    · replace H := H.1 c24
      refine wm_iload 7 91 (by decide +kernel) rfl rfl ?_
      refine wm_mask [true, true, true, true, true, true, true, false] [some _, some _, some _, some _, some _, some _, some _, none] rfl ?_
      exact l_X8_layOut_J91 g _ _ _ _ _ _ _ _ _ (hk28) _ H
    · replace H := H.2 c24
      refine wm_iload 4 86 (by decide +kernel) rfl rfl ?_
      refine wm_goto 91 (by decide +kernel : decode cX8_layOut 86 = .ok (.goto 5, 3)) (by decide) ?_
      refine wm_mask [true, true, true, true, true, true, true, false] [some _, some _, some _, some _, some _, some _, some _, none] rfl ?_
      exact l_X8_layOut_J91 g _ _ _ _ _ _ _ _ _ (hk28) _ H
set_option maxRecDepth 20000 in
theorem l_X8_layOut_L28 (g : GE) (x1 : Int32) (x2 : Int32) (x3 : Int32) (x4 : Int32) (x5 : Int32)  (k159 : HP → Prop) (Q : HP → Prop) (hk159 : ∀  (h : HP), k159  h → Wm g mX8_layOut 159 [some (.ref 117), some (.int x1), some (.int x2), some (.int x3), some (.int x4), some (.int x5), none, none] [] h (qv Q)) : ∀ (n : Nat) (x6 : Int32) (h : HP), f_X8_layOut_L28 x1 x2 x3 x4 x5 k159 Q n x6 h → Wm g mX8_layOut 28 [some (.ref 117), some (.int x1), some (.int x2), some (.int x3), some (.int x4), some (.int x5), some (.int x6), none] [] h (qv Q) := by
  intro n
  induction n with
  | zero => intro x6 h H; exact H.elim
  | succ n ih =>
    intro x6 h H
    unfold f_X8_layOut_L28 at H
    refine wm_iload 6 30 (by decide +kernel) rfl rfl ?_
    refine wm_bipush 25 32 (by decide +kernel : decode cX8_layOut 30 = .ok (.bipush 25, 2)) rfl (by decide +kernel) ?_
    refine wm_icmp_ge 35 159 (by decide +kernel : decode cX8_layOut 32 = .ok (.if_icmp .ge 127, 3)) (by decide) rfl (fun c6 => ?_) (fun c6 => ?_)
    · replace H := H.1 c6
      refine wm_mask [true, true, true, true, true, true, false, false] [some _, some _, some _, some _, some _, some _, none, none] rfl ?_
      exact hk159 _ H
    · replace H := H.2 c6
      refine wm_iload 5 37 (by decide +kernel) rfl rfl ?_
      refine wm_iload_n 1 38 (by decide +kernel) rfl rfl ?_
      refine wm_icmp_ne 41 45 (by decide +kernel : decode cX8_layOut 38 = .ok (.if_icmp .ne 7, 3)) (by decide) rfl (fun c7 => ?_) (fun c7 => ?_)
      · replace H := H.2 c7
        refine wm_aload_n 0 46 (by decide +kernel) rfl rfl ?_
        refine wm_iload 5 48 (by decide +kernel) rfl rfl ?_
        refine wm_aload_n 0 49 (by decide +kernel) rfl rfl ?_
        refine wm_geti 8 1 52 fl_RX8_154 (by decide +kernel) rfl (by decide +kernel) rfl ?_
        refine wm_iload 6 54 (by decide +kernel) rfl rfl ?_
        refine wm_iadd 55 (by decide +kernel) rfl ?_
        refine wm_iload 5 57 (by decide +kernel) rfl rfl ?_
        refine wm_iload_n 2 58 (by decide +kernel) rfl rfl ?_
        refine' wm_dia (pcJ := 66) (fun kt kf => wm_icmp_ne 61 65 (by decide +kernel : decode cX8_layOut 58 = .ok (.if_icmp .ne 7, 3)) (by decide) rfl kf kt) ?D9k (fun kj c1 => ?D9t) (fun kj c1 => ?D9f)
        case D9t =>
          refine wm_iconst 1 62 (by decide +kernel : decode cX8_layOut 61 = .ok (.iconst 1, 1)) rfl (by decide +kernel) ?_
          refine wm_goto 66 (by decide +kernel : decode cX8_layOut 62 = .ok (.goto 4, 3)) (by decide) ?_
          exact kj
        case D9f =>
          refine wm_iconst 0 66 (by decide +kernel : decode cX8_layOut 65 = .ok (.iconst 0, 1)) rfl (by decide +kernel) ?_
          exact kj
        case D9k =>
          refine wm_callVi mX8_roomBy 3 8 [_, _, _] [] _ _ 69 mo_X8_roomBy np_X8_roomBy ml_RX8_113 im_X8_roomBy se_X8_roomBy (by decide +kernel) (by decide +kernel) rfl rfl rfl (Nat.le_of_ble_eq_true rfl) (by decide +kernel) rfl (Nat.le_of_ble_eq_true rfl) _ (ent_pad 2 rfl) (l_X8_roomBy g _ _ _ _ _ H) (fun v11 h10 H hzv11 => ?_)
          exact l_X8_layOut_J69 g _ _ _ _ _ _ _ _ _ (ih) _ H
      · replace H := H.1 c7
        refine wm_iconst 0 42 (by decide +kernel : decode cX8_layOut 41 = .ok (.iconst 0, 1)) rfl (by decide +kernel) ?_
        refine wm_goto 69 (by decide +kernel : decode cX8_layOut 42 = .ok (.goto 27, 3)) (by decide) ?_
        exact l_X8_layOut_J69 g _ _ _ _ _ _ _ _ _ (ih) _ H
set_option maxRecDepth 20000 in
theorem l_X8_layOut_L3 (g : GE) (x1 : Int32) (x2 : Int32) (x3 : Int32) (x4 : Int32)  (k165 : HP → Prop) (Q : HP → Prop) (hk165 : ∀  (h : HP), k165  h → Wm g mX8_layOut 165 [some (.ref 117), none, none, none, none, none, none, none] [] h (qv Q)) : ∀ (n : Nat) (x5 : Int32) (h : HP), f_X8_layOut_L3 x1 x2 x3 x4 k165 Q n x5 h → Wm g mX8_layOut 3 [some (.ref 117), some (.int x1), some (.int x2), some (.int x3), some (.int x4), some (.int x5), none, none] [] h (qv Q) := by
  intro n
  induction n with
  | zero => intro x5 h H; exact H.elim
  | succ n ih =>
    intro x5 h H
    unfold f_X8_layOut_L3 at H
    refine wm_iload 5 5 (by decide +kernel) rfl rfl ?_
    refine wm_aload_n 0 6 (by decide +kernel) rfl rfl ?_
    refine wm_geti 8 7 9 fl_RX8_105 (by decide +kernel) rfl (by decide +kernel) rfl ?_
    refine wm_icmp_ge 12 165 (by decide +kernel : decode cX8_layOut 9 = .ok (.if_icmp .ge 156, 3)) (by decide) rfl (fun c1 => ?_) (fun c1 => ?_)
    · replace H := H.1 c1
      refine wm_mask [true, false, false, false, false, false, false, false] [some _, none, none, none, none, none, none, none] rfl ?_
      exact hk165 _ H
    · replace H := H.2 c1
      refine wm_aload_n 0 13 (by decide +kernel) rfl rfl ?_
      refine wm_getr 8 17 14 131 16 fl_RX8_49 (by decide +kernel) rfl (by decide +kernel) rfl rfl (by decide) ?_
      refine wm_iload 5 18 (by decide +kernel) rfl rfl ?_
      refine wm_aload_n 0 19 (by decide +kernel) rfl rfl ?_
      refine wm_iload 5 21 (by decide +kernel) rfl rfl ?_
      refine wm_callVi mX8_takes 1 8 [_] [_, _] _ _ 24 mo_X8_takes np_X8_takes ml_RX8_171 im_X8_takes se_X8_takes (by decide +kernel) (by decide +kernel) rfl rfl rfl (Nat.le_of_ble_eq_true rfl) (by decide +kernel) rfl (Nat.le_of_ble_eq_true rfl) _ (ent_pad 1 rfl) (l_X8_takes g _ _ _ H) (fun v3 h2 H hzv3 => ?_)
      obtain ⟨o4, H⟩ := H
      replace H := H _ rfl
      refine wm_iast 10 25 (by decide +kernel) rfl (by decide +kernel) (by decide +kernel) o4 ?_
      refine wm_iconst 0 26 (by decide +kernel : decode cX8_layOut 25 = .ok (.iconst 0, 1)) rfl (by decide +kernel) ?_
      refine wm_istore 6 28 [some _, some _, some _, some _, some _, some _, some _, none] (by decide +kernel) rfl (by decide +kernel) (okS_spec rfl) rfl ?_
      obtain ⟨n27, H⟩ := H
      refine l_X8_layOut_L28 g _ _ _ _ _ _ _ (fun h25 H => ?_) _ _ _ H
      · skip
        replace H := H _ rfl
        refine wm_iinc 5 (_ + 1) 162 [some _, some _, some _, some _, some _, some _, none, none] (by decide +kernel : decode cX8_layOut 159 = .ok (.iinc 5 1, 3)) rfl (by decide +kernel) rfl (ofI_eq (by decide +kernel)) (okS_spec rfl) rfl ?_
        refine wm_goto 3 (by decide +kernel : decode cX8_layOut 162 = .ok (.goto (-159), 3)) (by decide) ?_
        exact ih _ _ H
set_option maxRecDepth 20000 in
theorem l_X8_layOut_L180 (g : GE) (x5 : Int32)  (k276 : HP → Prop) (Q : HP → Prop) (hk276 : ∀  (h : HP), k276  h → Wm g mX8_layOut 276 [some (.ref 117), none, none, none, none, some (.int x5), none, none] [] h (qv Q)) : ∀ (n : Nat) (x6 : Int32) (h : HP), f_X8_layOut_L180 x5 k276 Q n x6 h → Wm g mX8_layOut 180 [some (.ref 117), none, none, none, none, some (.int x5), some (.int x6), none] [] h (qv Q) := by
  intro n
  induction n with
  | zero => intro x6 h H; exact H.elim
  | succ n ih =>
    intro x6 h H
    unfold f_X8_layOut_L180 at H
    refine wm_iload 6 182 (by decide +kernel) rfl rfl ?_
    refine wm_bipush 25 184 (by decide +kernel : decode cX8_layOut 182 = .ok (.bipush 25, 2)) rfl (by decide +kernel) ?_
    refine wm_icmp_ge 187 276 (by decide +kernel : decode cX8_layOut 184 = .ok (.if_icmp .ge 92, 3)) (by decide) rfl (fun c30 => ?_) (fun c30 => ?_)
    · replace H := H.1 c30
      refine wm_mask [true, false, false, false, false, true, false, false] [some _, none, none, none, none, some _, none, none] rfl ?_
      exact hk276 _ H
    · replace H := H.2 c30
      refine wm_aload_n 0 188 (by decide +kernel) rfl rfl ?_
      refine wm_getr 8 12 9 126 191 fl_RX8_34 (by decide +kernel) rfl (by decide +kernel) rfl rfl (by decide) ?_
      refine wm_bipush 25 193 (by decide +kernel : decode cX8_layOut 191 = .ok (.bipush 25, 2)) rfl (by decide +kernel) ?_
      refine wm_iload 5 195 (by decide +kernel) rfl rfl ?_
      refine wm_imul 196 (by decide +kernel) rfl ?_
      refine wm_iload 6 198 (by decide +kernel) rfl rfl ?_
      refine wm_iadd 199 (by decide +kernel) rfl ?_
      refine wm_aload_n 0 200 (by decide +kernel) rfl rfl ?_
      refine wm_iload 5 202 (by decide +kernel) rfl rfl ?_
      refine wm_aload_n 0 203 (by decide +kernel) rfl rfl ?_
      refine wm_geti 8 1 206 fl_RX8_154 (by decide +kernel) rfl (by decide +kernel) rfl ?_
      refine wm_iload 6 208 (by decide +kernel) rfl rfl ?_
      refine wm_iadd 209 (by decide +kernel) rfl ?_
      refine wm_callVi mX8_holds 2 8 [_, _] [_, _] _ _ 212 mo_X8_holds np_X8_holds ml_RX8_157 im_X8_holds se_X8_holds (by decide +kernel) (by decide +kernel) rfl rfl rfl (Nat.le_of_ble_eq_true rfl) (by decide +kernel) rfl (Nat.le_of_ble_eq_true rfl) _ (ent_pad 0 rfl) (l_X8_holds g _ _ _ _ H) (fun v32 h31 H hzv32 => ?_)
      obtain ⟨o33, H⟩ := H
      replace H := H _ rfl
      refine wm_iast 150 213 (by decide +kernel) rfl (by decide +kernel) (by decide +kernel) o33 ?_
      refine wm_aload_n 0 214 (by decide +kernel) rfl rfl ?_
      refine wm_getr 8 13 10 127 217 fl_RX8_37 (by decide +kernel) rfl (by decide +kernel) rfl rfl (by decide) ?_
      refine wm_bipush 25 219 (by decide +kernel : decode cX8_layOut 217 = .ok (.bipush 25, 2)) rfl (by decide +kernel) ?_
      refine wm_iload 5 221 (by decide +kernel) rfl rfl ?_
      refine wm_imul 222 (by decide +kernel) rfl ?_
      refine wm_iload 6 224 (by decide +kernel) rfl rfl ?_
      refine wm_iadd 225 (by decide +kernel) rfl ?_
      refine wm_iload 6 227 (by decide +kernel) rfl rfl ?_
      obtain ⟨D37a, H⟩ := H
      refine' wm_dia (pcJ := 241) (fun kt kf => wm_if_ne 230 240 (by decide +kernel : decode cX8_layOut 227 = .ok (.ifCond .ne 13, 3)) (by decide) rfl kf kt) ?D37k (fun kj c1 => ?D37t) (fun kj c1 => ?D37f)
      case D37t =>
        have H := D37a c1
        refine wm_aload_n 0 231 (by decide +kernel) rfl rfl ?_
        refine wm_getr 8 5 3 120 234 fl_RX8_16 (by decide +kernel) rfl (by decide +kernel) rfl rfl (by decide) ?_
        refine wm_iload 5 236 (by decide +kernel) rfl rfl ?_
        have o36 := H
        refine wm_iald 6 237 (by decide +kernel) rfl (by decide +kernel) (by decide +kernel) o36 ?_
        refine wm_goto 241 (by decide +kernel : decode cX8_layOut 237 = .ok (.goto 4, 3)) (by decide) ?_
        exact kj
      case D37f =>
        refine wm_iconst 0 241 (by decide +kernel : decode cX8_layOut 240 = .ok (.iconst 0, 1)) rfl (by decide +kernel) ?_
        exact kj
      case D37k =>
        obtain ⟨o38, H⟩ := H
        replace H := H _ rfl
        refine wm_iast 150 242 (by decide +kernel) rfl (by decide +kernel) (by decide +kernel) o38 ?_
        refine wm_aload_n 0 243 (by decide +kernel) rfl rfl ?_
        refine wm_getr 8 14 11 128 246 fl_RX8_40 (by decide +kernel) rfl (by decide +kernel) rfl rfl (by decide) ?_
        refine wm_bipush 25 248 (by decide +kernel : decode cX8_layOut 246 = .ok (.bipush 25, 2)) rfl (by decide +kernel) ?_
        refine wm_iload 5 250 (by decide +kernel) rfl rfl ?_
        refine wm_imul 251 (by decide +kernel) rfl ?_
        refine wm_iload 6 253 (by decide +kernel) rfl rfl ?_
        refine wm_iadd 254 (by decide +kernel) rfl ?_
        refine wm_iconst 0 255 (by decide +kernel : decode cX8_layOut 254 = .ok (.iconst 0, 1)) rfl (by decide +kernel) ?_
        obtain ⟨o40, H⟩ := H
        replace H := H _ rfl
        refine wm_iast 150 256 (by decide +kernel) rfl (by decide +kernel) (by decide +kernel) o40 ?_
        refine wm_aload_n 0 257 (by decide +kernel) rfl rfl ?_
        refine wm_getr 8 15 12 129 260 fl_RX8_43 (by decide +kernel) rfl (by decide +kernel) rfl rfl (by decide) ?_
        refine wm_bipush 25 262 (by decide +kernel : decode cX8_layOut 260 = .ok (.bipush 25, 2)) rfl (by decide +kernel) ?_
        refine wm_iload 5 264 (by decide +kernel) rfl rfl ?_
        refine wm_imul 265 (by decide +kernel) rfl ?_
        refine wm_iload 6 267 (by decide +kernel) rfl rfl ?_
        refine wm_iadd 268 (by decide +kernel) rfl ?_
        refine wm_iconst 0 269 (by decide +kernel : decode cX8_layOut 268 = .ok (.iconst 0, 1)) rfl (by decide +kernel) ?_
        obtain ⟨o42, H⟩ := H
        replace H := H _ rfl
        refine wm_iast 150 270 (by decide +kernel) rfl (by decide +kernel) (by decide +kernel) o42 ?_
        replace H := H _ rfl
        refine wm_iinc 6 (_ + 1) 273 [some _, none, none, none, none, some _, some _, none] (by decide +kernel : decode cX8_layOut 270 = .ok (.iinc 6 1, 3)) rfl (by decide +kernel) rfl (ofI_eq (by decide +kernel)) (okS_spec rfl) rfl ?_
        refine wm_goto 180 (by decide +kernel : decode cX8_layOut 273 = .ok (.goto (-93), 3)) (by decide) ?_
        exact ih _ _ H
set_option maxRecDepth 20000 in
theorem l_X8_layOut_L168 (g : GE)   (k282 : HP → Prop) (Q : HP → Prop) (hk282 : ∀  (h : HP), k282  h → Wm g mX8_layOut 282 [some (.ref 117), none, none, none, none, none, none, none] [] h (qv Q)) : ∀ (n : Nat) (x5 : Int32) (h : HP), f_X8_layOut_L168 k282 Q n x5 h → Wm g mX8_layOut 168 [some (.ref 117), none, none, none, none, some (.int x5), none, none] [] h (qv Q) := by
  intro n
  induction n with
  | zero => intro x5 h H; exact H.elim
  | succ n ih =>
    intro x5 h H
    unfold f_X8_layOut_L168 at H
    refine wm_iload 5 170 (by decide +kernel) rfl rfl ?_
    refine wm_aload_n 0 171 (by decide +kernel) rfl rfl ?_
    refine wm_geti 8 3 174 fl_RX8_97 (by decide +kernel) rfl (by decide +kernel) rfl ?_
    refine wm_icmp_ge 177 282 (by decide +kernel : decode cX8_layOut 174 = .ok (.if_icmp .ge 108, 3)) (by decide) rfl (fun c29 => ?_) (fun c29 => ?_)
    · replace H := H.1 c29
      refine wm_mask [true, false, false, false, false, false, false, false] [some _, none, none, none, none, none, none, none] rfl ?_
      exact hk282 _ H
    · replace H := H.2 c29
      refine wm_iconst 0 178 (by decide +kernel : decode cX8_layOut 177 = .ok (.iconst 0, 1)) rfl (by decide +kernel) ?_
      refine wm_istore 6 180 [some _, none, none, none, none, some _, some _, none] (by decide +kernel) rfl (by decide +kernel) (okS_spec rfl) rfl ?_
      obtain ⟨n47, H⟩ := H
      refine l_X8_layOut_L180 g _ _ _ (fun h45 H => ?_) _ _ _ H
      · skip
        replace H := H _ rfl
        refine wm_iinc 5 (_ + 1) 279 [some _, none, none, none, none, some _, none, none] (by decide +kernel : decode cX8_layOut 276 = .ok (.iinc 5 1, 3)) rfl (by decide +kernel) rfl (ofI_eq (by decide +kernel)) (okS_spec rfl) rfl ?_
        refine wm_goto 168 (by decide +kernel : decode cX8_layOut 279 = .ok (.goto (-111), 3)) (by decide) ?_
        exact ih _ _ H
set_option maxRecDepth 20000 in
theorem l_X8_layOut_L297 (g : GE) (x5 : Int32)  (k352 : HP → Prop) (Q : HP → Prop) (hk352 : ∀  (h : HP), k352  h → Wm g mX8_layOut 352 [some (.ref 117), none, none, none, none, some (.int x5), none, none] [] h (qv Q)) : ∀ (n : Nat) (x6 : Int32) (h : HP), f_X8_layOut_L297 x5 k352 Q n x6 h → Wm g mX8_layOut 297 [some (.ref 117), none, none, none, none, some (.int x5), some (.int x6), none] [] h (qv Q) := by
  intro n
  induction n with
  | zero => intro x6 h H; exact H.elim
  | succ n ih =>
    intro x6 h H
    unfold f_X8_layOut_L297 at H
    refine wm_iload 6 299 (by decide +kernel) rfl rfl ?_
    refine wm_bipush 16 301 (by decide +kernel : decode cX8_layOut 299 = .ok (.bipush 16, 2)) rfl (by decide +kernel) ?_
    refine wm_icmp_ge 304 352 (by decide +kernel : decode cX8_layOut 301 = .ok (.if_icmp .ge 51, 3)) (by decide) rfl (fun c50 => ?_) (fun c50 => ?_)
    · replace H := H.1 c50
      refine wm_mask [true, false, false, false, false, true, false, false] [some _, none, none, none, none, some _, none, none] rfl ?_
      exact hk352 _ H
    · replace H := H.2 c50
      refine wm_aload_n 0 305 (by decide +kernel) rfl rfl ?_
      refine wm_getr 8 13 10 127 308 fl_RX8_37 (by decide +kernel) rfl (by decide +kernel) rfl rfl (by decide) ?_
      refine wm_bipush 25 310 (by decide +kernel : decode cX8_layOut 308 = .ok (.bipush 25, 2)) rfl (by decide +kernel) ?_
      refine wm_aload_n 0 311 (by decide +kernel) rfl rfl ?_
      refine wm_iload 5 313 (by decide +kernel) rfl rfl ?_
      refine wm_iconst 2 314 (by decide +kernel : decode cX8_layOut 313 = .ok (.iconst 2, 1)) rfl (by decide +kernel) ?_
      refine wm_callVi mX8_at 2 8 [_, _] [_, _] _ _ 317 mo_X8_at np_X8_at ml_RX8_109 im_X8_at se_X8_at (by decide +kernel) (by decide +kernel) rfl rfl rfl (Nat.le_of_ble_eq_true rfl) (by decide +kernel) rfl (Nat.le_of_ble_eq_true rfl) _ (ent_pad 0 rfl) (l_X8_at g _ _ _ _ H) (fun v52 h51 H hzv52 => ?_)
      refine wm_imul 318 (by decide +kernel) rfl ?_
      refine wm_iload 6 320 (by decide +kernel) rfl rfl ?_
      refine wm_iadd 321 (by decide +kernel) rfl ?_
      refine wm_dup2 322 (by decide +kernel) rfl rfl rfl ?_
      obtain ⟨o53, H⟩ := H
      refine wm_iald 150 323 (by decide +kernel) rfl (by decide +kernel) (by decide +kernel) o53 ?_
      refine wm_aload_n 0 324 (by decide +kernel) rfl rfl ?_
      refine wm_getr 8 10 7 124 327 fl_RX8_28 (by decide +kernel) rfl (by decide +kernel) rfl rfl (by decide) ?_
      refine wm_bipush 16 329 (by decide +kernel : decode cX8_layOut 327 = .ok (.bipush 16, 2)) rfl (by decide +kernel) ?_
      refine wm_iload 5 331 (by decide +kernel) rfl rfl ?_
      refine wm_imul 332 (by decide +kernel) rfl ?_
      refine wm_aload_n 0 333 (by decide +kernel) rfl rfl ?_
      refine wm_geti 8 1 336 fl_RX8_154 (by decide +kernel) rfl (by decide +kernel) rfl ?_
      refine wm_iload 6 338 (by decide +kernel) rfl rfl ?_
      refine wm_iadd 339 (by decide +kernel) rfl ?_
      refine wm_bipush 16 341 (by decide +kernel : decode cX8_layOut 339 = .ok (.bipush 16, 2)) rfl (by decide +kernel) ?_
      refine wm_irem 342 (by decide +kernel) rfl (by decide +kernel) ?_
      refine wm_iadd 343 (by decide +kernel) rfl ?_
      obtain ⟨o54, H⟩ := H
      refine wm_iald 160 344 (by decide +kernel) rfl (by decide +kernel) (by decide +kernel) o54 ?_
      refine wm_iadd 345 (by decide +kernel) rfl ?_
      obtain ⟨o55, H⟩ := H
      replace H := H _ rfl
      refine wm_iast 150 346 (by decide +kernel) rfl (by decide +kernel) (by decide +kernel) o55 ?_
      replace H := H _ rfl
      refine wm_iinc 6 (_ + 1) 349 [some _, none, none, none, none, some _, some _, none] (by decide +kernel : decode cX8_layOut 346 = .ok (.iinc 6 1, 3)) rfl (by decide +kernel) rfl (ofI_eq (by decide +kernel)) (okS_spec rfl) rfl ?_
      refine wm_goto 297 (by decide +kernel : decode cX8_layOut 349 = .ok (.goto (-52), 3)) (by decide) ?_
      exact ih _ _ H
set_option maxRecDepth 20000 in
theorem l_X8_layOut_L285 (g : GE)    (Q : HP → Prop)  : ∀ (n : Nat) (x5 : Int32) (h : HP), f_X8_layOut_L285 Q n x5 h → Wm g mX8_layOut 285 [some (.ref 117), none, none, none, none, some (.int x5), none, none] [] h (qv Q) := by
  intro n
  induction n with
  | zero => intro x5 h H; exact H.elim
  | succ n ih =>
    intro x5 h H
    unfold f_X8_layOut_L285 at H
    refine wm_iload 5 287 (by decide +kernel) rfl rfl ?_
    refine wm_aload_n 0 288 (by decide +kernel) rfl rfl ?_
    refine wm_geti 8 7 291 fl_RX8_105 (by decide +kernel) rfl (by decide +kernel) rfl ?_
    refine wm_icmp_ge 294 358 (by decide +kernel : decode cX8_layOut 291 = .ok (.if_icmp .ge 67, 3)) (by decide) rfl (fun c49 => ?_) (fun c49 => ?_)
    · replace H := H.1 c49
      exact wm_vret (by decide +kernel) rfl H
    · replace H := H.2 c49
      refine wm_iconst 1 295 (by decide +kernel : decode cX8_layOut 294 = .ok (.iconst 1, 1)) rfl (by decide +kernel) ?_
      refine wm_istore 6 297 [some _, none, none, none, none, some _, some _, none] (by decide +kernel) rfl (by decide +kernel) (okS_spec rfl) rfl ?_
      obtain ⟨n60, H⟩ := H
      refine l_X8_layOut_L297 g _ _ _ (fun h58 H => ?_) _ _ _ H
      · skip
        replace H := H _ rfl
        refine wm_iinc 5 (_ + 1) 355 [some _, none, none, none, none, some _, none, none] (by decide +kernel : decode cX8_layOut 352 = .ok (.iinc 5 1, 3)) rfl (by decide +kernel) rfl (ofI_eq (by decide +kernel)) (okS_spec rfl) rfl ?_
        refine wm_goto 285 (by decide +kernel : decode cX8_layOut 355 = .ok (.goto (-70), 3)) (by decide) ?_
        exact ih _ _ H
set_option maxRecDepth 20000 in
theorem l_X8_layOut (g : GE) (x1 : Int32) (x2 : Int32) (x3 : Int32) (x4 : Int32)  (h : HP) (Q : HP → Prop) (H : f_X8_layOut x1 x2 x3 x4 h Q) : Wm g mX8_layOut 0 [some (.ref 117), some (.int x1), some (.int x2), some (.int x3), some (.int x4), none, none, none] [] h (qv Q) := by
  unfold f_X8_layOut at H
  refine wm_iconst 0 1 (by decide +kernel : decode cX8_layOut 0 = .ok (.iconst 0, 1)) rfl (by decide +kernel) ?_
  refine wm_istore 5 3 [some _, some _, some _, some _, some _, some _, none, none] (by decide +kernel) rfl (by decide +kernel) (okS_spec rfl) rfl ?_
  obtain ⟨n63, H⟩ := H
  refine l_X8_layOut_L3 g _ _ _ _ _ _ (fun h28 H => ?_) _ _ _ H
  · skip
    refine wm_iconst 0 166 (by decide +kernel : decode cX8_layOut 165 = .ok (.iconst 0, 1)) rfl (by decide +kernel) ?_
    refine wm_istore 5 168 [some _, none, none, none, none, some _, none, none] (by decide +kernel) rfl (by decide +kernel) (okS_spec rfl) rfl ?_
    obtain ⟨n62, H⟩ := H
    refine l_X8_layOut_L168 g _ _ (fun h48 H => ?_) _ _ _ H
    · skip
      refine wm_iconst 0 283 (by decide +kernel : decode cX8_layOut 282 = .ok (.iconst 0, 1)) rfl (by decide +kernel) ?_
      refine wm_istore 5 285 [some _, none, none, none, none, some _, none, none] (by decide +kernel) rfl (by decide +kernel) (okS_spec rfl) rfl ?_
      obtain ⟨n61, H⟩ := H
      refine l_X8_layOut_L285 g _  _ _ _ H
def f_X8_meets (x1 : Int32) (x2 : Int32) (h : HP) (Q : HP → Prop) : Prop :=
  vp_in x1 150 ∧
  ((((gi h 132 (ix x1)) = 0) →
    vp_in x1 150 ∧
    ∀ h4 : HP, h4 = si h 132 (ix x1) x2 →
    vp_in (gi h4 117 20) 150 ∧
    ∀ h6 : HP, h6 = si h4 133 (ix (gi h4 117 20)) x1 →
    ∀ h7 : HP, h7 = si h6 117 20 ((gi h6 117 20) + 1) →
    Q h7) ∧
   (¬ ((gi h 132 (ix x1)) = 0) →
    Q h))
set_option maxRecDepth 20000 in
theorem l_X8_meets (g : GE) (x1 : Int32) (x2 : Int32)  (h : HP) (Q : HP → Prop) (H : f_X8_meets x1 x2 h Q) : Wm g mX8_meets 0 [some (.ref 117), some (.int x1), some (.int x2)] [] h (qv Q) := by
  unfold f_X8_meets at H
  refine wm_aload_n 0 1 (by decide +kernel) rfl rfl ?_
  refine wm_getr 8 18 15 132 4 fl_RX8_52 (by decide +kernel) rfl (by decide +kernel) rfl rfl (by decide) ?_
  refine wm_iload_n 1 5 (by decide +kernel) rfl rfl ?_
  obtain ⟨o1, H⟩ := H
  refine wm_iald 150 6 (by decide +kernel) rfl (by decide +kernel) (by decide +kernel) o1 ?_
  refine wm_if_ne 9 36 (by decide +kernel : decode cX8_meets 6 = .ok (.ifCond .ne 30, 3)) (by decide) rfl (fun c2 => ?_) (fun c2 => ?_)
  · replace H := H.2 c2
    exact wm_vret (by decide +kernel) rfl H
  · replace H := H.1 c2
    refine wm_aload_n 0 10 (by decide +kernel) rfl rfl ?_
    refine wm_getr 8 18 15 132 13 fl_RX8_52 (by decide +kernel) rfl (by decide +kernel) rfl rfl (by decide) ?_
    refine wm_iload_n 1 14 (by decide +kernel) rfl rfl ?_
    refine wm_iload_n 2 15 (by decide +kernel) rfl rfl ?_
    obtain ⟨o3, H⟩ := H
    replace H := H _ rfl
    refine wm_iast 150 16 (by decide +kernel) rfl (by decide +kernel) (by decide +kernel) o3 ?_
    refine wm_aload_n 0 17 (by decide +kernel) rfl rfl ?_
    refine wm_getr 8 19 16 133 20 fl_RX8_55 (by decide +kernel) rfl (by decide +kernel) rfl rfl (by decide) ?_
    refine wm_aload_n 0 21 (by decide +kernel) rfl rfl ?_
    refine wm_geti 8 20 24 fl_RX8_211 (by decide +kernel) rfl (by decide +kernel) rfl ?_
    refine wm_iload_n 1 25 (by decide +kernel) rfl rfl ?_
    obtain ⟨o5, H⟩ := H
    replace H := H _ rfl
    refine wm_iast 150 26 (by decide +kernel) rfl (by decide +kernel) (by decide +kernel) o5 ?_
    refine wm_aload_n 0 27 (by decide +kernel) rfl rfl ?_
    refine wm_dup 28 (by decide +kernel) rfl rfl ?_
    refine wm_geti 8 20 31 fl_RX8_211 (by decide +kernel) rfl (by decide +kernel) rfl ?_
    refine wm_iconst 1 32 (by decide +kernel : decode cX8_meets 31 = .ok (.iconst 1, 1)) rfl (by decide +kernel) ?_
    refine wm_iadd 33 (by decide +kernel) rfl ?_
    replace H := H _ rfl
    refine wm_puti 8 20 36 fl_RX8_211 (by decide +kernel) rfl (by decide +kernel) rfl rfl ⟨rfl, rfl⟩ ?_
    exact wm_vret (by decide +kernel) rfl H
def f_X8_spreads_L15 (x1 : Int32) (x2 : Int32) (x3 : Int32) (x4 : Int32) (x5 : Int32) (k130 : HP → Prop) (Q : Int32 → HP → Prop) : Nat → Int32 → HP → Prop
  | 0, _, _ => False
  | n + 1, x6, h =>
    ((((gi h 117 7) ≤ x6) →
      k130 h) ∧
     (¬ ((gi h 117 7) ≤ x6) →
      vp_in x6 10 ∧
      ∀ x7_5 : Int32, x7_5 = (x5 + (gi h 131 (ix x6))) →
      f_X8_at x6 1 h (fun v7 h6 =>
      (((v7 = x4) →
        (((x3 < x7_5) →
          ∀ x6_11 : Int32, x6_11 = (x6 + 1) →
          f_X8_spreads_L15 x1 x2 x3 x4 x5 k130 Q n x6_11 h6) ∧
         (¬ (x3 < x7_5) →
          vp_in ((25 * x6) + x5) 250 ∧
          vp_in ((25 * x6) + x5) 250 ∧
          ((((gi h6 125 (ix ((25 * x6) + x5))) ≤ (gi h6 130 (ix ((25 * x6) + x5)))) →
            ∀ x6_15 : Int32, x6_15 = (x6 + 1) →
            f_X8_spreads_L15 x1 x2 x3 x4 x5 k130 Q n x6_15 h6) ∧
           (¬ ((gi h6 125 (ix ((25 * x6) + x5))) ≤ (gi h6 130 (ix ((25 * x6) + x5)))) →
            f_X8_at x6 2 h6 (fun v17 h16 =>
            (((v17 = x2) →
              Q ((10 * x1) + x6) h16) ∧
             (¬ (v17 = x2) →
              f_X8_at x6 2 h16 (fun v20 h19 =>
              f_X8_meets ((25 * v20) + x7_5) (10 + x6) h19 (fun h21 =>
              ∀ x6_22 : Int32, x6_22 = (x6 + 1) →
              f_X8_spreads_L15 x1 x2 x3 x4 x5 k130 Q n x6_22 h21)))))))))) ∧
       (¬ (v7 = x4) →
        ∀ x6_9 : Int32, x6_9 = (x6 + 1) →
        f_X8_spreads_L15 x1 x2 x3 x4 x5 k130 Q n x6_9 h6)))))
def f_X8_spreads_L186 (x2 : Int32) (x4 : Int32) (x5 : Int32)  (Q : Int32 → HP → Prop) : Nat → Int32 → HP → Prop
  | 0, _, _ => False
  | n + 1, x6, h =>
    ((((gi h 117 7) ≤ x6) →
      Q (-1 : Int32) h) ∧
     (¬ ((gi h 117 7) ≤ x6) →
      vp_in x6 10 ∧
      ∀ x7_28 : Int32, x7_28 = (x5 - (gi h 131 (ix x6))) →
      f_X8_at x6 2 h (fun v30 h29 =>
      (((v30 = x4) →
        (((x7_28 < 0) →
          ∀ x6_34 : Int32, x6_34 = (x6 + 1) →
          f_X8_spreads_L186 x2 x4 x5 Q n x6_34 h29) ∧
         (¬ (x7_28 < 0) →
          f_X8_at x6 1 h29 (fun v36 h35 =>
          (((v36 = x2) →
            ∀ x6_38 : Int32, x6_38 = (x6 + 1) →
            f_X8_spreads_L186 x2 x4 x5 Q n x6_38 h35) ∧
           (¬ (v36 = x2) →
            vp_in ((25 * x6) + x7_28) 250 ∧
            ((((gi h35 130 (ix ((25 * x6) + x7_28))) ≤ 0) →
              ∀ x6_41 : Int32, x6_41 = (x6 + 1) →
              f_X8_spreads_L186 x2 x4 x5 Q n x6_41 h35) ∧
             (¬ ((gi h35 130 (ix ((25 * x6) + x7_28))) ≤ 0) →
              f_X8_at x6 1 h35 (fun v43 h42 =>
              f_X8_meets ((25 * v43) + x7_28) (30 + x6) h42 (fun h44 =>
              ∀ x6_45 : Int32, x6_45 = (x6 + 1) →
              f_X8_spreads_L186 x2 x4 x5 Q n x6_45 h44)))))))))) ∧
       (¬ (v30 = x4) →
        ∀ x6_32 : Int32, x6_32 = (x6 + 1) →
        f_X8_spreads_L186 x2 x4 x5 Q n x6_32 h29)))))
def f_X8_spreads_J159 (x1 : Int32) (x2 : Int32) (x4 : Int32) (x5 : Int32)  (Q : Int32 → HP → Prop) (h : HP) : Prop :=
  (((x5 ≤ 0) →
    ∃ n46, f_X8_spreads_L186 x2 x4 x5
      Q n46 0 h) ∧
   (¬ (x5 ≤ 0) →
    vp_in (x1 - 1) 150 ∧
    ((((gi h 129 (ix (x1 - 1))) ≤ 0) →
      ∃ n49, f_X8_spreads_L186 x2 x4 x5
        Q n49 0 h) ∧
     (¬ ((gi h 129 (ix (x1 - 1))) ≤ 0) →
      f_X8_meets (x1 - 1) 3 h (fun h50 =>
      ∃ n51, f_X8_spreads_L186 x2 x4 x5
        Q n51 0 h50)))))
def f_X8_spreads (x1 : Int32) (x2 : Int32) (x3 : Int32) (h : HP) (Q : Int32 → HP → Prop) : Prop :=
  ∀ x4_1 : Int32, x4_1 = (x1 / 25) →
  ∀ x5_2 : Int32, x5_2 = (x1 - x1 / 25 * 25) →
  ∃ n56, f_X8_spreads_L15 x1 x2 x3 x4_1 x5_2
    (fun h23 =>
      (((x3 ≤ x5_2) →
        f_X8_spreads_J159 x1 x2 x4_1 x5_2  Q h23) ∧
       (¬ (x3 ≤ x5_2) →
        vp_in x1 150 ∧
        vp_in x1 150 ∧
        ((((gi h23 126 (ix x1)) ≤ (gi h23 129 (ix x1))) →
          f_X8_spreads_J159 x1 x2 x4_1 x5_2  Q h23) ∧
         (¬ ((gi h23 126 (ix x1)) ≤ (gi h23 129 (ix x1))) →
          f_X8_meets (x1 + 1) 2 h23 (fun h55 =>
          f_X8_spreads_J159 x1 x2 x4_1 x5_2  Q h55))))))
    Q n56 0 h
set_option maxRecDepth 20000 in
theorem l_X8_spreads_L15 (g : GE) (x1 : Int32) (x2 : Int32) (x3 : Int32) (x4 : Int32) (x5 : Int32)  (k130 : HP → Prop) (Q : Int32 → HP → Prop) (hk130 : ∀  (h : HP), k130  h → Wm g mX8_spreads 130 [some (.ref 117), some (.int x1), some (.int x2), some (.int x3), some (.int x4), some (.int x5), none, none] [] h (qi Q)) : ∀ (n : Nat) (x6 : Int32) (h : HP), f_X8_spreads_L15 x1 x2 x3 x4 x5 k130 Q n x6 h → Wm g mX8_spreads 15 [some (.ref 117), some (.int x1), some (.int x2), some (.int x3), some (.int x4), some (.int x5), some (.int x6), none] [] h (qi Q) := by
  intro n
  induction n with
  | zero => intro x6 h H; exact H.elim
  | succ n ih =>
    intro x6 h H
    unfold f_X8_spreads_L15 at H
    refine wm_iload 6 17 (by decide +kernel) rfl rfl ?_
    refine wm_aload_n 0 18 (by decide +kernel) rfl rfl ?_
    refine wm_geti 8 7 21 fl_RX8_105 (by decide +kernel) rfl (by decide +kernel) rfl ?_
    refine wm_icmp_ge 24 130 (by decide +kernel : decode cX8_spreads 21 = .ok (.if_icmp .ge 109, 3)) (by decide) rfl (fun c3 => ?_) (fun c3 => ?_)
    · replace H := H.1 c3
      refine wm_mask [true, true, true, true, true, true, false, false] [some _, some _, some _, some _, some _, some _, none, none] rfl ?_
      exact hk130 _ H
    · replace H := H.2 c3
      refine wm_iload 5 26 (by decide +kernel) rfl rfl ?_
      refine wm_aload_n 0 27 (by decide +kernel) rfl rfl ?_
      refine wm_getr 8 17 14 131 30 fl_RX8_49 (by decide +kernel) rfl (by decide +kernel) rfl rfl (by decide) ?_
      refine wm_iload 6 32 (by decide +kernel) rfl rfl ?_
      obtain ⟨o4, H⟩ := H
      refine wm_iald 10 33 (by decide +kernel) rfl (by decide +kernel) (by decide +kernel) o4 ?_
      refine wm_iadd 34 (by decide +kernel) rfl ?_
      replace H := H _ rfl
      refine wm_istore 7 36 [some _, some _, some _, some _, some _, some _, some _, some _] (by decide +kernel) rfl (by decide +kernel) (okS_spec rfl) rfl ?_
      refine wm_aload_n 0 37 (by decide +kernel) rfl rfl ?_
      refine wm_iload 6 39 (by decide +kernel) rfl rfl ?_
      refine wm_iconst 1 40 (by decide +kernel : decode cX8_spreads 39 = .ok (.iconst 1, 1)) rfl (by decide +kernel) ?_
      refine wm_callVi mX8_at 2 8 [_, _] [] _ _ 43 mo_X8_at np_X8_at ml_RX8_109 im_X8_at se_X8_at (by decide +kernel) (by decide +kernel) rfl rfl rfl (Nat.le_of_ble_eq_true rfl) (by decide +kernel) rfl (Nat.le_of_ble_eq_true rfl) _ (ent_pad 0 rfl) (l_X8_at g _ _ _ _ H) (fun v7 h6 H hzv7 => ?_)
      refine wm_iload 4 45 (by decide +kernel) rfl rfl ?_
      refine wm_icmp_ne 48 124 (by decide +kernel : decode cX8_spreads 45 = .ok (.if_icmp .ne 79, 3)) (by decide) rfl (fun c8 => ?_) (fun c8 => ?_)
      · replace H := H.2 c8
        replace H := H _ rfl
        refine wm_iinc 6 (_ + 1) 127 [some _, some _, some _, some _, some _, some _, some _, some _] (by decide +kernel : decode cX8_spreads 124 = .ok (.iinc 6 1, 3)) rfl (by decide +kernel) rfl (ofI_eq (by decide +kernel)) (okS_spec rfl) rfl ?_
        refine wm_goto 15 (by decide +kernel : decode cX8_spreads 127 = .ok (.goto (-112), 3)) (by decide) ?_
        refine wm_mask [true, true, true, true, true, true, true, false] [some _, some _, some _, some _, some _, some _, some _, none] rfl ?_
        exact ih _ _ H
      · replace H := H.1 c8
        refine wm_iload 7 50 (by decide +kernel) rfl rfl ?_
        refine wm_iload_n 3 51 (by decide +kernel) rfl rfl ?_
        refine wm_icmp_gt 54 124 (by decide +kernel : decode cX8_spreads 51 = .ok (.if_icmp .gt 73, 3)) (by decide) rfl (fun c10 => ?_) (fun c10 => ?_)
        · replace H := H.1 c10
          replace H := H _ rfl
          refine wm_iinc 6 (_ + 1) 127 [some _, some _, some _, some _, some _, some _, some _, some _] (by decide +kernel : decode cX8_spreads 124 = .ok (.iinc 6 1, 3)) rfl (by decide +kernel) rfl (ofI_eq (by decide +kernel)) (okS_spec rfl) rfl ?_
          refine wm_goto 15 (by decide +kernel : decode cX8_spreads 127 = .ok (.goto (-112), 3)) (by decide) ?_
          refine wm_mask [true, true, true, true, true, true, true, false] [some _, some _, some _, some _, some _, some _, some _, none] rfl ?_
          exact ih _ _ H
        · replace H := H.2 c10
          refine wm_aload_n 0 55 (by decide +kernel) rfl rfl ?_
          refine wm_getr 8 16 13 130 58 fl_RX8_46 (by decide +kernel) rfl (by decide +kernel) rfl rfl (by decide) ?_
          refine wm_bipush 25 60 (by decide +kernel : decode cX8_spreads 58 = .ok (.bipush 25, 2)) rfl (by decide +kernel) ?_
          refine wm_iload 6 62 (by decide +kernel) rfl rfl ?_
          refine wm_imul 63 (by decide +kernel) rfl ?_
          refine wm_iload 5 65 (by decide +kernel) rfl rfl ?_
          refine wm_iadd 66 (by decide +kernel) rfl ?_
          obtain ⟨o12, H⟩ := H
          refine wm_iald 250 67 (by decide +kernel) rfl (by decide +kernel) (by decide +kernel) o12 ?_
          refine wm_aload_n 0 68 (by decide +kernel) rfl rfl ?_
          refine wm_getr 8 11 8 125 71 fl_RX8_31 (by decide +kernel) rfl (by decide +kernel) rfl rfl (by decide) ?_
          refine wm_bipush 25 73 (by decide +kernel : decode cX8_spreads 71 = .ok (.bipush 25, 2)) rfl (by decide +kernel) ?_
          refine wm_iload 6 75 (by decide +kernel) rfl rfl ?_
          refine wm_imul 76 (by decide +kernel) rfl ?_
          refine wm_iload 5 78 (by decide +kernel) rfl rfl ?_
          refine wm_iadd 79 (by decide +kernel) rfl ?_
          obtain ⟨o13, H⟩ := H
          refine wm_iald 250 80 (by decide +kernel) rfl (by decide +kernel) (by decide +kernel) o13 ?_
          refine wm_icmp_ge 83 124 (by decide +kernel : decode cX8_spreads 80 = .ok (.if_icmp .ge 44, 3)) (by decide) rfl (fun c14 => ?_) (fun c14 => ?_)
          · replace H := H.1 c14
            replace H := H _ rfl
            refine wm_iinc 6 (_ + 1) 127 [some _, some _, some _, some _, some _, some _, some _, some _] (by decide +kernel : decode cX8_spreads 124 = .ok (.iinc 6 1, 3)) rfl (by decide +kernel) rfl (ofI_eq (by decide +kernel)) (okS_spec rfl) rfl ?_
            refine wm_goto 15 (by decide +kernel : decode cX8_spreads 127 = .ok (.goto (-112), 3)) (by decide) ?_
            refine wm_mask [true, true, true, true, true, true, true, false] [some _, some _, some _, some _, some _, some _, some _, none] rfl ?_
            exact ih _ _ H
          · replace H := H.2 c14
            refine wm_aload_n 0 84 (by decide +kernel) rfl rfl ?_
            refine wm_iload 6 86 (by decide +kernel) rfl rfl ?_
            refine wm_iconst 2 87 (by decide +kernel : decode cX8_spreads 86 = .ok (.iconst 2, 1)) rfl (by decide +kernel) ?_
            refine wm_callVi mX8_at 2 8 [_, _] [] _ _ 90 mo_X8_at np_X8_at ml_RX8_109 im_X8_at se_X8_at (by decide +kernel) (by decide +kernel) rfl rfl rfl (Nat.le_of_ble_eq_true rfl) (by decide +kernel) rfl (Nat.le_of_ble_eq_true rfl) _ (ent_pad 0 rfl) (l_X8_at g _ _ _ _ H) (fun v17 h16 H hzv17 => ?_)
            refine wm_iload_n 2 91 (by decide +kernel) rfl rfl ?_
            refine wm_icmp_ne 94 102 (by decide +kernel : decode cX8_spreads 91 = .ok (.if_icmp .ne 11, 3)) (by decide) rfl (fun c18 => ?_) (fun c18 => ?_)
            · replace H := H.2 c18
              refine wm_aload_n 0 103 (by decide +kernel) rfl rfl ?_
              refine wm_bipush 25 105 (by decide +kernel : decode cX8_spreads 103 = .ok (.bipush 25, 2)) rfl (by decide +kernel) ?_
              refine wm_aload_n 0 106 (by decide +kernel) rfl rfl ?_
              refine wm_iload 6 108 (by decide +kernel) rfl rfl ?_
              refine wm_iconst 2 109 (by decide +kernel : decode cX8_spreads 108 = .ok (.iconst 2, 1)) rfl (by decide +kernel) ?_
              refine wm_callVi mX8_at 2 8 [_, _] [_, _] _ _ 112 mo_X8_at np_X8_at ml_RX8_109 im_X8_at se_X8_at (by decide +kernel) (by decide +kernel) rfl rfl rfl (Nat.le_of_ble_eq_true rfl) (by decide +kernel) rfl (Nat.le_of_ble_eq_true rfl) _ (ent_pad 0 rfl) (l_X8_at g _ _ _ _ H) (fun v20 h19 H hzv20 => ?_)
              refine wm_imul 113 (by decide +kernel) rfl ?_
              refine wm_iload 7 115 (by decide +kernel) rfl rfl ?_
              refine wm_iadd 116 (by decide +kernel) rfl ?_
              refine wm_bipush 10 118 (by decide +kernel : decode cX8_spreads 116 = .ok (.bipush 10, 2)) rfl (by decide +kernel) ?_
              refine wm_iload 6 120 (by decide +kernel) rfl rfl ?_
              refine wm_iadd 121 (by decide +kernel) rfl ?_
              refine wm_callVv mX8_meets 2 8 [_, _] [] _ _ 124 mo_X8_meets np_X8_meets ml_RX8_214 im_X8_meets se_X8_meets (by decide +kernel) (by decide +kernel) rfl rfl rfl (Nat.le_of_ble_eq_true rfl) (by decide +kernel) rfl (Nat.le_of_ble_eq_true rfl) _ (ent_pad 0 rfl) (l_X8_meets g _ _ _ _ H) (fun h21 H => ?_)
              replace H := H _ rfl
              refine wm_iinc 6 (_ + 1) 127 [some _, some _, some _, some _, some _, some _, some _, some _] (by decide +kernel : decode cX8_spreads 124 = .ok (.iinc 6 1, 3)) rfl (by decide +kernel) rfl (ofI_eq (by decide +kernel)) (okS_spec rfl) rfl ?_
              refine wm_goto 15 (by decide +kernel : decode cX8_spreads 127 = .ok (.goto (-112), 3)) (by decide) ?_
              refine wm_mask [true, true, true, true, true, true, true, false] [some _, some _, some _, some _, some _, some _, some _, none] rfl ?_
              exact ih _ _ H
            · replace H := H.1 c18
              refine wm_bipush 10 96 (by decide +kernel : decode cX8_spreads 94 = .ok (.bipush 10, 2)) rfl (by decide +kernel) ?_
              refine wm_iload_n 1 97 (by decide +kernel) rfl rfl ?_
              refine wm_imul 98 (by decide +kernel) rfl ?_
              refine wm_iload 6 100 (by decide +kernel) rfl rfl ?_
              refine wm_iadd 101 (by decide +kernel) rfl ?_
              exact wm_iret (by decide +kernel) ⟨.int, rfl, rfl⟩ H
set_option maxRecDepth 20000 in
theorem l_X8_spreads_L186 (g : GE) (x2 : Int32) (x4 : Int32) (x5 : Int32)   (Q : Int32 → HP → Prop)  : ∀ (n : Nat) (x6 : Int32) (h : HP), f_X8_spreads_L186 x2 x4 x5 Q n x6 h → Wm g mX8_spreads 186 [some (.ref 117), none, some (.int x2), none, some (.int x4), some (.int x5), some (.int x6), none] [] h (qi Q) := by
  intro n
  induction n with
  | zero => intro x6 h H; exact H.elim
  | succ n ih =>
    intro x6 h H
    unfold f_X8_spreads_L186 at H
    refine wm_iload 6 188 (by decide +kernel) rfl rfl ?_
    refine wm_aload_n 0 189 (by decide +kernel) rfl rfl ?_
    refine wm_geti 8 7 192 fl_RX8_105 (by decide +kernel) rfl (by decide +kernel) rfl ?_
    refine wm_icmp_ge 195 279 (by decide +kernel : decode cX8_spreads 192 = .ok (.if_icmp .ge 87, 3)) (by decide) rfl (fun c26 => ?_) (fun c26 => ?_)
    · replace H := H.1 c26
      refine wm_iconst (-1) 280 (by decide +kernel : decode cX8_spreads 279 = .ok (.iconst (-1), 1)) rfl (by decide +kernel) ?_
      exact wm_iret (by decide +kernel) ⟨.int, rfl, rfl⟩ H
    · replace H := H.2 c26
      refine wm_iload 5 197 (by decide +kernel) rfl rfl ?_
      refine wm_aload_n 0 198 (by decide +kernel) rfl rfl ?_
      refine wm_getr 8 17 14 131 201 fl_RX8_49 (by decide +kernel) rfl (by decide +kernel) rfl rfl (by decide) ?_
      refine wm_iload 6 203 (by decide +kernel) rfl rfl ?_
      obtain ⟨o27, H⟩ := H
      refine wm_iald 10 204 (by decide +kernel) rfl (by decide +kernel) (by decide +kernel) o27 ?_
      refine wm_isub 205 (by decide +kernel) rfl ?_
      replace H := H _ rfl
      refine wm_istore 7 207 [some _, none, some _, none, some _, some _, some _, some _] (by decide +kernel) rfl (by decide +kernel) (okS_spec rfl) rfl ?_
      refine wm_aload_n 0 208 (by decide +kernel) rfl rfl ?_
      refine wm_iload 6 210 (by decide +kernel) rfl rfl ?_
      refine wm_iconst 2 211 (by decide +kernel : decode cX8_spreads 210 = .ok (.iconst 2, 1)) rfl (by decide +kernel) ?_
      refine wm_callVi mX8_at 2 8 [_, _] [] _ _ 214 mo_X8_at np_X8_at ml_RX8_109 im_X8_at se_X8_at (by decide +kernel) (by decide +kernel) rfl rfl rfl (Nat.le_of_ble_eq_true rfl) (by decide +kernel) rfl (Nat.le_of_ble_eq_true rfl) _ (ent_pad 0 rfl) (l_X8_at g _ _ _ _ H) (fun v30 h29 H hzv30 => ?_)
      refine wm_iload 4 216 (by decide +kernel) rfl rfl ?_
      refine wm_icmp_ne 219 273 (by decide +kernel : decode cX8_spreads 216 = .ok (.if_icmp .ne 57, 3)) (by decide) rfl (fun c31 => ?_) (fun c31 => ?_)
      · replace H := H.2 c31
        replace H := H _ rfl
        refine wm_iinc 6 (_ + 1) 276 [some _, none, some _, none, some _, some _, some _, some _] (by decide +kernel : decode cX8_spreads 273 = .ok (.iinc 6 1, 3)) rfl (by decide +kernel) rfl (ofI_eq (by decide +kernel)) (okS_spec rfl) rfl ?_
        refine wm_goto 186 (by decide +kernel : decode cX8_spreads 276 = .ok (.goto (-90), 3)) (by decide) ?_
        refine wm_mask [true, false, true, false, true, true, true, false] [some _, none, some _, none, some _, some _, some _, none] rfl ?_
        exact ih _ _ H
      · replace H := H.1 c31
        refine wm_iload 7 221 (by decide +kernel) rfl rfl ?_
        refine wm_if_lt 224 273 (by decide +kernel : decode cX8_spreads 221 = .ok (.ifCond .lt 52, 3)) (by decide) rfl (fun c33 => ?_) (fun c33 => ?_)
        · replace H := H.1 c33
          replace H := H _ rfl
          refine wm_iinc 6 (_ + 1) 276 [some _, none, some _, none, some _, some _, some _, some _] (by decide +kernel : decode cX8_spreads 273 = .ok (.iinc 6 1, 3)) rfl (by decide +kernel) rfl (ofI_eq (by decide +kernel)) (okS_spec rfl) rfl ?_
          refine wm_goto 186 (by decide +kernel : decode cX8_spreads 276 = .ok (.goto (-90), 3)) (by decide) ?_
          refine wm_mask [true, false, true, false, true, true, true, false] [some _, none, some _, none, some _, some _, some _, none] rfl ?_
          exact ih _ _ H
        · replace H := H.2 c33
          refine wm_aload_n 0 225 (by decide +kernel) rfl rfl ?_
          refine wm_iload 6 227 (by decide +kernel) rfl rfl ?_
          refine wm_iconst 1 228 (by decide +kernel : decode cX8_spreads 227 = .ok (.iconst 1, 1)) rfl (by decide +kernel) ?_
          refine wm_callVi mX8_at 2 8 [_, _] [] _ _ 231 mo_X8_at np_X8_at ml_RX8_109 im_X8_at se_X8_at (by decide +kernel) (by decide +kernel) rfl rfl rfl (Nat.le_of_ble_eq_true rfl) (by decide +kernel) rfl (Nat.le_of_ble_eq_true rfl) _ (ent_pad 0 rfl) (l_X8_at g _ _ _ _ H) (fun v36 h35 H hzv36 => ?_)
          refine wm_iload_n 2 232 (by decide +kernel) rfl rfl ?_
          refine wm_icmp_eq 235 273 (by decide +kernel : decode cX8_spreads 232 = .ok (.if_icmp .eq 41, 3)) (by decide) rfl (fun c37 => ?_) (fun c37 => ?_)
          · replace H := H.1 c37
            replace H := H _ rfl
            refine wm_iinc 6 (_ + 1) 276 [some _, none, some _, none, some _, some _, some _, some _] (by decide +kernel : decode cX8_spreads 273 = .ok (.iinc 6 1, 3)) rfl (by decide +kernel) rfl (ofI_eq (by decide +kernel)) (okS_spec rfl) rfl ?_
            refine wm_goto 186 (by decide +kernel : decode cX8_spreads 276 = .ok (.goto (-90), 3)) (by decide) ?_
            refine wm_mask [true, false, true, false, true, true, true, false] [some _, none, some _, none, some _, some _, some _, none] rfl ?_
            exact ih _ _ H
          · replace H := H.2 c37
            refine wm_aload_n 0 236 (by decide +kernel) rfl rfl ?_
            refine wm_getr 8 16 13 130 239 fl_RX8_46 (by decide +kernel) rfl (by decide +kernel) rfl rfl (by decide) ?_
            refine wm_bipush 25 241 (by decide +kernel : decode cX8_spreads 239 = .ok (.bipush 25, 2)) rfl (by decide +kernel) ?_
            refine wm_iload 6 243 (by decide +kernel) rfl rfl ?_
            refine wm_imul 244 (by decide +kernel) rfl ?_
            refine wm_iload 7 246 (by decide +kernel) rfl rfl ?_
            refine wm_iadd 247 (by decide +kernel) rfl ?_
            obtain ⟨o39, H⟩ := H
            refine wm_iald 250 248 (by decide +kernel) rfl (by decide +kernel) (by decide +kernel) o39 ?_
            refine wm_if_le 251 273 (by decide +kernel : decode cX8_spreads 248 = .ok (.ifCond .le 25, 3)) (by decide) rfl (fun c40 => ?_) (fun c40 => ?_)
            · replace H := H.1 c40
              replace H := H _ rfl
              refine wm_iinc 6 (_ + 1) 276 [some _, none, some _, none, some _, some _, some _, some _] (by decide +kernel : decode cX8_spreads 273 = .ok (.iinc 6 1, 3)) rfl (by decide +kernel) rfl (ofI_eq (by decide +kernel)) (okS_spec rfl) rfl ?_
              refine wm_goto 186 (by decide +kernel : decode cX8_spreads 276 = .ok (.goto (-90), 3)) (by decide) ?_
              refine wm_mask [true, false, true, false, true, true, true, false] [some _, none, some _, none, some _, some _, some _, none] rfl ?_
              exact ih _ _ H
            · replace H := H.2 c40
              refine wm_aload_n 0 252 (by decide +kernel) rfl rfl ?_
              refine wm_bipush 25 254 (by decide +kernel : decode cX8_spreads 252 = .ok (.bipush 25, 2)) rfl (by decide +kernel) ?_
              refine wm_aload_n 0 255 (by decide +kernel) rfl rfl ?_
              refine wm_iload 6 257 (by decide +kernel) rfl rfl ?_
              refine wm_iconst 1 258 (by decide +kernel : decode cX8_spreads 257 = .ok (.iconst 1, 1)) rfl (by decide +kernel) ?_
              refine wm_callVi mX8_at 2 8 [_, _] [_, _] _ _ 261 mo_X8_at np_X8_at ml_RX8_109 im_X8_at se_X8_at (by decide +kernel) (by decide +kernel) rfl rfl rfl (Nat.le_of_ble_eq_true rfl) (by decide +kernel) rfl (Nat.le_of_ble_eq_true rfl) _ (ent_pad 0 rfl) (l_X8_at g _ _ _ _ H) (fun v43 h42 H hzv43 => ?_)
              refine wm_imul 262 (by decide +kernel) rfl ?_
              refine wm_iload 7 264 (by decide +kernel) rfl rfl ?_
              refine wm_iadd 265 (by decide +kernel) rfl ?_
              refine wm_bipush 30 267 (by decide +kernel : decode cX8_spreads 265 = .ok (.bipush 30, 2)) rfl (by decide +kernel) ?_
              refine wm_iload 6 269 (by decide +kernel) rfl rfl ?_
              refine wm_iadd 270 (by decide +kernel) rfl ?_
              refine wm_callVv mX8_meets 2 8 [_, _] [] _ _ 273 mo_X8_meets np_X8_meets ml_RX8_214 im_X8_meets se_X8_meets (by decide +kernel) (by decide +kernel) rfl rfl rfl (Nat.le_of_ble_eq_true rfl) (by decide +kernel) rfl (Nat.le_of_ble_eq_true rfl) _ (ent_pad 0 rfl) (l_X8_meets g _ _ _ _ H) (fun h44 H => ?_)
              replace H := H _ rfl
              refine wm_iinc 6 (_ + 1) 276 [some _, none, some _, none, some _, some _, some _, some _] (by decide +kernel : decode cX8_spreads 273 = .ok (.iinc 6 1, 3)) rfl (by decide +kernel) rfl (ofI_eq (by decide +kernel)) (okS_spec rfl) rfl ?_
              refine wm_goto 186 (by decide +kernel : decode cX8_spreads 276 = .ok (.goto (-90), 3)) (by decide) ?_
              refine wm_mask [true, false, true, false, true, true, true, false] [some _, none, some _, none, some _, some _, some _, none] rfl ?_
              exact ih _ _ H
set_option maxRecDepth 20000 in
theorem l_X8_spreads_J159 (g : GE) (x1 : Int32) (x2 : Int32) (x4 : Int32) (x5 : Int32)   (Q : Int32 → HP → Prop)  (h : HP) (H : f_X8_spreads_J159 x1 x2 x4 x5  Q h) : Wm g mX8_spreads 159 [some (.ref 117), some (.int x1), some (.int x2), none, some (.int x4), some (.int x5), none, none] [] h (qi Q) := by
  unfold f_X8_spreads_J159 at H
  refine wm_iload 5 161 (by decide +kernel) rfl rfl ?_
  refine wm_if_le 164 183 (by decide +kernel : decode cX8_spreads 161 = .ok (.ifCond .le 22, 3)) (by decide) rfl (fun c25 => ?_) (fun c25 => ?_)
  · replace H := H.1 c25
    refine wm_iconst 0 184 (by decide +kernel : decode cX8_spreads 183 = .ok (.iconst 0, 1)) rfl (by decide +kernel) ?_
    refine wm_istore 6 186 [some _, some _, some _, none, some _, some _, some _, none] (by decide +kernel) rfl (by decide +kernel) (okS_spec rfl) rfl ?_
    obtain ⟨n46, H⟩ := H
    refine wm_mask [true, false, true, false, true, true, true, false] [some _, none, some _, none, some _, some _, some _, none] rfl ?_
    refine l_X8_spreads_L186 g _ _ _ _  _ _ _ H
  · replace H := H.2 c25
    refine wm_aload_n 0 165 (by decide +kernel) rfl rfl ?_
    refine wm_getr 8 15 12 129 168 fl_RX8_43 (by decide +kernel) rfl (by decide +kernel) rfl rfl (by decide) ?_
    refine wm_iload_n 1 169 (by decide +kernel) rfl rfl ?_
    refine wm_iconst 1 170 (by decide +kernel : decode cX8_spreads 169 = .ok (.iconst 1, 1)) rfl (by decide +kernel) ?_
    refine wm_isub 171 (by decide +kernel) rfl ?_
    obtain ⟨o47, H⟩ := H
    refine wm_iald 150 172 (by decide +kernel) rfl (by decide +kernel) (by decide +kernel) o47 ?_
    refine wm_if_le 175 183 (by decide +kernel : decode cX8_spreads 172 = .ok (.ifCond .le 11, 3)) (by decide) rfl (fun c48 => ?_) (fun c48 => ?_)
    · replace H := H.1 c48
      refine wm_iconst 0 184 (by decide +kernel : decode cX8_spreads 183 = .ok (.iconst 0, 1)) rfl (by decide +kernel) ?_
      refine wm_istore 6 186 [some _, some _, some _, none, some _, some _, some _, none] (by decide +kernel) rfl (by decide +kernel) (okS_spec rfl) rfl ?_
      obtain ⟨n49, H⟩ := H
      refine wm_mask [true, false, true, false, true, true, true, false] [some _, none, some _, none, some _, some _, some _, none] rfl ?_
      refine l_X8_spreads_L186 g _ _ _ _  _ _ _ H
    · replace H := H.2 c48
      refine wm_aload_n 0 176 (by decide +kernel) rfl rfl ?_
      refine wm_iload_n 1 177 (by decide +kernel) rfl rfl ?_
      refine wm_iconst 1 178 (by decide +kernel : decode cX8_spreads 177 = .ok (.iconst 1, 1)) rfl (by decide +kernel) ?_
      refine wm_isub 179 (by decide +kernel) rfl ?_
      refine wm_iconst 3 180 (by decide +kernel : decode cX8_spreads 179 = .ok (.iconst 3, 1)) rfl (by decide +kernel) ?_
      refine wm_callVv mX8_meets 2 8 [_, _] [] _ _ 183 mo_X8_meets np_X8_meets ml_RX8_214 im_X8_meets se_X8_meets (by decide +kernel) (by decide +kernel) rfl rfl rfl (Nat.le_of_ble_eq_true rfl) (by decide +kernel) rfl (Nat.le_of_ble_eq_true rfl) _ (ent_pad 0 rfl) (l_X8_meets g _ _ _ _ H) (fun h50 H => ?_)
      refine wm_iconst 0 184 (by decide +kernel : decode cX8_spreads 183 = .ok (.iconst 0, 1)) rfl (by decide +kernel) ?_
      refine wm_istore 6 186 [some _, some _, some _, none, some _, some _, some _, none] (by decide +kernel) rfl (by decide +kernel) (okS_spec rfl) rfl ?_
      obtain ⟨n51, H⟩ := H
      refine wm_mask [true, false, true, false, true, true, true, false] [some _, none, some _, none, some _, some _, some _, none] rfl ?_
      refine l_X8_spreads_L186 g _ _ _ _  _ _ _ H
set_option maxRecDepth 20000 in
theorem l_X8_spreads (g : GE) (x1 : Int32) (x2 : Int32) (x3 : Int32)  (h : HP) (Q : Int32 → HP → Prop) (H : f_X8_spreads x1 x2 x3 h Q) : Wm g mX8_spreads 0 [some (.ref 117), some (.int x1), some (.int x2), some (.int x3), none, none, none, none] [] h (qi Q) := by
  unfold f_X8_spreads at H
  refine wm_iload_n 1 1 (by decide +kernel) rfl rfl ?_
  refine wm_bipush 25 3 (by decide +kernel : decode cX8_spreads 1 = .ok (.bipush 25, 2)) rfl (by decide +kernel) ?_
  refine wm_idiv 4 (by decide +kernel) rfl (by decide +kernel) ?_
  replace H := H _ rfl
  refine wm_istore 4 6 [some _, some _, some _, some _, some _, none, none, none] (by decide +kernel) rfl (by decide +kernel) (okS_spec rfl) rfl ?_
  refine wm_iload_n 1 7 (by decide +kernel) rfl rfl ?_
  refine wm_bipush 25 9 (by decide +kernel : decode cX8_spreads 7 = .ok (.bipush 25, 2)) rfl (by decide +kernel) ?_
  refine wm_irem 10 (by decide +kernel) rfl (by decide +kernel) ?_
  replace H := H _ rfl
  refine wm_istore 5 12 [some _, some _, some _, some _, some _, some _, none, none] (by decide +kernel) rfl (by decide +kernel) (okS_spec rfl) rfl ?_
  refine wm_iconst 0 13 (by decide +kernel : decode cX8_spreads 12 = .ok (.iconst 0, 1)) rfl (by decide +kernel) ?_
  refine wm_istore 6 15 [some _, some _, some _, some _, some _, some _, some _, none] (by decide +kernel) rfl (by decide +kernel) (okS_spec rfl) rfl ?_
  obtain ⟨n56, H⟩ := H
  refine l_X8_spreads_L15 g _ _ _ _ _ _ _ (fun h23 H => ?_) _ _ _ H
  · skip
    refine wm_iload 5 132 (by decide +kernel) rfl rfl ?_
    refine wm_iload_n 3 133 (by decide +kernel) rfl rfl ?_
    refine wm_icmp_ge 136 159 (by decide +kernel : decode cX8_spreads 133 = .ok (.if_icmp .ge 26, 3)) (by decide) rfl (fun c24 => ?_) (fun c24 => ?_)
    · replace H := H.1 c24
      refine wm_mask [true, true, true, false, true, true, false, false] [some _, some _, some _, none, some _, some _, none, none] rfl ?_
      exact l_X8_spreads_J159 g _ _ _ _ _  _ H
    · replace H := H.2 c24
      refine wm_aload_n 0 137 (by decide +kernel) rfl rfl ?_
      refine wm_getr 8 15 12 129 140 fl_RX8_43 (by decide +kernel) rfl (by decide +kernel) rfl rfl (by decide) ?_
      refine wm_iload_n 1 141 (by decide +kernel) rfl rfl ?_
      obtain ⟨o52, H⟩ := H
      refine wm_iald 150 142 (by decide +kernel) rfl (by decide +kernel) (by decide +kernel) o52 ?_
      refine wm_aload_n 0 143 (by decide +kernel) rfl rfl ?_
      refine wm_getr 8 12 9 126 146 fl_RX8_34 (by decide +kernel) rfl (by decide +kernel) rfl rfl (by decide) ?_
      refine wm_iload_n 1 147 (by decide +kernel) rfl rfl ?_
      obtain ⟨o53, H⟩ := H
      refine wm_iald 150 148 (by decide +kernel) rfl (by decide +kernel) (by decide +kernel) o53 ?_
      refine wm_icmp_ge 151 159 (by decide +kernel : decode cX8_spreads 148 = .ok (.if_icmp .ge 11, 3)) (by decide) rfl (fun c54 => ?_) (fun c54 => ?_)
      · replace H := H.1 c54
        refine wm_mask [true, true, true, false, true, true, false, false] [some _, some _, some _, none, some _, some _, none, none] rfl ?_
        exact l_X8_spreads_J159 g _ _ _ _ _  _ H
      · replace H := H.2 c54
        refine wm_aload_n 0 152 (by decide +kernel) rfl rfl ?_
        refine wm_iload_n 1 153 (by decide +kernel) rfl rfl ?_
        refine wm_iconst 1 154 (by decide +kernel : decode cX8_spreads 153 = .ok (.iconst 1, 1)) rfl (by decide +kernel) ?_
        refine wm_iadd 155 (by decide +kernel) rfl ?_
        refine wm_iconst 2 156 (by decide +kernel : decode cX8_spreads 155 = .ok (.iconst 2, 1)) rfl (by decide +kernel) ?_
        refine wm_callVv mX8_meets 2 8 [_, _] [] _ _ 159 mo_X8_meets np_X8_meets ml_RX8_214 im_X8_meets se_X8_meets (by decide +kernel) (by decide +kernel) rfl rfl rfl (Nat.le_of_ble_eq_true rfl) (by decide +kernel) rfl (Nat.le_of_ble_eq_true rfl) _ (ent_pad 0 rfl) (l_X8_meets g _ _ _ _ H) (fun h55 H => ?_)
        refine wm_mask [true, true, true, false, true, true, false, false] [some _, some _, some _, none, some _, some _, none, none] rfl ?_
        exact l_X8_spreads_J159 g _ _ _ _ _  _ H
def f_X8_searches_L7 (x1 : Int32) (x2 : Int32) (k31 : HP → Prop) (Q : Int32 → HP → Prop) : Nat → Int32 → HP → Prop
  | 0, _, _ => False
  | n + 1, x3, h =>
    ((((25 * (gi h 117 3)) ≤ x3) →
      k31 h) ∧
     (¬ ((25 * (gi h 117 3)) ≤ x3) →
      vp_in x3 150 ∧
      ∀ h4 : HP, h4 = si h 132 (ix x3) 0 →
      ∀ x3_5 : Int32, x3_5 = (x3 + 1) →
      f_X8_searches_L7 x1 x2 k31 Q n x3_5 h4))
def f_X8_searches_L44 (x1 : Int32) (x2 : Int32) (x3 : Int32) (k100 : HP → Prop) (Q : Int32 → HP → Prop) : Nat → Int32 → HP → Prop
  | 0, _, _ => False
  | n + 1, x4, h =>
    (((x2 < x4) →
      k100 h) ∧
     (¬ (x2 < x4) →
      (((x3 = x1) →
        k100 h) ∧
       (¬ (x3 = x1) →
        vp_in ((25 * x3) + x4) 150 ∧
        vp_in ((25 * x3) + x4) 150 ∧
        ((((gi h 127 (ix ((25 * x3) + x4))) ≤ (gi h 128 (ix ((25 * x3) + x4)))) →
          ∀ x4_13 : Int32, x4_13 = (x4 + 1) →
          f_X8_searches_L44 x1 x2 x3 k100 Q n x4_13 h) ∧
         (¬ ((gi h 127 (ix ((25 * x3) + x4))) ≤ (gi h 128 (ix ((25 * x3) + x4)))) →
          f_X8_meets ((25 * x3) + x4) 1 h (fun h14 =>
          ∀ x4_15 : Int32, x4_15 = (x4 + 1) →
          f_X8_searches_L44 x1 x2 x3 k100 Q n x4_15 h14)))))))
def f_X8_searches_L33 (x1 : Int32) (x2 : Int32) (k106 : HP → Prop) (Q : Int32 → HP → Prop) : Nat → Int32 → HP → Prop
  | 0, _, _ => False
  | n + 1, x3, h =>
    ((((gi h 117 3) ≤ x3) →
      k106 h) ∧
     (¬ ((gi h 117 3) ≤ x3) →
      ∃ n18, f_X8_searches_L44 x1 x2 x3
        (fun h16 =>
          ∀ x3_17 : Int32, x3_17 = (x3 + 1) →
          f_X8_searches_L33 x1 x2 k106 Q n x3_17 h16)
        Q n18 0 h))
def f_X8_searches_L111 (x1 : Int32) (x2 : Int32)  (Q : Int32 → HP → Prop) : Nat → Int32 → Int32 → HP → Prop
  | 0, _, _, _ => False
  | n + 1, x3, x4, h =>
    ((((gi h 117 20) ≤ x4) →
      Q x3 h) ∧
     (¬ ((gi h 117 20) ≤ x4) →
      (((0 ≤ x3) →
        Q x3 h) ∧
       (¬ (0 ≤ x3) →
        vp_in x4 150 ∧
        f_X8_spreads (gi h 133 (ix x4)) x1 x2 h (fun v24 h23 =>
        ∀ x4_25 : Int32, x4_25 = (x4 + 1) →
        f_X8_searches_L111 x1 x2 Q n v24 x4_25 h23)))))
def f_X8_searches (x1 : Int32) (x2 : Int32) (h : HP) (Q : Int32 → HP → Prop) : Prop :=
  ∀ h1 : HP, h1 = si h 117 20 0 →
  ∃ n28, f_X8_searches_L7 x1 x2
    (fun h6 =>
      ∃ n27, f_X8_searches_L33 x1 x2
        (fun h19 =>
          ∃ n26, f_X8_searches_L111 x1 x2
            Q n26 (-1 : Int32) 0 h19)
        Q n27 0 h6)
    Q n28 0 h1
set_option maxRecDepth 20000 in
theorem l_X8_searches_L7 (g : GE) (x1 : Int32) (x2 : Int32)  (k31 : HP → Prop) (Q : Int32 → HP → Prop) (hk31 : ∀  (h : HP), k31  h → Wm g mX8_searches 31 [some (.ref 117), some (.int x1), some (.int x2), none, none] [] h (qi Q)) : ∀ (n : Nat) (x3 : Int32) (h : HP), f_X8_searches_L7 x1 x2 k31 Q n x3 h → Wm g mX8_searches 7 [some (.ref 117), some (.int x1), some (.int x2), some (.int x3), none] [] h (qi Q) := by
  intro n
  induction n with
  | zero => intro x3 h H; exact H.elim
  | succ n ih =>
    intro x3 h H
    unfold f_X8_searches_L7 at H
    refine wm_iload_n 3 8 (by decide +kernel) rfl rfl ?_
    refine wm_bipush 25 10 (by decide +kernel : decode cX8_searches 8 = .ok (.bipush 25, 2)) rfl (by decide +kernel) ?_
    refine wm_aload_n 0 11 (by decide +kernel) rfl rfl ?_
    refine wm_geti 8 3 14 fl_RX8_97 (by decide +kernel) rfl (by decide +kernel) rfl ?_
    refine wm_imul 15 (by decide +kernel) rfl ?_
    refine wm_icmp_ge 18 31 (by decide +kernel : decode cX8_searches 15 = .ok (.if_icmp .ge 16, 3)) (by decide) rfl (fun c2 => ?_) (fun c2 => ?_)
    · replace H := H.1 c2
      refine wm_mask [true, true, true, false, false] [some _, some _, some _, none, none] rfl ?_
      exact hk31 _ H
    · replace H := H.2 c2
      refine wm_aload_n 0 19 (by decide +kernel) rfl rfl ?_
      refine wm_getr 8 18 15 132 22 fl_RX8_52 (by decide +kernel) rfl (by decide +kernel) rfl rfl (by decide) ?_
      refine wm_iload_n 3 23 (by decide +kernel) rfl rfl ?_
      refine wm_iconst 0 24 (by decide +kernel : decode cX8_searches 23 = .ok (.iconst 0, 1)) rfl (by decide +kernel) ?_
      obtain ⟨o3, H⟩ := H
      replace H := H _ rfl
      refine wm_iast 150 25 (by decide +kernel) rfl (by decide +kernel) (by decide +kernel) o3 ?_
      replace H := H _ rfl
      refine wm_iinc 3 (_ + 1) 28 [some _, some _, some _, some _, none] (by decide +kernel : decode cX8_searches 25 = .ok (.iinc 3 1, 3)) rfl (by decide +kernel) rfl (ofI_eq (by decide +kernel)) (okS_spec rfl) rfl ?_
      refine wm_goto 7 (by decide +kernel : decode cX8_searches 28 = .ok (.goto (-21), 3)) (by decide) ?_
      exact ih _ _ H
set_option maxRecDepth 20000 in
theorem l_X8_searches_L44 (g : GE) (x1 : Int32) (x2 : Int32) (x3 : Int32)  (k100 : HP → Prop) (Q : Int32 → HP → Prop) (hk100 : ∀  (h : HP), k100  h → Wm g mX8_searches 100 [some (.ref 117), some (.int x1), some (.int x2), some (.int x3), none] [] h (qi Q)) : ∀ (n : Nat) (x4 : Int32) (h : HP), f_X8_searches_L44 x1 x2 x3 k100 Q n x4 h → Wm g mX8_searches 44 [some (.ref 117), some (.int x1), some (.int x2), some (.int x3), some (.int x4)] [] h (qi Q) := by
  intro n
  induction n with
  | zero => intro x4 h H; exact H.elim
  | succ n ih =>
    intro x4 h H
    unfold f_X8_searches_L44 at H
    refine wm_iload 4 46 (by decide +kernel) rfl rfl ?_
    refine wm_iload_n 2 47 (by decide +kernel) rfl rfl ?_
    refine wm_icmp_gt 50 100 (by decide +kernel : decode cX8_searches 47 = .ok (.if_icmp .gt 53, 3)) (by decide) rfl (fun c8 => ?_) (fun c8 => ?_)
    · replace H := H.1 c8
      refine wm_mask [true, true, true, true, false] [some _, some _, some _, some _, none] rfl ?_
      exact hk100 _ H
    · replace H := H.2 c8
      refine wm_iload_n 3 51 (by decide +kernel) rfl rfl ?_
      refine wm_iload_n 1 52 (by decide +kernel) rfl rfl ?_
      refine wm_icmp_eq 55 100 (by decide +kernel : decode cX8_searches 52 = .ok (.if_icmp .eq 48, 3)) (by decide) rfl (fun c9 => ?_) (fun c9 => ?_)
      · replace H := H.1 c9
        refine wm_mask [true, true, true, true, false] [some _, some _, some _, some _, none] rfl ?_
        exact hk100 _ H
      · replace H := H.2 c9
        refine wm_aload_n 0 56 (by decide +kernel) rfl rfl ?_
        refine wm_getr 8 13 10 127 59 fl_RX8_37 (by decide +kernel) rfl (by decide +kernel) rfl rfl (by decide) ?_
        refine wm_bipush 25 61 (by decide +kernel : decode cX8_searches 59 = .ok (.bipush 25, 2)) rfl (by decide +kernel) ?_
        refine wm_iload_n 3 62 (by decide +kernel) rfl rfl ?_
        refine wm_imul 63 (by decide +kernel) rfl ?_
        refine wm_iload 4 65 (by decide +kernel) rfl rfl ?_
        refine wm_iadd 66 (by decide +kernel) rfl ?_
        obtain ⟨o10, H⟩ := H
        refine wm_iald 150 67 (by decide +kernel) rfl (by decide +kernel) (by decide +kernel) o10 ?_
        refine wm_aload_n 0 68 (by decide +kernel) rfl rfl ?_
        refine wm_getr 8 14 11 128 71 fl_RX8_40 (by decide +kernel) rfl (by decide +kernel) rfl rfl (by decide) ?_
        refine wm_bipush 25 73 (by decide +kernel : decode cX8_searches 71 = .ok (.bipush 25, 2)) rfl (by decide +kernel) ?_
        refine wm_iload_n 3 74 (by decide +kernel) rfl rfl ?_
        refine wm_imul 75 (by decide +kernel) rfl ?_
        refine wm_iload 4 77 (by decide +kernel) rfl rfl ?_
        refine wm_iadd 78 (by decide +kernel) rfl ?_
        obtain ⟨o11, H⟩ := H
        refine wm_iald 150 79 (by decide +kernel) rfl (by decide +kernel) (by decide +kernel) o11 ?_
        refine wm_icmp_le 82 94 (by decide +kernel : decode cX8_searches 79 = .ok (.if_icmp .le 15, 3)) (by decide) rfl (fun c12 => ?_) (fun c12 => ?_)
        · replace H := H.1 c12
          replace H := H _ rfl
          refine wm_iinc 4 (_ + 1) 97 [some _, some _, some _, some _, some _] (by decide +kernel : decode cX8_searches 94 = .ok (.iinc 4 1, 3)) rfl (by decide +kernel) rfl (ofI_eq (by decide +kernel)) (okS_spec rfl) rfl ?_
          refine wm_goto 44 (by decide +kernel : decode cX8_searches 97 = .ok (.goto (-53), 3)) (by decide) ?_
          exact ih _ _ H
        · replace H := H.2 c12
          refine wm_aload_n 0 83 (by decide +kernel) rfl rfl ?_
          refine wm_bipush 25 85 (by decide +kernel : decode cX8_searches 83 = .ok (.bipush 25, 2)) rfl (by decide +kernel) ?_
          refine wm_iload_n 3 86 (by decide +kernel) rfl rfl ?_
          refine wm_imul 87 (by decide +kernel) rfl ?_
          refine wm_iload 4 89 (by decide +kernel) rfl rfl ?_
          refine wm_iadd 90 (by decide +kernel) rfl ?_
          refine wm_iconst 1 91 (by decide +kernel : decode cX8_searches 90 = .ok (.iconst 1, 1)) rfl (by decide +kernel) ?_
          refine wm_callVv mX8_meets 2 8 [_, _] [] _ _ 94 mo_X8_meets np_X8_meets ml_RX8_214 im_X8_meets se_X8_meets (by decide +kernel) (by decide +kernel) rfl rfl rfl (Nat.le_of_ble_eq_true rfl) (by decide +kernel) rfl (Nat.le_of_ble_eq_true rfl) _ (ent_pad 0 rfl) (l_X8_meets g _ _ _ _ H) (fun h14 H => ?_)
          replace H := H _ rfl
          refine wm_iinc 4 (_ + 1) 97 [some _, some _, some _, some _, some _] (by decide +kernel : decode cX8_searches 94 = .ok (.iinc 4 1, 3)) rfl (by decide +kernel) rfl (ofI_eq (by decide +kernel)) (okS_spec rfl) rfl ?_
          refine wm_goto 44 (by decide +kernel : decode cX8_searches 97 = .ok (.goto (-53), 3)) (by decide) ?_
          exact ih _ _ H
set_option maxRecDepth 20000 in
theorem l_X8_searches_L33 (g : GE) (x1 : Int32) (x2 : Int32)  (k106 : HP → Prop) (Q : Int32 → HP → Prop) (hk106 : ∀  (h : HP), k106  h → Wm g mX8_searches 106 [some (.ref 117), some (.int x1), some (.int x2), none, none] [] h (qi Q)) : ∀ (n : Nat) (x3 : Int32) (h : HP), f_X8_searches_L33 x1 x2 k106 Q n x3 h → Wm g mX8_searches 33 [some (.ref 117), some (.int x1), some (.int x2), some (.int x3), none] [] h (qi Q) := by
  intro n
  induction n with
  | zero => intro x3 h H; exact H.elim
  | succ n ih =>
    intro x3 h H
    unfold f_X8_searches_L33 at H
    refine wm_iload_n 3 34 (by decide +kernel) rfl rfl ?_
    refine wm_aload_n 0 35 (by decide +kernel) rfl rfl ?_
    refine wm_geti 8 3 38 fl_RX8_97 (by decide +kernel) rfl (by decide +kernel) rfl ?_
    refine wm_icmp_ge 41 106 (by decide +kernel : decode cX8_searches 38 = .ok (.if_icmp .ge 68, 3)) (by decide) rfl (fun c7 => ?_) (fun c7 => ?_)
    · replace H := H.1 c7
      refine wm_mask [true, true, true, false, false] [some _, some _, some _, none, none] rfl ?_
      exact hk106 _ H
    · replace H := H.2 c7
      refine wm_iconst 0 42 (by decide +kernel : decode cX8_searches 41 = .ok (.iconst 0, 1)) rfl (by decide +kernel) ?_
      refine wm_istore 4 44 [some _, some _, some _, some _, some _] (by decide +kernel) rfl (by decide +kernel) (okS_spec rfl) rfl ?_
      obtain ⟨n18, H⟩ := H
      refine l_X8_searches_L44 g _ _ _ _ _ (fun h16 H => ?_) _ _ _ H
      · skip
        replace H := H _ rfl
        refine wm_iinc 3 (_ + 1) 103 [some _, some _, some _, some _, none] (by decide +kernel : decode cX8_searches 100 = .ok (.iinc 3 1, 3)) rfl (by decide +kernel) rfl (ofI_eq (by decide +kernel)) (okS_spec rfl) rfl ?_
        refine wm_goto 33 (by decide +kernel : decode cX8_searches 103 = .ok (.goto (-70), 3)) (by decide) ?_
        exact ih _ _ H
set_option maxRecDepth 20000 in
theorem l_X8_searches_L111 (g : GE) (x1 : Int32) (x2 : Int32)   (Q : Int32 → HP → Prop)  : ∀ (n : Nat) (x3 : Int32) (x4 : Int32) (h : HP), f_X8_searches_L111 x1 x2 Q n x3 x4 h → Wm g mX8_searches 111 [some (.ref 117), some (.int x1), some (.int x2), some (.int x3), some (.int x4)] [] h (qi Q) := by
  intro n
  induction n with
  | zero => intro x3 x4 h H; exact H.elim
  | succ n ih =>
    intro x3 x4 h H
    unfold f_X8_searches_L111 at H
    refine wm_iload 4 113 (by decide +kernel) rfl rfl ?_
    refine wm_aload_n 0 114 (by decide +kernel) rfl rfl ?_
    refine wm_geti 8 20 117 fl_RX8_211 (by decide +kernel) rfl (by decide +kernel) rfl ?_
    refine wm_icmp_ge 120 144 (by decide +kernel : decode cX8_searches 117 = .ok (.if_icmp .ge 27, 3)) (by decide) rfl (fun c20 => ?_) (fun c20 => ?_)
    · replace H := H.1 c20
      refine wm_iload_n 3 145 (by decide +kernel) rfl rfl ?_
      exact wm_iret (by decide +kernel) ⟨.int, rfl, rfl⟩ H
    · replace H := H.2 c20
      refine wm_iload_n 3 121 (by decide +kernel) rfl rfl ?_
      refine wm_if_ge 124 144 (by decide +kernel : decode cX8_searches 121 = .ok (.ifCond .ge 23, 3)) (by decide) rfl (fun c21 => ?_) (fun c21 => ?_)
      · replace H := H.1 c21
        refine wm_iload_n 3 145 (by decide +kernel) rfl rfl ?_
        exact wm_iret (by decide +kernel) ⟨.int, rfl, rfl⟩ H
      · replace H := H.2 c21
        refine wm_aload_n 0 125 (by decide +kernel) rfl rfl ?_
        refine wm_aload_n 0 126 (by decide +kernel) rfl rfl ?_
        refine wm_getr 8 19 16 133 129 fl_RX8_55 (by decide +kernel) rfl (by decide +kernel) rfl rfl (by decide) ?_
        refine wm_iload 4 131 (by decide +kernel) rfl rfl ?_
        obtain ⟨o22, H⟩ := H
        refine wm_iald 150 132 (by decide +kernel) rfl (by decide +kernel) (by decide +kernel) o22 ?_
        refine wm_iload_n 1 133 (by decide +kernel) rfl rfl ?_
        refine wm_iload_n 2 134 (by decide +kernel) rfl rfl ?_
        refine wm_callVi mX8_spreads 3 8 [_, _, _] [] _ _ 137 mo_X8_spreads np_X8_spreads ml_RX8_217 im_X8_spreads se_X8_spreads (by decide +kernel) (by decide +kernel) rfl rfl rfl (Nat.le_of_ble_eq_true rfl) (by decide +kernel) rfl (Nat.le_of_ble_eq_true rfl) _ (ent_pad 4 rfl) (l_X8_spreads g _ _ _ _ _ H) (fun v24 h23 H hzv24 => ?_)
        refine wm_istore_n 3 138 [some _, some _, some _, some _, some _] (by decide +kernel) rfl (by decide +kernel) (okS_spec rfl) rfl ?_
        replace H := H _ rfl
        refine wm_iinc 4 (_ + 1) 141 [some _, some _, some _, some _, some _] (by decide +kernel : decode cX8_searches 138 = .ok (.iinc 4 1, 3)) rfl (by decide +kernel) rfl (ofI_eq (by decide +kernel)) (okS_spec rfl) rfl ?_
        refine wm_goto 111 (by decide +kernel : decode cX8_searches 141 = .ok (.goto (-30), 3)) (by decide) ?_
        exact ih _ _ _ H
set_option maxRecDepth 20000 in
theorem l_X8_searches (g : GE) (x1 : Int32) (x2 : Int32)  (h : HP) (Q : Int32 → HP → Prop) (H : f_X8_searches x1 x2 h Q) : Wm g mX8_searches 0 [some (.ref 117), some (.int x1), some (.int x2), none, none] [] h (qi Q) := by
  unfold f_X8_searches at H
  refine wm_aload_n 0 1 (by decide +kernel) rfl rfl ?_
  refine wm_iconst 0 2 (by decide +kernel : decode cX8_searches 1 = .ok (.iconst 0, 1)) rfl (by decide +kernel) ?_
  replace H := H _ rfl
  refine wm_puti 8 20 5 fl_RX8_211 (by decide +kernel) rfl (by decide +kernel) rfl rfl ⟨rfl, rfl⟩ ?_
  refine wm_iconst 0 6 (by decide +kernel : decode cX8_searches 5 = .ok (.iconst 0, 1)) rfl (by decide +kernel) ?_
  refine wm_istore_n 3 7 [some _, some _, some _, some _, none] (by decide +kernel) rfl (by decide +kernel) (okS_spec rfl) rfl ?_
  obtain ⟨n28, H⟩ := H
  refine l_X8_searches_L7 g _ _ _ _ (fun h6 H => ?_) _ _ _ H
  · skip
    refine wm_iconst 0 32 (by decide +kernel : decode cX8_searches 31 = .ok (.iconst 0, 1)) rfl (by decide +kernel) ?_
    refine wm_istore_n 3 33 [some _, some _, some _, some _, none] (by decide +kernel) rfl (by decide +kernel) (okS_spec rfl) rfl ?_
    obtain ⟨n27, H⟩ := H
    refine l_X8_searches_L33 g _ _ _ _ (fun h19 H => ?_) _ _ _ H
    · skip
      refine wm_iconst (-1) 107 (by decide +kernel : decode cX8_searches 106 = .ok (.iconst (-1), 1)) rfl (by decide +kernel) ?_
      refine wm_istore_n 3 108 [some _, some _, some _, some _, none] (by decide +kernel) rfl (by decide +kernel) (okS_spec rfl) rfl ?_
      refine wm_iconst 0 109 (by decide +kernel : decode cX8_searches 108 = .ok (.iconst 0, 1)) rfl (by decide +kernel) ?_
      refine wm_istore 4 111 [some _, some _, some _, some _, some _] (by decide +kernel) rfl (by decide +kernel) (okS_spec rfl) rfl ?_
      obtain ⟨n26, H⟩ := H
      refine l_X8_searches_L111 g _ _ _  _ _ _ _ H
def f_X8_behind (x1 : Int32) (h : HP) (Q : Int32 → HP → Prop) : Prop :=
  vp_in x1 150 ∧
  ∀ x2_2 : Int32, x2_2 = (gi h 132 (ix x1)) →
  (((x2_2 = 2) →
    Q (x1 - 1) h) ∧
   (¬ (x2_2 = 2) →
    (((x2_2 = 3) →
      Q (x1 + 1) h) ∧
     (¬ (x2_2 = 3) →
      ∀ x3_7 : Int32, x3_7 = (if 30 ≤ x2_2 then ((x2_2 - 30) : Int32) else (x2_2 - 10)) →
      ∀ x4_8 : Int32, x4_8 = (x1 - x1 / 25 * 25) →
      (((30 ≤ x2_2) →
        f_X8_at x3_7 2 h (fun v11 h10 =>
        vp_in x3_7 10 ∧
        Q (((25 * v11) + x4_8) + (gi h10 131 (ix x3_7))) h10)) ∧
       (¬ (30 ≤ x2_2) →
        f_X8_at x3_7 1 h (fun v14 h13 =>
        vp_in x3_7 10 ∧
        Q (((25 * v14) + x4_8) - (gi h13 131 (ix x3_7))) h13)))))))
set_option maxRecDepth 20000 in
theorem l_X8_behind (g : GE) (x1 : Int32)  (h : HP) (Q : Int32 → HP → Prop) (H : f_X8_behind x1 h Q) : Wm g mX8_behind 0 [some (.ref 117), some (.int x1), none, none, none] [] h (qi Q) := by
  unfold f_X8_behind at H
  refine wm_aload_n 0 1 (by decide +kernel) rfl rfl ?_
  refine wm_getr 8 18 15 132 4 fl_RX8_52 (by decide +kernel) rfl (by decide +kernel) rfl rfl (by decide) ?_
  refine wm_iload_n 1 5 (by decide +kernel) rfl rfl ?_
  obtain ⟨o1, H⟩ := H
  refine wm_iald 150 6 (by decide +kernel) rfl (by decide +kernel) (by decide +kernel) o1 ?_
  replace H := H _ rfl
  refine wm_istore_n 2 7 [some _, some _, some _, none, none] (by decide +kernel) rfl (by decide +kernel) (okS_spec rfl) rfl ?_
  refine wm_iload_n 2 8 (by decide +kernel) rfl rfl ?_
  refine wm_iconst 2 9 (by decide +kernel : decode cX8_behind 8 = .ok (.iconst 2, 1)) rfl (by decide +kernel) ?_
  refine wm_icmp_ne 12 16 (by decide +kernel : decode cX8_behind 9 = .ok (.if_icmp .ne 7, 3)) (by decide) rfl (fun c3 => ?_) (fun c3 => ?_)
  · replace H := H.2 c3
    refine wm_iload_n 2 17 (by decide +kernel) rfl rfl ?_
    refine wm_iconst 3 18 (by decide +kernel : decode cX8_behind 17 = .ok (.iconst 3, 1)) rfl (by decide +kernel) ?_
    refine wm_icmp_ne 21 25 (by decide +kernel : decode cX8_behind 18 = .ok (.if_icmp .ne 7, 3)) (by decide) rfl (fun c4 => ?_) (fun c4 => ?_)
    · replace H := H.2 c4
      refine wm_iload_n 2 26 (by decide +kernel) rfl rfl ?_
      refine wm_bipush 30 28 (by decide +kernel : decode cX8_behind 26 = .ok (.bipush 30, 2)) rfl (by decide +kernel) ?_
      refine' wm_dia (pcJ := 42) (fun kt kf => wm_icmp_ge 31 38 (by decide +kernel : decode cX8_behind 28 = .ok (.if_icmp .ge 10, 3)) (by decide) rfl kt kf) ?D6k (fun kj c1 => ?D6t) (fun kj c1 => ?D6f)
      case D6t =>
        refine wm_iload_n 2 39 (by decide +kernel) rfl rfl ?_
        refine wm_bipush 30 41 (by decide +kernel : decode cX8_behind 39 = .ok (.bipush 30, 2)) rfl (by decide +kernel) ?_
        refine wm_isub 42 (by decide +kernel) rfl ?_
        exact kj
      case D6f =>
        refine wm_iload_n 2 32 (by decide +kernel) rfl rfl ?_
        refine wm_bipush 10 34 (by decide +kernel : decode cX8_behind 32 = .ok (.bipush 10, 2)) rfl (by decide +kernel) ?_
        refine wm_isub 35 (by decide +kernel) rfl ?_
        refine wm_goto 42 (by decide +kernel : decode cX8_behind 35 = .ok (.goto 7, 3)) (by decide) ?_
        exact kj
      case D6k =>
        replace H := H _ rfl
        refine wm_istore_n 3 43 [some _, some _, some _, some _, none] (by decide +kernel) rfl (by decide +kernel) (okS_spec rfl) rfl ?_
        refine wm_iload_n 1 44 (by decide +kernel) rfl rfl ?_
        refine wm_bipush 25 46 (by decide +kernel : decode cX8_behind 44 = .ok (.bipush 25, 2)) rfl (by decide +kernel) ?_
        refine wm_irem 47 (by decide +kernel) rfl (by decide +kernel) ?_
        replace H := H _ rfl
        refine wm_istore 4 49 [some _, some _, some _, some _, some _] (by decide +kernel) rfl (by decide +kernel) (okS_spec rfl) rfl ?_
        refine wm_iload_n 2 50 (by decide +kernel) rfl rfl ?_
        refine wm_bipush 30 52 (by decide +kernel : decode cX8_behind 50 = .ok (.bipush 30, 2)) rfl (by decide +kernel) ?_
        refine wm_icmp_ge 55 77 (by decide +kernel : decode cX8_behind 52 = .ok (.if_icmp .ge 25, 3)) (by decide) rfl (fun c9 => ?_) (fun c9 => ?_)
        · replace H := H.1 c9
          refine wm_bipush 25 79 (by decide +kernel : decode cX8_behind 77 = .ok (.bipush 25, 2)) rfl (by decide +kernel) ?_
          refine wm_aload_n 0 80 (by decide +kernel) rfl rfl ?_
          refine wm_iload_n 3 81 (by decide +kernel) rfl rfl ?_
          refine wm_iconst 2 82 (by decide +kernel : decode cX8_behind 81 = .ok (.iconst 2, 1)) rfl (by decide +kernel) ?_
          refine wm_callVi mX8_at 2 8 [_, _] [_] _ _ 85 mo_X8_at np_X8_at ml_RX8_109 im_X8_at se_X8_at (by decide +kernel) (by decide +kernel) rfl rfl rfl (Nat.le_of_ble_eq_true rfl) (by decide +kernel) rfl (Nat.le_of_ble_eq_true rfl) _ (ent_pad 0 rfl) (l_X8_at g _ _ _ _ H) (fun v11 h10 H hzv11 => ?_)
          refine wm_imul 86 (by decide +kernel) rfl ?_
          refine wm_iload 4 88 (by decide +kernel) rfl rfl ?_
          refine wm_iadd 89 (by decide +kernel) rfl ?_
          refine wm_aload_n 0 90 (by decide +kernel) rfl rfl ?_
          refine wm_getr 8 17 14 131 93 fl_RX8_49 (by decide +kernel) rfl (by decide +kernel) rfl rfl (by decide) ?_
          refine wm_iload_n 3 94 (by decide +kernel) rfl rfl ?_
          obtain ⟨o12, H⟩ := H
          refine wm_iald 10 95 (by decide +kernel) rfl (by decide +kernel) (by decide +kernel) o12 ?_
          refine wm_iadd 96 (by decide +kernel) rfl ?_
          exact wm_iret (by decide +kernel) ⟨.int, rfl, rfl⟩ H
        · replace H := H.2 c9
          refine wm_bipush 25 57 (by decide +kernel : decode cX8_behind 55 = .ok (.bipush 25, 2)) rfl (by decide +kernel) ?_
          refine wm_aload_n 0 58 (by decide +kernel) rfl rfl ?_
          refine wm_iload_n 3 59 (by decide +kernel) rfl rfl ?_
          refine wm_iconst 1 60 (by decide +kernel : decode cX8_behind 59 = .ok (.iconst 1, 1)) rfl (by decide +kernel) ?_
          refine wm_callVi mX8_at 2 8 [_, _] [_] _ _ 63 mo_X8_at np_X8_at ml_RX8_109 im_X8_at se_X8_at (by decide +kernel) (by decide +kernel) rfl rfl rfl (Nat.le_of_ble_eq_true rfl) (by decide +kernel) rfl (Nat.le_of_ble_eq_true rfl) _ (ent_pad 0 rfl) (l_X8_at g _ _ _ _ H) (fun v14 h13 H hzv14 => ?_)
          refine wm_imul 64 (by decide +kernel) rfl ?_
          refine wm_iload 4 66 (by decide +kernel) rfl rfl ?_
          refine wm_iadd 67 (by decide +kernel) rfl ?_
          refine wm_aload_n 0 68 (by decide +kernel) rfl rfl ?_
          refine wm_getr 8 17 14 131 71 fl_RX8_49 (by decide +kernel) rfl (by decide +kernel) rfl rfl (by decide) ?_
          refine wm_iload_n 3 72 (by decide +kernel) rfl rfl ?_
          obtain ⟨o15, H⟩ := H
          refine wm_iald 10 73 (by decide +kernel) rfl (by decide +kernel) (by decide +kernel) o15 ?_
          refine wm_isub 74 (by decide +kernel) rfl ?_
          refine wm_goto 96 (by decide +kernel : decode cX8_behind 74 = .ok (.goto 22, 3)) (by decide) ?_
          exact wm_iret (by decide +kernel) ⟨.int, rfl, rfl⟩ H
    · replace H := H.1 c4
      refine wm_iload_n 1 22 (by decide +kernel) rfl rfl ?_
      refine wm_iconst 1 23 (by decide +kernel : decode cX8_behind 22 = .ok (.iconst 1, 1)) rfl (by decide +kernel) ?_
      refine wm_iadd 24 (by decide +kernel) rfl ?_
      exact wm_iret (by decide +kernel) ⟨.int, rfl, rfl⟩ H
  · replace H := H.1 c3
    refine wm_iload_n 1 13 (by decide +kernel) rfl rfl ?_
    refine wm_iconst 1 14 (by decide +kernel : decode cX8_behind 13 = .ok (.iconst 1, 1)) rfl (by decide +kernel) ?_
    refine wm_isub 15 (by decide +kernel) rfl ?_
    exact wm_iret (by decide +kernel) ⟨.int, rfl, rfl⟩ H
def f_X8_leftFor (x1 : Int32) (x2 : Int32) (h : HP) (Q : Int32 → HP → Prop) : Prop :=
  vp_in x1 150 ∧
  ∀ x3_2 : Int32, x3_2 = (gi h 132 (ix x1)) →
  (((x3_2 = 2) →
    vp_in x2 150 ∧
    vp_in x2 150 ∧
    Q ((gi h 126 (ix x2)) - (gi h 129 (ix x2))) h) ∧
   (¬ (x3_2 = 2) →
    (((x3_2 = 3) →
      vp_in x1 150 ∧
      Q (gi h 129 (ix x1)) h) ∧
     (¬ (x3_2 = 3) →
      (((30 ≤ x3_2) →
        vp_in ((25 * (x3_2 - 30)) + (x1 - x1 / 25 * 25)) 250 ∧
        Q (gi h 130 (ix ((25 * (x3_2 - 30)) + (x1 - x1 / 25 * 25)))) h) ∧
       (¬ (30 ≤ x3_2) →
        ∀ x4_7 : Int32, x4_7 = ((25 * (x3_2 - 10)) + (x2 - x2 / 25 * 25)) →
        vp_in x4_7 250 ∧
        vp_in x4_7 250 ∧
        Q ((gi h 125 (ix x4_7)) - (gi h 130 (ix x4_7))) h))))))
set_option maxRecDepth 20000 in
theorem l_X8_leftFor (g : GE) (x1 : Int32) (x2 : Int32)  (h : HP) (Q : Int32 → HP → Prop) (H : f_X8_leftFor x1 x2 h Q) : Wm g mX8_leftFor 0 [some (.ref 117), some (.int x1), some (.int x2), none, none] [] h (qi Q) := by
  unfold f_X8_leftFor at H
  refine wm_aload_n 0 1 (by decide +kernel) rfl rfl ?_
  refine wm_getr 8 18 15 132 4 fl_RX8_52 (by decide +kernel) rfl (by decide +kernel) rfl rfl (by decide) ?_
  refine wm_iload_n 1 5 (by decide +kernel) rfl rfl ?_
  obtain ⟨o1, H⟩ := H
  refine wm_iald 150 6 (by decide +kernel) rfl (by decide +kernel) (by decide +kernel) o1 ?_
  replace H := H _ rfl
  refine wm_istore_n 3 7 [some _, some _, some _, some _, none] (by decide +kernel) rfl (by decide +kernel) (okS_spec rfl) rfl ?_
  refine wm_iload_n 3 8 (by decide +kernel) rfl rfl ?_
  refine wm_iconst 2 9 (by decide +kernel : decode cX8_leftFor 8 = .ok (.iconst 2, 1)) rfl (by decide +kernel) ?_
  refine wm_icmp_ne 12 26 (by decide +kernel : decode cX8_leftFor 9 = .ok (.if_icmp .ne 17, 3)) (by decide) rfl (fun c3 => ?_) (fun c3 => ?_)
  · replace H := H.2 c3
    refine wm_iload_n 3 27 (by decide +kernel) rfl rfl ?_
    refine wm_iconst 3 28 (by decide +kernel : decode cX8_leftFor 27 = .ok (.iconst 3, 1)) rfl (by decide +kernel) ?_
    refine wm_icmp_ne 31 38 (by decide +kernel : decode cX8_leftFor 28 = .ok (.if_icmp .ne 10, 3)) (by decide) rfl (fun c4 => ?_) (fun c4 => ?_)
    · replace H := H.2 c4
      refine wm_iload_n 3 39 (by decide +kernel) rfl rfl ?_
      refine wm_bipush 30 41 (by decide +kernel : decode cX8_leftFor 39 = .ok (.bipush 30, 2)) rfl (by decide +kernel) ?_
      refine wm_icmp_ge 44 74 (by decide +kernel : decode cX8_leftFor 41 = .ok (.if_icmp .ge 33, 3)) (by decide) rfl (fun c5 => ?_) (fun c5 => ?_)
      · replace H := H.1 c5
        refine wm_aload_n 0 75 (by decide +kernel) rfl rfl ?_
        refine wm_getr 8 16 13 130 78 fl_RX8_46 (by decide +kernel) rfl (by decide +kernel) rfl rfl (by decide) ?_
        refine wm_bipush 25 80 (by decide +kernel : decode cX8_leftFor 78 = .ok (.bipush 25, 2)) rfl (by decide +kernel) ?_
        refine wm_iload_n 3 81 (by decide +kernel) rfl rfl ?_
        refine wm_bipush 30 83 (by decide +kernel : decode cX8_leftFor 81 = .ok (.bipush 30, 2)) rfl (by decide +kernel) ?_
        refine wm_isub 84 (by decide +kernel) rfl ?_
        refine wm_imul 85 (by decide +kernel) rfl ?_
        refine wm_iload_n 1 86 (by decide +kernel) rfl rfl ?_
        refine wm_bipush 25 88 (by decide +kernel : decode cX8_leftFor 86 = .ok (.bipush 25, 2)) rfl (by decide +kernel) ?_
        refine wm_irem 89 (by decide +kernel) rfl (by decide +kernel) ?_
        refine wm_iadd 90 (by decide +kernel) rfl ?_
        obtain ⟨o6, H⟩ := H
        refine wm_iald 250 91 (by decide +kernel) rfl (by decide +kernel) (by decide +kernel) o6 ?_
        exact wm_iret (by decide +kernel) ⟨.int, rfl, rfl⟩ H
      · replace H := H.2 c5
        refine wm_bipush 25 46 (by decide +kernel : decode cX8_leftFor 44 = .ok (.bipush 25, 2)) rfl (by decide +kernel) ?_
        refine wm_iload_n 3 47 (by decide +kernel) rfl rfl ?_
        refine wm_bipush 10 49 (by decide +kernel : decode cX8_leftFor 47 = .ok (.bipush 10, 2)) rfl (by decide +kernel) ?_
        refine wm_isub 50 (by decide +kernel) rfl ?_
        refine wm_imul 51 (by decide +kernel) rfl ?_
        refine wm_iload_n 2 52 (by decide +kernel) rfl rfl ?_
        refine wm_bipush 25 54 (by decide +kernel : decode cX8_leftFor 52 = .ok (.bipush 25, 2)) rfl (by decide +kernel) ?_
        refine wm_irem 55 (by decide +kernel) rfl (by decide +kernel) ?_
        refine wm_iadd 56 (by decide +kernel) rfl ?_
        replace H := H _ rfl
        refine wm_istore 4 58 [some _, some _, some _, some _, some _] (by decide +kernel) rfl (by decide +kernel) (okS_spec rfl) rfl ?_
        refine wm_aload_n 0 59 (by decide +kernel) rfl rfl ?_
        refine wm_getr 8 11 8 125 62 fl_RX8_31 (by decide +kernel) rfl (by decide +kernel) rfl rfl (by decide) ?_
        refine wm_iload 4 64 (by decide +kernel) rfl rfl ?_
        obtain ⟨o8, H⟩ := H
        refine wm_iald 250 65 (by decide +kernel) rfl (by decide +kernel) (by decide +kernel) o8 ?_
        refine wm_aload_n 0 66 (by decide +kernel) rfl rfl ?_
        refine wm_getr 8 16 13 130 69 fl_RX8_46 (by decide +kernel) rfl (by decide +kernel) rfl rfl (by decide) ?_
        refine wm_iload 4 71 (by decide +kernel) rfl rfl ?_
        obtain ⟨o9, H⟩ := H
        refine wm_iald 250 72 (by decide +kernel) rfl (by decide +kernel) (by decide +kernel) o9 ?_
        refine wm_isub 73 (by decide +kernel) rfl ?_
        exact wm_iret (by decide +kernel) ⟨.int, rfl, rfl⟩ H
    · replace H := H.1 c4
      refine wm_aload_n 0 32 (by decide +kernel) rfl rfl ?_
      refine wm_getr 8 15 12 129 35 fl_RX8_43 (by decide +kernel) rfl (by decide +kernel) rfl rfl (by decide) ?_
      refine wm_iload_n 1 36 (by decide +kernel) rfl rfl ?_
      obtain ⟨o10, H⟩ := H
      refine wm_iald 150 37 (by decide +kernel) rfl (by decide +kernel) (by decide +kernel) o10 ?_
      exact wm_iret (by decide +kernel) ⟨.int, rfl, rfl⟩ H
  · replace H := H.1 c3
    refine wm_aload_n 0 13 (by decide +kernel) rfl rfl ?_
    refine wm_getr 8 12 9 126 16 fl_RX8_34 (by decide +kernel) rfl (by decide +kernel) rfl rfl (by decide) ?_
    refine wm_iload_n 2 17 (by decide +kernel) rfl rfl ?_
    obtain ⟨o11, H⟩ := H
    refine wm_iald 150 18 (by decide +kernel) rfl (by decide +kernel) (by decide +kernel) o11 ?_
    refine wm_aload_n 0 19 (by decide +kernel) rfl rfl ?_
    refine wm_getr 8 15 12 129 22 fl_RX8_43 (by decide +kernel) rfl (by decide +kernel) rfl rfl (by decide) ?_
    refine wm_iload_n 2 23 (by decide +kernel) rfl rfl ?_
    obtain ⟨o12, H⟩ := H
    refine wm_iald 150 24 (by decide +kernel) rfl (by decide +kernel) (by decide +kernel) o12 ?_
    refine wm_isub 25 (by decide +kernel) rfl ?_
    exact wm_iret (by decide +kernel) ⟨.int, rfl, rfl⟩ H
def f_X8_moves (x1 : Int32) (x2 : Int32) (x3 : Int32) (h : HP) (Q : HP → Prop) : Prop :=
  vp_in x1 150 ∧
  ∀ x4_2 : Int32, x4_2 = (gi h 132 (ix x1)) →
  (((x4_2 = 2) →
    vp_in x2 150 ∧
    vp_in x2 150 ∧
    ∀ h17 : HP, h17 = si h 129 (ix x2) ((gi h 129 (ix x2)) + x3) →
    Q h17) ∧
   (¬ (x4_2 = 2) →
    (((x4_2 = 3) →
      vp_in x1 150 ∧
      vp_in x1 150 ∧
      ∀ h14 : HP, h14 = si h 129 (ix x1) ((gi h 129 (ix x1)) - x3) →
      Q h14) ∧
     (¬ (x4_2 = 3) →
      (((30 ≤ x4_2) →
        vp_in ((25 * (x4_2 - 30)) + (x1 - x1 / 25 * 25)) 250 ∧
        vp_in ((25 * (x4_2 - 30)) + (x1 - x1 / 25 * 25)) 250 ∧
        ∀ h8 : HP, h8 = si h 130 (ix ((25 * (x4_2 - 30)) + (x1 - x1 / 25 * 25))) ((gi h 130 (ix ((25 * (x4_2 - 30)) + (x1 - x1 / 25 * 25)))) - x3) →
        Q h8) ∧
       (¬ (30 ≤ x4_2) →
        vp_in ((25 * (x4_2 - 10)) + (x2 - x2 / 25 * 25)) 250 ∧
        vp_in ((25 * (x4_2 - 10)) + (x2 - x2 / 25 * 25)) 250 ∧
        ∀ h11 : HP, h11 = si h 130 (ix ((25 * (x4_2 - 10)) + (x2 - x2 / 25 * 25))) ((gi h 130 (ix ((25 * (x4_2 - 10)) + (x2 - x2 / 25 * 25)))) + x3) →
        Q h11))))))
set_option maxRecDepth 20000 in
theorem l_X8_moves (g : GE) (x1 : Int32) (x2 : Int32) (x3 : Int32)  (h : HP) (Q : HP → Prop) (H : f_X8_moves x1 x2 x3 h Q) : Wm g mX8_moves 0 [some (.ref 117), some (.int x1), some (.int x2), some (.int x3), none] [] h (qv Q) := by
  unfold f_X8_moves at H
  refine wm_aload_n 0 1 (by decide +kernel) rfl rfl ?_
  refine wm_getr 8 18 15 132 4 fl_RX8_52 (by decide +kernel) rfl (by decide +kernel) rfl rfl (by decide) ?_
  refine wm_iload_n 1 5 (by decide +kernel) rfl rfl ?_
  obtain ⟨o1, H⟩ := H
  refine wm_iald 150 6 (by decide +kernel) rfl (by decide +kernel) (by decide +kernel) o1 ?_
  replace H := H _ rfl
  refine wm_istore 4 8 [some _, some _, some _, some _, some _] (by decide +kernel) rfl (by decide +kernel) (okS_spec rfl) rfl ?_
  refine wm_iload 4 10 (by decide +kernel) rfl rfl ?_
  refine wm_iconst 2 11 (by decide +kernel : decode cX8_moves 10 = .ok (.iconst 2, 1)) rfl (by decide +kernel) ?_
  refine wm_icmp_ne 14 27 (by decide +kernel : decode cX8_moves 11 = .ok (.if_icmp .ne 16, 3)) (by decide) rfl (fun c3 => ?_) (fun c3 => ?_)
  · replace H := H.2 c3
    refine wm_iload 4 29 (by decide +kernel) rfl rfl ?_
    refine wm_iconst 3 30 (by decide +kernel : decode cX8_moves 29 = .ok (.iconst 3, 1)) rfl (by decide +kernel) ?_
    refine wm_icmp_ne 33 46 (by decide +kernel : decode cX8_moves 30 = .ok (.if_icmp .ne 16, 3)) (by decide) rfl (fun c4 => ?_) (fun c4 => ?_)
    · replace H := H.2 c4
      refine wm_iload 4 48 (by decide +kernel) rfl rfl ?_
      refine wm_bipush 30 50 (by decide +kernel : decode cX8_moves 48 = .ok (.bipush 30, 2)) rfl (by decide +kernel) ?_
      refine wm_icmp_ge 53 78 (by decide +kernel : decode cX8_moves 50 = .ok (.if_icmp .ge 28, 3)) (by decide) rfl (fun c5 => ?_) (fun c5 => ?_)
      · replace H := H.1 c5
        refine wm_aload_n 0 79 (by decide +kernel) rfl rfl ?_
        refine wm_getr 8 16 13 130 82 fl_RX8_46 (by decide +kernel) rfl (by decide +kernel) rfl rfl (by decide) ?_
        refine wm_bipush 25 84 (by decide +kernel : decode cX8_moves 82 = .ok (.bipush 25, 2)) rfl (by decide +kernel) ?_
        refine wm_iload 4 86 (by decide +kernel) rfl rfl ?_
        refine wm_bipush 30 88 (by decide +kernel : decode cX8_moves 86 = .ok (.bipush 30, 2)) rfl (by decide +kernel) ?_
        refine wm_isub 89 (by decide +kernel) rfl ?_
        refine wm_imul 90 (by decide +kernel) rfl ?_
        refine wm_iload_n 1 91 (by decide +kernel) rfl rfl ?_
        refine wm_bipush 25 93 (by decide +kernel : decode cX8_moves 91 = .ok (.bipush 25, 2)) rfl (by decide +kernel) ?_
        refine wm_irem 94 (by decide +kernel) rfl (by decide +kernel) ?_
        refine wm_iadd 95 (by decide +kernel) rfl ?_
        refine wm_dup2 96 (by decide +kernel) rfl rfl rfl ?_
        obtain ⟨o6, H⟩ := H
        refine wm_iald 250 97 (by decide +kernel) rfl (by decide +kernel) (by decide +kernel) o6 ?_
        refine wm_iload_n 3 98 (by decide +kernel) rfl rfl ?_
        refine wm_isub 99 (by decide +kernel) rfl ?_
        obtain ⟨o7, H⟩ := H
        replace H := H _ rfl
        refine wm_iast 250 100 (by decide +kernel) rfl (by decide +kernel) (by decide +kernel) o7 ?_
        exact wm_vret (by decide +kernel) rfl H
      · replace H := H.2 c5
        refine wm_aload_n 0 54 (by decide +kernel) rfl rfl ?_
        refine wm_getr 8 16 13 130 57 fl_RX8_46 (by decide +kernel) rfl (by decide +kernel) rfl rfl (by decide) ?_
        refine wm_bipush 25 59 (by decide +kernel : decode cX8_moves 57 = .ok (.bipush 25, 2)) rfl (by decide +kernel) ?_
        refine wm_iload 4 61 (by decide +kernel) rfl rfl ?_
        refine wm_bipush 10 63 (by decide +kernel : decode cX8_moves 61 = .ok (.bipush 10, 2)) rfl (by decide +kernel) ?_
        refine wm_isub 64 (by decide +kernel) rfl ?_
        refine wm_imul 65 (by decide +kernel) rfl ?_
        refine wm_iload_n 2 66 (by decide +kernel) rfl rfl ?_
        refine wm_bipush 25 68 (by decide +kernel : decode cX8_moves 66 = .ok (.bipush 25, 2)) rfl (by decide +kernel) ?_
        refine wm_irem 69 (by decide +kernel) rfl (by decide +kernel) ?_
        refine wm_iadd 70 (by decide +kernel) rfl ?_
        refine wm_dup2 71 (by decide +kernel) rfl rfl rfl ?_
        obtain ⟨o9, H⟩ := H
        refine wm_iald 250 72 (by decide +kernel) rfl (by decide +kernel) (by decide +kernel) o9 ?_
        refine wm_iload_n 3 73 (by decide +kernel) rfl rfl ?_
        refine wm_iadd 74 (by decide +kernel) rfl ?_
        obtain ⟨o10, H⟩ := H
        replace H := H _ rfl
        refine wm_iast 250 75 (by decide +kernel) rfl (by decide +kernel) (by decide +kernel) o10 ?_
        refine wm_goto 100 (by decide +kernel : decode cX8_moves 75 = .ok (.goto 25, 3)) (by decide) ?_
        exact wm_vret (by decide +kernel) rfl H
    · replace H := H.1 c4
      refine wm_aload_n 0 34 (by decide +kernel) rfl rfl ?_
      refine wm_getr 8 15 12 129 37 fl_RX8_43 (by decide +kernel) rfl (by decide +kernel) rfl rfl (by decide) ?_
      refine wm_iload_n 1 38 (by decide +kernel) rfl rfl ?_
      refine wm_dup2 39 (by decide +kernel) rfl rfl rfl ?_
      obtain ⟨o12, H⟩ := H
      refine wm_iald 150 40 (by decide +kernel) rfl (by decide +kernel) (by decide +kernel) o12 ?_
      refine wm_iload_n 3 41 (by decide +kernel) rfl rfl ?_
      refine wm_isub 42 (by decide +kernel) rfl ?_
      obtain ⟨o13, H⟩ := H
      replace H := H _ rfl
      refine wm_iast 150 43 (by decide +kernel) rfl (by decide +kernel) (by decide +kernel) o13 ?_
      refine wm_goto 100 (by decide +kernel : decode cX8_moves 43 = .ok (.goto 57, 3)) (by decide) ?_
      exact wm_vret (by decide +kernel) rfl H
  · replace H := H.1 c3
    refine wm_aload_n 0 15 (by decide +kernel) rfl rfl ?_
    refine wm_getr 8 15 12 129 18 fl_RX8_43 (by decide +kernel) rfl (by decide +kernel) rfl rfl (by decide) ?_
    refine wm_iload_n 2 19 (by decide +kernel) rfl rfl ?_
    refine wm_dup2 20 (by decide +kernel) rfl rfl rfl ?_
    obtain ⟨o15, H⟩ := H
    refine wm_iald 150 21 (by decide +kernel) rfl (by decide +kernel) (by decide +kernel) o15 ?_
    refine wm_iload_n 3 22 (by decide +kernel) rfl rfl ?_
    refine wm_iadd 23 (by decide +kernel) rfl ?_
    obtain ⟨o16, H⟩ := H
    replace H := H _ rfl
    refine wm_iast 150 24 (by decide +kernel) rfl (by decide +kernel) (by decide +kernel) o16 ?_
    refine wm_goto 100 (by decide +kernel : decode cX8_moves 24 = .ok (.goto 76, 3)) (by decide) ?_
    exact wm_vret (by decide +kernel) rfl H
def f_X8_brings_L59 (x1 : Int32) (x2 : Int32) (x3 : Int32) (x5 : Int32) (x6 : Int32) (k111 : Int32 → Int32 → HP → Prop) (Q : Int32 → HP → Prop) : Nat → Int32 → Int32 → HP → Prop
  | 0, _, _, _ => False
  | n + 1, x7, x8, h =>
    vp_in x8 150 ∧
    ((((gi h 132 (ix x8)) = 1) →
      k111 x7 x8 h) ∧
     (¬ ((gi h 132 (ix x8)) = 1) →
      f_X8_behind x8 h (fun v12 h11 =>
      f_X8_leftFor x8 v12 h11 (fun v14 h13 =>
      ∀ x7_17 : Int32, x7_17 = (if x7 ≤ v14 then (x7 : Int32) else v14) →
      f_X8_brings_L59 x1 x2 x3 x5 x6 k111 Q n x7_17 v12 h13))))
def f_X8_brings_L181 (x1 : Int32) (x2 : Int32) (x3 : Int32) (x7 : Int32) (k217 : HP → Prop) (Q : Int32 → HP → Prop) : Nat → Int32 → HP → Prop
  | 0, _, _ => False
  | n + 1, x8, h =>
    vp_in x8 150 ∧
    ((((gi h 132 (ix x8)) = 1) →
      k217 h) ∧
     (¬ ((gi h 132 (ix x8)) = 1) →
      f_X8_behind x8 h (fun v37 h36 =>
      f_X8_moves x8 v37 x7 h36 (fun h38 =>
      f_X8_brings_L181 x1 x2 x3 x7 k217 Q n v37 h38))))
def f_X8_brings_L10 (x1 : Int32) (x2 : Int32)  (Q : Int32 → HP → Prop) : Nat → Int32 → Int32 → HP → Prop
  | 0, _, _, _ => False
  | n + 1, x3, x4, h =>
    (((x4 < 0) →
      Q x3 h) ∧
     (¬ (x4 < 0) →
      ∀ x5_4 : Int32, x5_4 = (x4 / 10) →
      ∀ x6_5 : Int32, x6_5 = ((25 * (x4 - x4 / 10 * 10)) + (x5_4 - x5_4 / 25 * 25)) →
      vp_in x6_5 250 ∧
      vp_in x6_5 250 ∧
      ∀ x7_8 : Int32, x7_8 = ((gi h 125 (ix x6_5)) - (gi h 130 (ix x6_5))) →
      ∃ n44, f_X8_brings_L59 x1 x2 x3 x5_4 x6_5
        (fun x7_18 x8_19 h20 =>
          vp_in x8_19 150 ∧
          vp_in x8_19 150 ∧
          (¬ (x7_18 ≤ ((gi h20 127 (ix x8_19)) - (gi h20 128 (ix x8_19)))) → vp_in x8_19 150 ∧ vp_in x8_19 150) ∧
          ∀ x7_27 : Int32, x7_27 = (if x7_18 ≤ ((gi h20 127 (ix x8_19)) - (gi h20 128 (ix x8_19))) then (x7_18 : Int32) else ((gi h20 127 (ix x8_19)) - (gi h20 128 (ix x8_19)))) →
          vp_in x8_19 150 ∧
          vp_in x8_19 150 ∧
          ∀ h30 : HP, h30 = si h20 128 (ix x8_19) ((gi h20 128 (ix x8_19)) + x7_27) →
          vp_in x6_5 250 ∧
          vp_in x6_5 250 ∧
          ∀ h33 : HP, h33 = si h30 130 (ix x6_5) ((gi h30 130 (ix x6_5)) + x7_27) →
          ∃ n43, f_X8_brings_L181 x1 x2 x3 x7_27
            (fun h39 =>
              ∀ x3_40 : Int32, x3_40 = (x3 + x7_27) →
              f_X8_searches x1 x2 h39 (fun v42 h41 =>
              f_X8_brings_L10 x1 x2 Q n x3_40 v42 h41))
            Q n43 x5_4 h33)
        Q n44 x7_8 x5_4 h))
def f_X8_brings (x1 : Int32) (x2 : Int32) (h : HP) (Q : Int32 → HP → Prop) : Prop :=
  f_X8_searches x1 x2 h (fun v2 h1 =>
  ∃ n45, f_X8_brings_L10 x1 x2
    Q n45 0 v2 h1)
set_option maxRecDepth 20000 in
theorem l_X8_brings_L59 (g : GE) (x1 : Int32) (x2 : Int32) (x3 : Int32) (x5 : Int32) (x6 : Int32)  (k111 : Int32 → Int32 → HP → Prop) (Q : Int32 → HP → Prop) (hk111 : ∀ (x7 : Int32) (x8 : Int32) (h : HP), k111 x7 x8 h → Wm g mX8_brings 111 [some (.ref 117), some (.int x1), some (.int x2), some (.int x3), none, some (.int x5), some (.int x6), some (.int x7), some (.int x8), none, none] [] h (qi Q)) : ∀ (n : Nat) (x7 : Int32) (x8 : Int32) (h : HP), f_X8_brings_L59 x1 x2 x3 x5 x6 k111 Q n x7 x8 h → Wm g mX8_brings 59 [some (.ref 117), some (.int x1), some (.int x2), some (.int x3), none, some (.int x5), some (.int x6), some (.int x7), some (.int x8), none, none] [] h (qi Q) := by
  intro n
  induction n with
  | zero => intro x7 x8 h H; exact H.elim
  | succ n ih =>
    intro x7 x8 h H
    unfold f_X8_brings_L59 at H
    refine wm_aload_n 0 60 (by decide +kernel) rfl rfl ?_
    refine wm_getr 8 18 15 132 63 fl_RX8_52 (by decide +kernel) rfl (by decide +kernel) rfl rfl (by decide) ?_
    refine wm_iload 8 65 (by decide +kernel) rfl rfl ?_
    obtain ⟨o9, H⟩ := H
    refine wm_iald 150 66 (by decide +kernel) rfl (by decide +kernel) (by decide +kernel) o9 ?_
    refine wm_iconst 1 67 (by decide +kernel : decode cX8_brings 66 = .ok (.iconst 1, 1)) rfl (by decide +kernel) ?_
    refine wm_icmp_eq 70 111 (by decide +kernel : decode cX8_brings 67 = .ok (.if_icmp .eq 44, 3)) (by decide) rfl (fun c10 => ?_) (fun c10 => ?_)
    · replace H := H.1 c10
      exact hk111 _ _ _ H
    · replace H := H.2 c10
      refine wm_aload_n 0 71 (by decide +kernel) rfl rfl ?_
      refine wm_iload 8 73 (by decide +kernel) rfl rfl ?_
      refine wm_callVi mX8_behind 1 8 [_] [] _ _ 76 mo_X8_behind np_X8_behind ml_RX8_223 im_X8_behind se_X8_behind (by decide +kernel) (by decide +kernel) rfl rfl rfl (Nat.le_of_ble_eq_true rfl) (by decide +kernel) rfl (Nat.le_of_ble_eq_true rfl) _ (ent_pad 3 rfl) (l_X8_behind g _ _ _ H) (fun v12 h11 H hzv12 => ?_)
      refine wm_istore 9 78 [some _, some _, some _, some _, none, some _, some _, some _, some _, some _, none] (by decide +kernel) rfl (by decide +kernel) (okS_spec rfl) rfl ?_
      refine wm_aload_n 0 79 (by decide +kernel) rfl rfl ?_
      refine wm_iload 8 81 (by decide +kernel) rfl rfl ?_
      refine wm_iload 9 83 (by decide +kernel) rfl rfl ?_
      refine wm_callVi mX8_leftFor 2 8 [_, _] [] _ _ 86 mo_X8_leftFor np_X8_leftFor ml_RX8_226 im_X8_leftFor se_X8_leftFor (by decide +kernel) (by decide +kernel) rfl rfl rfl (Nat.le_of_ble_eq_true rfl) (by decide +kernel) rfl (Nat.le_of_ble_eq_true rfl) _ (ent_pad 2 rfl) (l_X8_leftFor g _ _ _ _ H) (fun v14 h13 H hzv14 => ?_)
      refine wm_istore 10 88 [some _, some _, some _, some _, none, some _, some _, some _, some _, some _, some _] (by decide +kernel) rfl (by decide +kernel) (okS_spec rfl) rfl ?_
      refine wm_iload 10 90 (by decide +kernel) rfl rfl ?_
      refine wm_iload 7 92 (by decide +kernel) rfl rfl ?_
      refine' wm_dia (pcJ := 102) (fun kt kf => wm_icmp_ge 95 100 (by decide +kernel : decode cX8_brings 92 = .ok (.if_icmp .ge 8, 3)) (by decide) rfl kt kf) ?D16k (fun kj c1 => ?D16t) (fun kj c1 => ?D16f)
      case D16t =>
        refine wm_iload 7 102 (by decide +kernel) rfl rfl ?_
        exact kj
      case D16f =>
        refine wm_iload 10 97 (by decide +kernel) rfl rfl ?_
        refine wm_goto 102 (by decide +kernel : decode cX8_brings 97 = .ok (.goto 5, 3)) (by decide) ?_
        exact kj
      case D16k =>
        replace H := H _ rfl
        refine wm_istore 7 104 [some _, some _, some _, some _, none, some _, some _, some _, some _, some _, some _] (by decide +kernel) rfl (by decide +kernel) (okS_spec rfl) rfl ?_
        refine wm_iload 9 106 (by decide +kernel) rfl rfl ?_
        refine wm_istore 8 108 [some _, some _, some _, some _, none, some _, some _, some _, some _, some _, some _] (by decide +kernel) rfl (by decide +kernel) (okS_spec rfl) rfl ?_
        refine wm_goto 59 (by decide +kernel : decode cX8_brings 108 = .ok (.goto (-49), 3)) (by decide) ?_
        refine wm_mask [true, true, true, true, false, true, true, true, true, false, false] [some _, some _, some _, some _, none, some _, some _, some _, some _, none, none] rfl ?_
        exact ih _ _ _ H
set_option maxRecDepth 20000 in
theorem l_X8_brings_L181 (g : GE) (x1 : Int32) (x2 : Int32) (x3 : Int32) (x7 : Int32)  (k217 : HP → Prop) (Q : Int32 → HP → Prop) (hk217 : ∀  (h : HP), k217  h → Wm g mX8_brings 217 [some (.ref 117), some (.int x1), some (.int x2), some (.int x3), none, none, none, some (.int x7), none, none, none] [] h (qi Q)) : ∀ (n : Nat) (x8 : Int32) (h : HP), f_X8_brings_L181 x1 x2 x3 x7 k217 Q n x8 h → Wm g mX8_brings 181 [some (.ref 117), some (.int x1), some (.int x2), some (.int x3), none, none, none, some (.int x7), some (.int x8), none, none] [] h (qi Q) := by
  intro n
  induction n with
  | zero => intro x8 h H; exact H.elim
  | succ n ih =>
    intro x8 h H
    unfold f_X8_brings_L181 at H
    refine wm_aload_n 0 182 (by decide +kernel) rfl rfl ?_
    refine wm_getr 8 18 15 132 185 fl_RX8_52 (by decide +kernel) rfl (by decide +kernel) rfl rfl (by decide) ?_
    refine wm_iload 8 187 (by decide +kernel) rfl rfl ?_
    obtain ⟨o34, H⟩ := H
    refine wm_iald 150 188 (by decide +kernel) rfl (by decide +kernel) (by decide +kernel) o34 ?_
    refine wm_iconst 1 189 (by decide +kernel : decode cX8_brings 188 = .ok (.iconst 1, 1)) rfl (by decide +kernel) ?_
    refine wm_icmp_eq 192 217 (by decide +kernel : decode cX8_brings 189 = .ok (.if_icmp .eq 28, 3)) (by decide) rfl (fun c35 => ?_) (fun c35 => ?_)
    · replace H := H.1 c35
      refine wm_mask [true, true, true, true, false, false, false, true, false, false, false] [some _, some _, some _, some _, none, none, none, some _, none, none, none] rfl ?_
      exact hk217 _ H
    · replace H := H.2 c35
      refine wm_aload_n 0 193 (by decide +kernel) rfl rfl ?_
      refine wm_iload 8 195 (by decide +kernel) rfl rfl ?_
      refine wm_callVi mX8_behind 1 8 [_] [] _ _ 198 mo_X8_behind np_X8_behind ml_RX8_223 im_X8_behind se_X8_behind (by decide +kernel) (by decide +kernel) rfl rfl rfl (Nat.le_of_ble_eq_true rfl) (by decide +kernel) rfl (Nat.le_of_ble_eq_true rfl) _ (ent_pad 3 rfl) (l_X8_behind g _ _ _ H) (fun v37 h36 H hzv37 => ?_)
      refine wm_istore 9 200 [some _, some _, some _, some _, none, none, none, some _, some _, some _, none] (by decide +kernel) rfl (by decide +kernel) (okS_spec rfl) rfl ?_
      refine wm_aload_n 0 201 (by decide +kernel) rfl rfl ?_
      refine wm_iload 8 203 (by decide +kernel) rfl rfl ?_
      refine wm_iload 9 205 (by decide +kernel) rfl rfl ?_
      refine wm_iload 7 207 (by decide +kernel) rfl rfl ?_
      refine wm_callVv mX8_moves 3 8 [_, _, _] [] _ _ 210 mo_X8_moves np_X8_moves ml_RX8_229 im_X8_moves se_X8_moves (by decide +kernel) (by decide +kernel) rfl rfl rfl (Nat.le_of_ble_eq_true rfl) (by decide +kernel) rfl (Nat.le_of_ble_eq_true rfl) _ (ent_pad 1 rfl) (l_X8_moves g _ _ _ _ _ H) (fun h38 H => ?_)
      refine wm_iload 9 212 (by decide +kernel) rfl rfl ?_
      refine wm_istore 8 214 [some _, some _, some _, some _, none, none, none, some _, some _, some _, none] (by decide +kernel) rfl (by decide +kernel) (okS_spec rfl) rfl ?_
      refine wm_goto 181 (by decide +kernel : decode cX8_brings 214 = .ok (.goto (-33), 3)) (by decide) ?_
      refine wm_mask [true, true, true, true, false, false, false, true, true, false, false] [some _, some _, some _, some _, none, none, none, some _, some _, none, none] rfl ?_
      exact ih _ _ H
set_option maxRecDepth 20000 in
theorem l_X8_brings_L10 (g : GE) (x1 : Int32) (x2 : Int32)   (Q : Int32 → HP → Prop)  : ∀ (n : Nat) (x3 : Int32) (x4 : Int32) (h : HP), f_X8_brings_L10 x1 x2 Q n x3 x4 h → Wm g mX8_brings 10 [some (.ref 117), some (.int x1), some (.int x2), some (.int x3), some (.int x4), none, none, none, none, none, none] [] h (qi Q) := by
  intro n
  induction n with
  | zero => intro x3 x4 h H; exact H.elim
  | succ n ih =>
    intro x3 x4 h H
    unfold f_X8_brings_L10 at H
    refine wm_iload 4 12 (by decide +kernel) rfl rfl ?_
    refine wm_if_lt 15 233 (by decide +kernel : decode cX8_brings 12 = .ok (.ifCond .lt 221, 3)) (by decide) rfl (fun c3 => ?_) (fun c3 => ?_)
    · replace H := H.1 c3
      refine wm_iload_n 3 234 (by decide +kernel) rfl rfl ?_
      exact wm_iret (by decide +kernel) ⟨.int, rfl, rfl⟩ H
    · replace H := H.2 c3
      refine wm_iload 4 17 (by decide +kernel) rfl rfl ?_
      refine wm_bipush 10 19 (by decide +kernel : decode cX8_brings 17 = .ok (.bipush 10, 2)) rfl (by decide +kernel) ?_
      refine wm_idiv 20 (by decide +kernel) rfl (by decide +kernel) ?_
      replace H := H _ rfl
      refine wm_istore 5 22 [some _, some _, some _, some _, some _, some _, none, none, none, none, none] (by decide +kernel) rfl (by decide +kernel) (okS_spec rfl) rfl ?_
      refine wm_bipush 25 24 (by decide +kernel : decode cX8_brings 22 = .ok (.bipush 25, 2)) rfl (by decide +kernel) ?_
      refine wm_iload 4 26 (by decide +kernel) rfl rfl ?_
      refine wm_bipush 10 28 (by decide +kernel : decode cX8_brings 26 = .ok (.bipush 10, 2)) rfl (by decide +kernel) ?_
      refine wm_irem 29 (by decide +kernel) rfl (by decide +kernel) ?_
      refine wm_imul 30 (by decide +kernel) rfl ?_
      refine wm_iload 5 32 (by decide +kernel) rfl rfl ?_
      refine wm_bipush 25 34 (by decide +kernel : decode cX8_brings 32 = .ok (.bipush 25, 2)) rfl (by decide +kernel) ?_
      refine wm_irem 35 (by decide +kernel) rfl (by decide +kernel) ?_
      refine wm_iadd 36 (by decide +kernel) rfl ?_
      replace H := H _ rfl
      refine wm_istore 6 38 [some _, some _, some _, some _, some _, some _, some _, none, none, none, none] (by decide +kernel) rfl (by decide +kernel) (okS_spec rfl) rfl ?_
      refine wm_aload_n 0 39 (by decide +kernel) rfl rfl ?_
      refine wm_getr 8 11 8 125 42 fl_RX8_31 (by decide +kernel) rfl (by decide +kernel) rfl rfl (by decide) ?_
      refine wm_iload 6 44 (by decide +kernel) rfl rfl ?_
      obtain ⟨o6, H⟩ := H
      refine wm_iald 250 45 (by decide +kernel) rfl (by decide +kernel) (by decide +kernel) o6 ?_
      refine wm_aload_n 0 46 (by decide +kernel) rfl rfl ?_
      refine wm_getr 8 16 13 130 49 fl_RX8_46 (by decide +kernel) rfl (by decide +kernel) rfl rfl (by decide) ?_
      refine wm_iload 6 51 (by decide +kernel) rfl rfl ?_
      obtain ⟨o7, H⟩ := H
      refine wm_iald 250 52 (by decide +kernel) rfl (by decide +kernel) (by decide +kernel) o7 ?_
      refine wm_isub 53 (by decide +kernel) rfl ?_
      replace H := H _ rfl
      refine wm_istore 7 55 [some _, some _, some _, some _, some _, some _, some _, some _, none, none, none] (by decide +kernel) rfl (by decide +kernel) (okS_spec rfl) rfl ?_
      refine wm_iload 5 57 (by decide +kernel) rfl rfl ?_
      refine wm_istore 8 59 [some _, some _, some _, some _, some _, some _, some _, some _, some _, none, none] (by decide +kernel) rfl (by decide +kernel) (okS_spec rfl) rfl ?_
      obtain ⟨n44, H⟩ := H
      refine wm_mask [true, true, true, true, false, true, true, true, true, false, false] [some _, some _, some _, some _, none, some _, some _, some _, some _, none, none] rfl ?_
      refine l_X8_brings_L59 g _ _ _ _ _ _ _ (fun x7_18 x8_19 h20 H => ?_) _ _ _ _ H
      · skip
        refine wm_aload_n 0 112 (by decide +kernel) rfl rfl ?_
        refine wm_getr 8 13 10 127 115 fl_RX8_37 (by decide +kernel) rfl (by decide +kernel) rfl rfl (by decide) ?_
        refine wm_iload 8 117 (by decide +kernel) rfl rfl ?_
        obtain ⟨o21, H⟩ := H
        refine wm_iald 150 118 (by decide +kernel) rfl (by decide +kernel) (by decide +kernel) o21 ?_
        refine wm_aload_n 0 119 (by decide +kernel) rfl rfl ?_
        refine wm_getr 8 14 11 128 122 fl_RX8_40 (by decide +kernel) rfl (by decide +kernel) rfl rfl (by decide) ?_
        refine wm_iload 8 124 (by decide +kernel) rfl rfl ?_
        obtain ⟨o22, H⟩ := H
        refine wm_iald 150 125 (by decide +kernel) rfl (by decide +kernel) (by decide +kernel) o22 ?_
        refine wm_isub 126 (by decide +kernel) rfl ?_
        refine wm_iload 7 128 (by decide +kernel) rfl rfl ?_
        obtain ⟨D26b, H⟩ := H
        refine' wm_dia (pcJ := 151) (fun kt kf => wm_icmp_ge 131 149 (by decide +kernel : decode cX8_brings 128 = .ok (.if_icmp .ge 21, 3)) (by decide) rfl kt kf) ?D26k (fun kj c1 => ?D26t) (fun kj c1 => ?D26f)
        case D26t =>
          refine wm_iload 7 151 (by decide +kernel) rfl rfl ?_
          exact kj
        case D26f =>
          have H := D26b c1
          refine wm_aload_n 0 132 (by decide +kernel) rfl rfl ?_
          refine wm_getr 8 13 10 127 135 fl_RX8_37 (by decide +kernel) rfl (by decide +kernel) rfl rfl (by decide) ?_
          refine wm_iload 8 137 (by decide +kernel) rfl rfl ?_
          obtain ⟨o24, H⟩ := H
          refine wm_iald 150 138 (by decide +kernel) rfl (by decide +kernel) (by decide +kernel) o24 ?_
          refine wm_aload_n 0 139 (by decide +kernel) rfl rfl ?_
          refine wm_getr 8 14 11 128 142 fl_RX8_40 (by decide +kernel) rfl (by decide +kernel) rfl rfl (by decide) ?_
          refine wm_iload 8 144 (by decide +kernel) rfl rfl ?_
          have o25 := H
          refine wm_iald 150 145 (by decide +kernel) rfl (by decide +kernel) (by decide +kernel) o25 ?_
          refine wm_isub 146 (by decide +kernel) rfl ?_
          refine wm_goto 151 (by decide +kernel : decode cX8_brings 146 = .ok (.goto 5, 3)) (by decide) ?_
          exact kj
        case D26k =>
          replace H := H _ rfl
          refine wm_istore 7 153 [some _, some _, some _, some _, none, some _, some _, some _, some _, none, none] (by decide +kernel) rfl (by decide +kernel) (okS_spec rfl) rfl ?_
          refine wm_aload_n 0 154 (by decide +kernel) rfl rfl ?_
          refine wm_getr 8 14 11 128 157 fl_RX8_40 (by decide +kernel) rfl (by decide +kernel) rfl rfl (by decide) ?_
          refine wm_iload 8 159 (by decide +kernel) rfl rfl ?_
          refine wm_dup2 160 (by decide +kernel) rfl rfl rfl ?_
          obtain ⟨o28, H⟩ := H
          refine wm_iald 150 161 (by decide +kernel) rfl (by decide +kernel) (by decide +kernel) o28 ?_
          refine wm_iload 7 163 (by decide +kernel) rfl rfl ?_
          refine wm_iadd 164 (by decide +kernel) rfl ?_
          obtain ⟨o29, H⟩ := H
          replace H := H _ rfl
          refine wm_iast 150 165 (by decide +kernel) rfl (by decide +kernel) (by decide +kernel) o29 ?_
          refine wm_aload_n 0 166 (by decide +kernel) rfl rfl ?_
          refine wm_getr 8 16 13 130 169 fl_RX8_46 (by decide +kernel) rfl (by decide +kernel) rfl rfl (by decide) ?_
          refine wm_iload 6 171 (by decide +kernel) rfl rfl ?_
          refine wm_dup2 172 (by decide +kernel) rfl rfl rfl ?_
          obtain ⟨o31, H⟩ := H
          refine wm_iald 250 173 (by decide +kernel) rfl (by decide +kernel) (by decide +kernel) o31 ?_
          refine wm_iload 7 175 (by decide +kernel) rfl rfl ?_
          refine wm_iadd 176 (by decide +kernel) rfl ?_
          obtain ⟨o32, H⟩ := H
          replace H := H _ rfl
          refine wm_iast 250 177 (by decide +kernel) rfl (by decide +kernel) (by decide +kernel) o32 ?_
          refine wm_iload 5 179 (by decide +kernel) rfl rfl ?_
          refine wm_istore 8 181 [some _, some _, some _, some _, none, some _, some _, some _, some _, none, none] (by decide +kernel) rfl (by decide +kernel) (okS_spec rfl) rfl ?_
          obtain ⟨n43, H⟩ := H
          refine wm_mask [true, true, true, true, false, false, false, true, true, false, false] [some _, some _, some _, some _, none, none, none, some _, some _, none, none] rfl ?_
          refine l_X8_brings_L181 g _ _ _ _ _ _ (fun h39 H => ?_) _ _ _ H
          · skip
            refine wm_iload_n 3 218 (by decide +kernel) rfl rfl ?_
            refine wm_iload 7 220 (by decide +kernel) rfl rfl ?_
            refine wm_iadd 221 (by decide +kernel) rfl ?_
            replace H := H _ rfl
            refine wm_istore_n 3 222 [some _, some _, some _, some _, none, none, none, some _, none, none, none] (by decide +kernel) rfl (by decide +kernel) (okS_spec rfl) rfl ?_
            refine wm_aload_n 0 223 (by decide +kernel) rfl rfl ?_
            refine wm_iload_n 1 224 (by decide +kernel) rfl rfl ?_
            refine wm_iload_n 2 225 (by decide +kernel) rfl rfl ?_
            refine wm_callVi mX8_searches 2 8 [_, _] [] _ _ 228 mo_X8_searches np_X8_searches ml_RX8_220 im_X8_searches se_X8_searches (by decide +kernel) (by decide +kernel) rfl rfl rfl (Nat.le_of_ble_eq_true rfl) (by decide +kernel) rfl (Nat.le_of_ble_eq_true rfl) _ (ent_pad 2 rfl) (l_X8_searches g _ _ _ _ H) (fun v42 h41 H hzv42 => ?_)
            refine wm_istore 4 230 [some _, some _, some _, some _, some _, none, none, some _, none, none, none] (by decide +kernel) rfl (by decide +kernel) (okS_spec rfl) rfl ?_
            refine wm_goto 10 (by decide +kernel : decode cX8_brings 230 = .ok (.goto (-220), 3)) (by decide) ?_
            refine wm_mask [true, true, true, true, true, false, false, false, false, false, false] [some _, some _, some _, some _, some _, none, none, none, none, none, none] rfl ?_
            exact ih _ _ _ H
set_option maxRecDepth 20000 in
theorem l_X8_brings (g : GE) (x1 : Int32) (x2 : Int32)  (h : HP) (Q : Int32 → HP → Prop) (H : f_X8_brings x1 x2 h Q) : Wm g mX8_brings 0 [some (.ref 117), some (.int x1), some (.int x2), none, none, none, none, none, none, none, none] [] h (qi Q) := by
  unfold f_X8_brings at H
  refine wm_iconst 0 1 (by decide +kernel : decode cX8_brings 0 = .ok (.iconst 0, 1)) rfl (by decide +kernel) ?_
  refine wm_istore_n 3 2 [some _, some _, some _, some _, none, none, none, none, none, none, none] (by decide +kernel) rfl (by decide +kernel) (okS_spec rfl) rfl ?_
  refine wm_aload_n 0 3 (by decide +kernel) rfl rfl ?_
  refine wm_iload_n 1 4 (by decide +kernel) rfl rfl ?_
  refine wm_iload_n 2 5 (by decide +kernel) rfl rfl ?_
  refine wm_callVi mX8_searches 2 8 [_, _] [] _ _ 8 mo_X8_searches np_X8_searches ml_RX8_220 im_X8_searches se_X8_searches (by decide +kernel) (by decide +kernel) rfl rfl rfl (Nat.le_of_ble_eq_true rfl) (by decide +kernel) rfl (Nat.le_of_ble_eq_true rfl) _ (ent_pad 2 rfl) (l_X8_searches g _ _ _ _ H) (fun v2 h1 H hzv2 => ?_)
  refine wm_istore 4 10 [some _, some _, some _, some _, some _, none, none, none, none, none, none] (by decide +kernel) rfl (by decide +kernel) (okS_spec rfl) rfl ?_
  obtain ⟨n45, H⟩ := H
  refine l_X8_brings_L10 g _ _ _  _ _ _ _ H
def f_X8_ownTill_L5 (x1 : Int32) (x2 : Int32)  (Q : Int32 → HP → Prop) : Nat → Int32 → Int32 → HP → Prop
  | 0, _, _, _ => False
  | n + 1, x3, x4, h =>
    (((x2 < x4) →
      Q x3 h) ∧
     (¬ (x2 < x4) →
      vp_in ((25 * x1) + x4) 150 ∧
      ∀ x3_3 : Int32, x3_3 = (x3 + (gi h 127 (ix ((25 * x1) + x4)))) →
      ∀ x4_4 : Int32, x4_4 = (x4 + 1) →
      f_X8_ownTill_L5 x1 x2 Q n x3_3 x4_4 h))
def f_X8_ownTill (x1 : Int32) (x2 : Int32) (h : HP) (Q : Int32 → HP → Prop) : Prop :=
  ∃ n5, f_X8_ownTill_L5 x1 x2
    Q n5 0 0 h
set_option maxRecDepth 20000 in
theorem l_X8_ownTill_L5 (g : GE) (x1 : Int32) (x2 : Int32)   (Q : Int32 → HP → Prop)  : ∀ (n : Nat) (x3 : Int32) (x4 : Int32) (h : HP), f_X8_ownTill_L5 x1 x2 Q n x3 x4 h → Wm g mX8_ownTill 5 [some (.ref 117), some (.int x1), some (.int x2), some (.int x3), some (.int x4)] [] h (qi Q) := by
  intro n
  induction n with
  | zero => intro x3 x4 h H; exact H.elim
  | succ n ih =>
    intro x3 x4 h H
    unfold f_X8_ownTill_L5 at H
    refine wm_iload 4 7 (by decide +kernel) rfl rfl ?_
    refine wm_iload_n 2 8 (by decide +kernel) rfl rfl ?_
    refine wm_icmp_gt 11 32 (by decide +kernel : decode cX8_ownTill 8 = .ok (.if_icmp .gt 24, 3)) (by decide) rfl (fun c1 => ?_) (fun c1 => ?_)
    · replace H := H.1 c1
      refine wm_iload_n 3 33 (by decide +kernel) rfl rfl ?_
      exact wm_iret (by decide +kernel) ⟨.int, rfl, rfl⟩ H
    · replace H := H.2 c1
      refine wm_iload_n 3 12 (by decide +kernel) rfl rfl ?_
      refine wm_aload_n 0 13 (by decide +kernel) rfl rfl ?_
      refine wm_getr 8 13 10 127 16 fl_RX8_37 (by decide +kernel) rfl (by decide +kernel) rfl rfl (by decide) ?_
      refine wm_bipush 25 18 (by decide +kernel : decode cX8_ownTill 16 = .ok (.bipush 25, 2)) rfl (by decide +kernel) ?_
      refine wm_iload_n 1 19 (by decide +kernel) rfl rfl ?_
      refine wm_imul 20 (by decide +kernel) rfl ?_
      refine wm_iload 4 22 (by decide +kernel) rfl rfl ?_
      refine wm_iadd 23 (by decide +kernel) rfl ?_
      obtain ⟨o2, H⟩ := H
      refine wm_iald 150 24 (by decide +kernel) rfl (by decide +kernel) (by decide +kernel) o2 ?_
      refine wm_iadd 25 (by decide +kernel) rfl ?_
      replace H := H _ rfl
      refine wm_istore_n 3 26 [some _, some _, some _, some _, some _] (by decide +kernel) rfl (by decide +kernel) (okS_spec rfl) rfl ?_
      replace H := H _ rfl
      refine wm_iinc 4 (_ + 1) 29 [some _, some _, some _, some _, some _] (by decide +kernel : decode cX8_ownTill 26 = .ok (.iinc 4 1, 3)) rfl (by decide +kernel) rfl (ofI_eq (by decide +kernel)) (okS_spec rfl) rfl ?_
      refine wm_goto 5 (by decide +kernel : decode cX8_ownTill 29 = .ok (.goto (-24), 3)) (by decide) ?_
      exact ih _ _ _ H
set_option maxRecDepth 20000 in
theorem l_X8_ownTill (g : GE) (x1 : Int32) (x2 : Int32)  (h : HP) (Q : Int32 → HP → Prop) (H : f_X8_ownTill x1 x2 h Q) : Wm g mX8_ownTill 0 [some (.ref 117), some (.int x1), some (.int x2), none, none] [] h (qi Q) := by
  unfold f_X8_ownTill at H
  refine wm_iconst 0 1 (by decide +kernel : decode cX8_ownTill 0 = .ok (.iconst 0, 1)) rfl (by decide +kernel) ?_
  refine wm_istore_n 3 2 [some _, some _, some _, some _, none] (by decide +kernel) rfl (by decide +kernel) (okS_spec rfl) rfl ?_
  refine wm_iconst 0 3 (by decide +kernel : decode cX8_ownTill 2 = .ok (.iconst 0, 1)) rfl (by decide +kernel) ?_
  refine wm_istore 4 5 [some _, some _, some _, some _, some _] (by decide +kernel) rfl (by decide +kernel) (okS_spec rfl) rfl ?_
  obtain ⟨n5, H⟩ := H
  refine l_X8_ownTill_L5 g _ _ _  _ _ _ _ H
def f_X8_mostBy (x1 : Int32) (x2 : Int32) (x3 : Int32) (x4 : Int32) (x5 : Int32) (x6 : Int32) (h : HP) (Q : Int32 → HP → Prop) : Prop :=
  f_X8_layOut x3 x4 x5 x6 h (fun h1 =>
  f_X8_brings x1 x2 h1 (fun v3 h2 =>
  f_X8_ownTill x1 x2 h2 (fun v5 h4 =>
  Q (v3 + v5) h4)))
set_option maxRecDepth 20000 in
theorem l_X8_mostBy (g : GE) (x1 : Int32) (x2 : Int32) (x3 : Int32) (x4 : Int32) (x5 : Int32) (x6 : Int32)  (h : HP) (Q : Int32 → HP → Prop) (H : f_X8_mostBy x1 x2 x3 x4 x5 x6 h Q) : Wm g mX8_mostBy 0 [some (.ref 117), some (.int x1), some (.int x2), some (.int x3), some (.int x4), some (.int x5), some (.int x6), none] [] h (qi Q) := by
  unfold f_X8_mostBy at H
  refine wm_aload_n 0 1 (by decide +kernel) rfl rfl ?_
  refine wm_iload_n 3 2 (by decide +kernel) rfl rfl ?_
  refine wm_iload 4 4 (by decide +kernel) rfl rfl ?_
  refine wm_iload 5 6 (by decide +kernel) rfl rfl ?_
  refine wm_iload 6 8 (by decide +kernel) rfl rfl ?_
  refine wm_callVv mX8_layOut 4 8 [_, _, _, _] [] _ _ 11 mo_X8_layOut np_X8_layOut ml_RX8_232 im_X8_layOut se_X8_layOut (by decide +kernel) (by decide +kernel) rfl rfl rfl (Nat.le_of_ble_eq_true rfl) (by decide +kernel) rfl (Nat.le_of_ble_eq_true rfl) _ (ent_pad 3 rfl) (l_X8_layOut g _ _ _ _ _ _ H) (fun h1 H => ?_)
  refine wm_aload_n 0 12 (by decide +kernel) rfl rfl ?_
  refine wm_iload_n 1 13 (by decide +kernel) rfl rfl ?_
  refine wm_iload_n 2 14 (by decide +kernel) rfl rfl ?_
  refine wm_callVi mX8_brings 2 8 [_, _] [] _ _ 17 mo_X8_brings np_X8_brings ml_RX8_236 im_X8_brings se_X8_brings (by decide +kernel) (by decide +kernel) rfl rfl rfl (Nat.le_of_ble_eq_true rfl) (by decide +kernel) rfl (Nat.le_of_ble_eq_true rfl) _ (ent_pad 8 rfl) (l_X8_brings g _ _ _ _ H) (fun v3 h2 H hzv3 => ?_)
  refine wm_istore 7 19 [some _, some _, some _, some _, some _, some _, some _, some _] (by decide +kernel) rfl (by decide +kernel) (okS_spec rfl) rfl ?_
  refine wm_iload 7 21 (by decide +kernel) rfl rfl ?_
  refine wm_aload_n 0 22 (by decide +kernel) rfl rfl ?_
  refine wm_iload_n 1 23 (by decide +kernel) rfl rfl ?_
  refine wm_iload_n 2 24 (by decide +kernel) rfl rfl ?_
  refine wm_callVi mX8_ownTill 2 8 [_, _] [_] _ _ 27 mo_X8_ownTill np_X8_ownTill ml_RX8_239 im_X8_ownTill se_X8_ownTill (by decide +kernel) (by decide +kernel) rfl rfl rfl (Nat.le_of_ble_eq_true rfl) (by decide +kernel) rfl (Nat.le_of_ble_eq_true rfl) _ (ent_pad 2 rfl) (l_X8_ownTill g _ _ _ _ H) (fun v5 h4 H hzv5 => ?_)
  refine wm_iadd 28 (by decide +kernel) rfl ?_
  exact wm_iret (by decide +kernel) ⟨.int, rfl, rfl⟩ H
def f_X8_mostOf (x1 : Int32) (x2 : Int32) (h : HP) (Q : Int32 → HP → Prop) : Prop :=
  f_X8_mostBy x1 x2 (-1 : Int32) (-1 : Int32) (-1 : Int32) 0 h (fun v2 h1 =>
  Q v2 h1)
set_option maxRecDepth 20000 in
theorem l_X8_mostOf (g : GE) (x1 : Int32) (x2 : Int32)  (h : HP) (Q : Int32 → HP → Prop) (H : f_X8_mostOf x1 x2 h Q) : Wm g mX8_mostOf 0 [some (.ref 117), some (.int x1), some (.int x2)] [] h (qi Q) := by
  unfold f_X8_mostOf at H
  refine wm_aload_n 0 1 (by decide +kernel) rfl rfl ?_
  refine wm_iload_n 1 2 (by decide +kernel) rfl rfl ?_
  refine wm_iload_n 2 3 (by decide +kernel) rfl rfl ?_
  refine wm_iconst (-1) 4 (by decide +kernel : decode cX8_mostOf 3 = .ok (.iconst (-1), 1)) rfl (by decide +kernel) ?_
  refine wm_iconst (-1) 5 (by decide +kernel : decode cX8_mostOf 4 = .ok (.iconst (-1), 1)) rfl (by decide +kernel) ?_
  refine wm_iconst (-1) 6 (by decide +kernel : decode cX8_mostOf 5 = .ok (.iconst (-1), 1)) rfl (by decide +kernel) ?_
  refine wm_iconst 0 7 (by decide +kernel : decode cX8_mostOf 6 = .ok (.iconst 0, 1)) rfl (by decide +kernel) ?_
  refine wm_callVi mX8_mostBy 6 8 [_, _, _, _, _, _] [] _ _ 10 mo_X8_mostBy np_X8_mostBy ml_RX8_242 im_X8_mostBy se_X8_mostBy (by decide +kernel) (by decide +kernel) rfl rfl rfl (Nat.le_of_ble_eq_true rfl) (by decide +kernel) rfl (Nat.le_of_ble_eq_true rfl) _ (ent_pad 1 rfl) (l_X8_mostBy g _ _ _ _ _ _ _ _ H) (fun v2 h1 H hzv2 => ?_)
  exact wm_iret (by decide +kernel) ⟨.int, rfl, rfl⟩ H
def f_X8_isAhead (x0 : Int32) (h : HP) (Q : Int32 → HP → Prop) : Prop :=
  f_X8_in ((x0 : Int32).toInt64) (0 : Int64) (24 : Int64) h (fun v2 h1 =>
  Q v2 h1)
set_option maxRecDepth 20000 in
theorem l_X8_isAhead (g : GE) (x0 : Int32)  (h : HP) (Q : Int32 → HP → Prop) (H : f_X8_isAhead x0 h Q) : Wm g mX8_isAhead 0 [some (.int x0)] [] h (qi Q) := by
  unfold f_X8_isAhead at H
  refine wm_iload_n 0 1 (by decide +kernel) rfl rfl ?_
  refine wm_i2l 2 (by decide +kernel) rfl ?_
  refine wm_lconst 0 3 (by decide +kernel : decode cX8_isAhead 2 = .ok (.lconst 0, 1)) rfl (by decide +kernel) ?_
  refine wm_ldc2 24 6 cl_RX8_246 (by decide +kernel) rfl ?_
  refine wm_callSi mX8_in 3 [_, _, _] [] _ _ 9 mo_X8_in np_X8_in ml_RX8_101 sc_X8_in (by decide +kernel) (by decide +kernel) rfl rfl rfl (Nat.le_of_ble_eq_true rfl) (Nat.le_of_ble_eq_true rfl) _ (ent_pad 0 rfl) (l_X8_in g _ _ _ _ _ H) (fun v2 h1 H hzv2 => ?_)
  exact wm_iret (by decide +kernel) ⟨.boolean, rfl, (rv_bool hzv2 rfl)⟩ H
def f_X8_most (x1 : Int32) (x2 : Int32) (h : HP) (Q : Int32 → HP → Prop) : Prop :=
  f_X8_isStation x1 h (fun v2 h1 =>
  (((v2 = 0) →
    f_X8_finds (-1000000001 : Int32) h1 (fun v5 h4 =>
    Q v5 h4)) ∧
   (¬ (v2 = 0) →
    f_X8_isAhead x2 h1 (fun v7 h6 =>
    (((v7 = 0) →
      f_X8_finds (-1000000001 : Int32) h6 (fun v10 h9 =>
      Q v10 h9)) ∧
     (¬ (v7 = 0) →
      f_X8_mostOf x1 x2 h6 (fun v12 h11 =>
      Q v12 h11)))))))
set_option maxRecDepth 20000 in
theorem l_X8_most (g : GE) (x1 : Int32) (x2 : Int32)  (h : HP) (Q : Int32 → HP → Prop) (H : f_X8_most x1 x2 h Q) : Wm g mX8_most 0 [some (.ref 117), some (.int x1), some (.int x2)] [] h (qi Q) := by
  unfold f_X8_most at H
  refine wm_aload_n 0 1 (by decide +kernel) rfl rfl ?_
  refine wm_iload_n 1 2 (by decide +kernel) rfl rfl ?_
  refine wm_callVi mX8_isStation 1 8 [_] [] _ _ 5 mo_X8_isStation np_X8_isStation ml_RX8_140 im_X8_isStation se_X8_isStation (by decide +kernel) (by decide +kernel) rfl rfl rfl (Nat.le_of_ble_eq_true rfl) (by decide +kernel) rfl (Nat.le_of_ble_eq_true rfl) _ (ent_pad 0 rfl) (l_X8_isStation g _ _ _ H) (fun v2 h1 H hzv2 => ?_)
  refine wm_if_eq 8 24 (by decide +kernel : decode cX8_most 5 = .ok (.ifCond .eq 19, 3)) (by decide) rfl (fun c3 => ?_) (fun c3 => ?_)
  · replace H := H.1 c3
    refine wm_aload_n 0 25 (by decide +kernel) rfl rfl ?_
    refine wm_ldc (-1000000001) 27 co_RX8_96 (by decide +kernel) rfl ?_
    refine wm_callVi mX8_finds 1 8 [_] [] _ _ 30 mo_X8_finds np_X8_finds ml_RX8_129 im_X8_finds se_X8_finds (by decide +kernel) (by decide +kernel) rfl rfl rfl (Nat.le_of_ble_eq_true rfl) (by decide +kernel) rfl (Nat.le_of_ble_eq_true rfl) _ (ent_pad 0 rfl) (l_X8_finds g _ _ _ H) (fun v5 h4 H hzv5 => ?_)
    exact wm_iret (by decide +kernel) ⟨.int, rfl, rfl⟩ H
  · replace H := H.2 c3
    refine wm_iload_n 2 9 (by decide +kernel) rfl rfl ?_
    refine wm_callSi mX8_isAhead 1 [_] [] _ _ 12 mo_X8_isAhead np_X8_isAhead ml_RX8_248 sc_X8_isAhead (by decide +kernel) (by decide +kernel) rfl rfl rfl (Nat.le_of_ble_eq_true rfl) (Nat.le_of_ble_eq_true rfl) _ (ent_pad 0 rfl) (l_X8_isAhead g _ _ _ H) (fun v7 h6 H hzv7 => ?_)
    refine wm_if_eq 15 24 (by decide +kernel : decode cX8_most 12 = .ok (.ifCond .eq 12, 3)) (by decide) rfl (fun c8 => ?_) (fun c8 => ?_)
    · replace H := H.1 c8
      refine wm_aload_n 0 25 (by decide +kernel) rfl rfl ?_
      refine wm_ldc (-1000000001) 27 co_RX8_96 (by decide +kernel) rfl ?_
      refine wm_callVi mX8_finds 1 8 [_] [] _ _ 30 mo_X8_finds np_X8_finds ml_RX8_129 im_X8_finds se_X8_finds (by decide +kernel) (by decide +kernel) rfl rfl rfl (Nat.le_of_ble_eq_true rfl) (by decide +kernel) rfl (Nat.le_of_ble_eq_true rfl) _ (ent_pad 0 rfl) (l_X8_finds g _ _ _ H) (fun v10 h9 H hzv10 => ?_)
      exact wm_iret (by decide +kernel) ⟨.int, rfl, rfl⟩ H
    · replace H := H.2 c8
      refine wm_aload_n 0 16 (by decide +kernel) rfl rfl ?_
      refine wm_iload_n 1 17 (by decide +kernel) rfl rfl ?_
      refine wm_iload_n 2 18 (by decide +kernel) rfl rfl ?_
      refine wm_callVi mX8_mostOf 2 8 [_, _] [] _ _ 21 mo_X8_mostOf np_X8_mostOf ml_RX8_251 im_X8_mostOf se_X8_mostOf (by decide +kernel) (by decide +kernel) rfl rfl rfl (Nat.le_of_ble_eq_true rfl) (by decide +kernel) rfl (Nat.le_of_ble_eq_true rfl) _ (ent_pad 0 rfl) (l_X8_mostOf g _ _ _ _ H) (fun v12 h11 H hzv12 => ?_)
      refine wm_goto 30 (by decide +kernel : decode cX8_most 21 = .ok (.goto 9, 3)) (by decide) ?_
      exact wm_iret (by decide +kernel) ⟨.int, rfl, rfl⟩ H
def f_X8_quickOf_L13 (x1 : Int32) (x2 : Int32)  (Q : Int32 → HP → Prop) : Nat → Int32 → Int32 → HP → Prop
  | 0, _, _, _ => False
  | n + 1, x3, x4, h =>
    (((24 < x4) →
      Q (-1 : Int32) h) ∧
     (¬ (24 < x4) →
      f_X8_brings x1 x4 h (fun v4 h3 =>
      ∀ x3_5 : Int32, x3_5 = (x3 + v4) →
      f_X8_ownTill x1 x4 h3 (fun v7 h6 =>
      ((((x3_5 + v7) < x2) →
        ∀ x4_9 : Int32, x4_9 = (x4 + 1) →
        f_X8_quickOf_L13 x1 x2 Q n x3_5 x4_9 h6) ∧
       (¬ ((x3_5 + v7) < x2) →
        Q x4 h6))))))
def f_X8_quickOf (x1 : Int32) (x2 : Int32) (h : HP) (Q : Int32 → HP → Prop) : Prop :=
  f_X8_layOut (-1 : Int32) (-1 : Int32) (-1 : Int32) 0 h (fun h1 =>
  ∃ n10, f_X8_quickOf_L13 x1 x2
    Q n10 0 0 h1)
set_option maxRecDepth 20000 in
theorem l_X8_quickOf_L13 (g : GE) (x1 : Int32) (x2 : Int32)   (Q : Int32 → HP → Prop)  : ∀ (n : Nat) (x3 : Int32) (x4 : Int32) (h : HP), f_X8_quickOf_L13 x1 x2 Q n x3 x4 h → Wm g mX8_quickOf 13 [some (.ref 117), some (.int x1), some (.int x2), some (.int x3), some (.int x4)] [] h (qi Q) := by
  intro n
  induction n with
  | zero => intro x3 x4 h H; exact H.elim
  | succ n ih =>
    intro x3 x4 h H
    unfold f_X8_quickOf_L13 at H
    refine wm_iload 4 15 (by decide +kernel) rfl rfl ?_
    refine wm_bipush 24 17 (by decide +kernel : decode cX8_quickOf 15 = .ok (.bipush 24, 2)) rfl (by decide +kernel) ?_
    refine wm_icmp_gt 20 52 (by decide +kernel : decode cX8_quickOf 17 = .ok (.if_icmp .gt 35, 3)) (by decide) rfl (fun c2 => ?_) (fun c2 => ?_)
    · replace H := H.1 c2
      refine wm_iconst (-1) 53 (by decide +kernel : decode cX8_quickOf 52 = .ok (.iconst (-1), 1)) rfl (by decide +kernel) ?_
      exact wm_iret (by decide +kernel) ⟨.int, rfl, rfl⟩ H
    · replace H := H.2 c2
      refine wm_iload_n 3 21 (by decide +kernel) rfl rfl ?_
      refine wm_aload_n 0 22 (by decide +kernel) rfl rfl ?_
      refine wm_iload_n 1 23 (by decide +kernel) rfl rfl ?_
      refine wm_iload 4 25 (by decide +kernel) rfl rfl ?_
      refine wm_callVi mX8_brings 2 8 [_, _] [_] _ _ 28 mo_X8_brings np_X8_brings ml_RX8_236 im_X8_brings se_X8_brings (by decide +kernel) (by decide +kernel) rfl rfl rfl (Nat.le_of_ble_eq_true rfl) (by decide +kernel) rfl (Nat.le_of_ble_eq_true rfl) _ (ent_pad 8 rfl) (l_X8_brings g _ _ _ _ H) (fun v4 h3 H hzv4 => ?_)
      refine wm_iadd 29 (by decide +kernel) rfl ?_
      replace H := H _ rfl
      refine wm_istore_n 3 30 [some _, some _, some _, some _, some _] (by decide +kernel) rfl (by decide +kernel) (okS_spec rfl) rfl ?_
      refine wm_iload_n 3 31 (by decide +kernel) rfl rfl ?_
      refine wm_aload_n 0 32 (by decide +kernel) rfl rfl ?_
      refine wm_iload_n 1 33 (by decide +kernel) rfl rfl ?_
      refine wm_iload 4 35 (by decide +kernel) rfl rfl ?_
      refine wm_callVi mX8_ownTill 2 8 [_, _] [_] _ _ 38 mo_X8_ownTill np_X8_ownTill ml_RX8_239 im_X8_ownTill se_X8_ownTill (by decide +kernel) (by decide +kernel) rfl rfl rfl (Nat.le_of_ble_eq_true rfl) (by decide +kernel) rfl (Nat.le_of_ble_eq_true rfl) _ (ent_pad 2 rfl) (l_X8_ownTill g _ _ _ _ H) (fun v7 h6 H hzv7 => ?_)
      refine wm_iadd 39 (by decide +kernel) rfl ?_
      refine wm_iload_n 2 40 (by decide +kernel) rfl rfl ?_
      refine wm_icmp_lt 43 46 (by decide +kernel : decode cX8_quickOf 40 = .ok (.if_icmp .lt 6, 3)) (by decide) rfl (fun c8 => ?_) (fun c8 => ?_)
      · replace H := H.1 c8
        replace H := H _ rfl
        refine wm_iinc 4 (_ + 1) 49 [some _, some _, some _, some _, some _] (by decide +kernel : decode cX8_quickOf 46 = .ok (.iinc 4 1, 3)) rfl (by decide +kernel) rfl (ofI_eq (by decide +kernel)) (okS_spec rfl) rfl ?_
        refine wm_goto 13 (by decide +kernel : decode cX8_quickOf 49 = .ok (.goto (-36), 3)) (by decide) ?_
        exact ih _ _ _ H
      · replace H := H.2 c8
        refine wm_iload 4 45 (by decide +kernel) rfl rfl ?_
        exact wm_iret (by decide +kernel) ⟨.int, rfl, rfl⟩ H
set_option maxRecDepth 20000 in
theorem l_X8_quickOf (g : GE) (x1 : Int32) (x2 : Int32)  (h : HP) (Q : Int32 → HP → Prop) (H : f_X8_quickOf x1 x2 h Q) : Wm g mX8_quickOf 0 [some (.ref 117), some (.int x1), some (.int x2), none, none] [] h (qi Q) := by
  unfold f_X8_quickOf at H
  refine wm_aload_n 0 1 (by decide +kernel) rfl rfl ?_
  refine wm_iconst (-1) 2 (by decide +kernel : decode cX8_quickOf 1 = .ok (.iconst (-1), 1)) rfl (by decide +kernel) ?_
  refine wm_iconst (-1) 3 (by decide +kernel : decode cX8_quickOf 2 = .ok (.iconst (-1), 1)) rfl (by decide +kernel) ?_
  refine wm_iconst (-1) 4 (by decide +kernel : decode cX8_quickOf 3 = .ok (.iconst (-1), 1)) rfl (by decide +kernel) ?_
  refine wm_iconst 0 5 (by decide +kernel : decode cX8_quickOf 4 = .ok (.iconst 0, 1)) rfl (by decide +kernel) ?_
  refine wm_callVv mX8_layOut 4 8 [_, _, _, _] [] _ _ 8 mo_X8_layOut np_X8_layOut ml_RX8_232 im_X8_layOut se_X8_layOut (by decide +kernel) (by decide +kernel) rfl rfl rfl (Nat.le_of_ble_eq_true rfl) (by decide +kernel) rfl (Nat.le_of_ble_eq_true rfl) _ (ent_pad 3 rfl) (l_X8_layOut g _ _ _ _ _ _ H) (fun h1 H => ?_)
  refine wm_iconst 0 9 (by decide +kernel : decode cX8_quickOf 8 = .ok (.iconst 0, 1)) rfl (by decide +kernel) ?_
  refine wm_istore_n 3 10 [some _, some _, some _, some _, none] (by decide +kernel) rfl (by decide +kernel) (okS_spec rfl) rfl ?_
  refine wm_iconst 0 11 (by decide +kernel : decode cX8_quickOf 10 = .ok (.iconst 0, 1)) rfl (by decide +kernel) ?_
  refine wm_istore 4 13 [some _, some _, some _, some _, some _] (by decide +kernel) rfl (by decide +kernel) (okS_spec rfl) rfl ?_
  obtain ⟨n10, H⟩ := H
  refine l_X8_quickOf_L13 g _ _ _  _ _ _ _ H
def f_X8_quick (x1 : Int32) (x2 : Int32) (h : HP) (Q : Int32 → HP → Prop) : Prop :=
  f_X8_isStation x1 h (fun v2 h1 =>
  (((v2 = 0) →
    f_X8_finds (-1000000001 : Int32) h1 (fun v5 h4 =>
    Q v5 h4)) ∧
   (¬ (v2 = 0) →
    (((0 ≤ x2) →
      f_X8_quickOf x1 x2 h1 (fun v8 h7 =>
      (((0 ≤ v8) →
        Q v8 h7) ∧
       (¬ (0 ≤ v8) →
        f_X8_finds (-1000000004 : Int32) h7 (fun v11 h10 =>
        Q v11 h10))))) ∧
     (¬ (0 ≤ x2) →
      f_X8_finds (-1000000001 : Int32) h1 (fun v13 h12 =>
      Q v13 h12))))))
set_option maxRecDepth 20000 in
theorem l_X8_quick (g : GE) (x1 : Int32) (x2 : Int32)  (h : HP) (Q : Int32 → HP → Prop) (H : f_X8_quick x1 x2 h Q) : Wm g mX8_quick 0 [some (.ref 117), some (.int x1), some (.int x2), none] [] h (qi Q) := by
  unfold f_X8_quick at H
  refine wm_aload_n 0 1 (by decide +kernel) rfl rfl ?_
  refine wm_iload_n 1 2 (by decide +kernel) rfl rfl ?_
  refine wm_callVi mX8_isStation 1 8 [_] [] _ _ 5 mo_X8_isStation np_X8_isStation ml_RX8_140 im_X8_isStation se_X8_isStation (by decide +kernel) (by decide +kernel) rfl rfl rfl (Nat.le_of_ble_eq_true rfl) (by decide +kernel) rfl (Nat.le_of_ble_eq_true rfl) _ (ent_pad 0 rfl) (l_X8_isStation g _ _ _ H) (fun v2 h1 H hzv2 => ?_)
  refine wm_if_eq 8 12 (by decide +kernel : decode cX8_quick 5 = .ok (.ifCond .eq 7, 3)) (by decide) rfl (fun c3 => ?_) (fun c3 => ?_)
  · replace H := H.1 c3
    refine wm_aload_n 0 13 (by decide +kernel) rfl rfl ?_
    refine wm_ldc (-1000000001) 15 co_RX8_96 (by decide +kernel) rfl ?_
    refine wm_callVi mX8_finds 1 8 [_] [] _ _ 18 mo_X8_finds np_X8_finds ml_RX8_129 im_X8_finds se_X8_finds (by decide +kernel) (by decide +kernel) rfl rfl rfl (Nat.le_of_ble_eq_true rfl) (by decide +kernel) rfl (Nat.le_of_ble_eq_true rfl) _ (ent_pad 0 rfl) (l_X8_finds g _ _ _ H) (fun v5 h4 H hzv5 => ?_)
    exact wm_iret (by decide +kernel) ⟨.int, rfl, rfl⟩ H
  · replace H := H.2 c3
    refine wm_iload_n 2 9 (by decide +kernel) rfl rfl ?_
    refine wm_if_ge 12 19 (by decide +kernel : decode cX8_quick 9 = .ok (.ifCond .ge 10, 3)) (by decide) rfl (fun c6 => ?_) (fun c6 => ?_)
    · replace H := H.1 c6
      refine wm_aload_n 0 20 (by decide +kernel) rfl rfl ?_
      refine wm_iload_n 1 21 (by decide +kernel) rfl rfl ?_
      refine wm_iload_n 2 22 (by decide +kernel) rfl rfl ?_
      refine wm_callVi mX8_quickOf 2 8 [_, _] [] _ _ 25 mo_X8_quickOf np_X8_quickOf ml_RX8_254 im_X8_quickOf se_X8_quickOf (by decide +kernel) (by decide +kernel) rfl rfl rfl (Nat.le_of_ble_eq_true rfl) (by decide +kernel) rfl (Nat.le_of_ble_eq_true rfl) _ (ent_pad 2 rfl) (l_X8_quickOf g _ _ _ _ H) (fun v8 h7 H hzv8 => ?_)
      refine wm_istore_n 3 26 [some _, some _, some _, some _] (by decide +kernel) rfl (by decide +kernel) (okS_spec rfl) rfl ?_
      refine wm_iload_n 3 27 (by decide +kernel) rfl rfl ?_
      refine wm_if_ge 30 40 (by decide +kernel : decode cX8_quick 27 = .ok (.ifCond .ge 13, 3)) (by decide) rfl (fun c9 => ?_) (fun c9 => ?_)
      · replace H := H.1 c9
        refine wm_iload_n 3 41 (by decide +kernel) rfl rfl ?_
        exact wm_iret (by decide +kernel) ⟨.int, rfl, rfl⟩ H
      · replace H := H.2 c9
        refine wm_aload_n 0 31 (by decide +kernel) rfl rfl ?_
        refine wm_ldcw (-1000000004) 34 co_RX8_257 (by decide +kernel) rfl ?_
        refine wm_callVi mX8_finds 1 8 [_] [] _ _ 37 mo_X8_finds np_X8_finds ml_RX8_129 im_X8_finds se_X8_finds (by decide +kernel) (by decide +kernel) rfl rfl rfl (Nat.le_of_ble_eq_true rfl) (by decide +kernel) rfl (Nat.le_of_ble_eq_true rfl) _ (ent_pad 0 rfl) (l_X8_finds g _ _ _ H) (fun v11 h10 H hzv11 => ?_)
        refine wm_goto 41 (by decide +kernel : decode cX8_quick 37 = .ok (.goto 4, 3)) (by decide) ?_
        exact wm_iret (by decide +kernel) ⟨.int, rfl, rfl⟩ H
    · replace H := H.2 c6
      refine wm_aload_n 0 13 (by decide +kernel) rfl rfl ?_
      refine wm_ldc (-1000000001) 15 co_RX8_96 (by decide +kernel) rfl ?_
      refine wm_callVi mX8_finds 1 8 [_] [] _ _ 18 mo_X8_finds np_X8_finds ml_RX8_129 im_X8_finds se_X8_finds (by decide +kernel) (by decide +kernel) rfl rfl rfl (Nat.le_of_ble_eq_true rfl) (by decide +kernel) rfl (Nat.le_of_ble_eq_true rfl) _ (ent_pad 0 rfl) (l_X8_finds g _ _ _ H) (fun v13 h12 H hzv13 => ?_)
      exact wm_iret (by decide +kernel) ⟨.int, rfl, rfl⟩ H
def f_X8_all (x1 : Int32) (h : HP) (Q : Int32 → HP → Prop) : Prop :=
  f_X8_isStation x1 h (fun v2 h1 =>
  (((v2 = 0) →
    f_X8_finds (-1000000001 : Int32) h1 (fun v12 h11 =>
    Q v12 h11)) ∧
   (¬ (v2 = 0) →
    f_X8_goods h1 (fun v5 h4 =>
    f_X8_quickOf x1 v5 h4 (fun v7 h6 =>
    (((0 ≤ v7) →
      Q v7 h6) ∧
     (¬ (0 ≤ v7) →
      f_X8_finds (-1000000004 : Int32) h6 (fun v10 h9 =>
      Q v10 h9))))))))
set_option maxRecDepth 20000 in
theorem l_X8_all (g : GE) (x1 : Int32)  (h : HP) (Q : Int32 → HP → Prop) (H : f_X8_all x1 h Q) : Wm g mX8_all 0 [some (.ref 117), some (.int x1), none] [] h (qi Q) := by
  unfold f_X8_all at H
  refine wm_aload_n 0 1 (by decide +kernel) rfl rfl ?_
  refine wm_iload_n 1 2 (by decide +kernel) rfl rfl ?_
  refine wm_callVi mX8_isStation 1 8 [_] [] _ _ 5 mo_X8_isStation np_X8_isStation ml_RX8_140 im_X8_isStation se_X8_isStation (by decide +kernel) (by decide +kernel) rfl rfl rfl (Nat.le_of_ble_eq_true rfl) (by decide +kernel) rfl (Nat.le_of_ble_eq_true rfl) _ (ent_pad 0 rfl) (l_X8_isStation g _ _ _ H) (fun v2 h1 H hzv2 => ?_)
  refine wm_if_ne 8 15 (by decide +kernel : decode cX8_all 5 = .ok (.ifCond .ne 10, 3)) (by decide) rfl (fun c3 => ?_) (fun c3 => ?_)
  · replace H := H.2 c3
    refine wm_aload_n 0 16 (by decide +kernel) rfl rfl ?_
    refine wm_iload_n 1 17 (by decide +kernel) rfl rfl ?_
    refine wm_aload_n 0 18 (by decide +kernel) rfl rfl ?_
    refine wm_callVi mX8_goods 0 8 [] [_, _] _ _ 21 mo_X8_goods np_X8_goods ml_RX8_258 im_X8_goods se_X8_goods (by decide +kernel) (by decide +kernel) rfl rfl rfl (Nat.le_of_ble_eq_true rfl) (by decide +kernel) rfl (Nat.le_of_ble_eq_true rfl) _ (ent_pad 0 rfl) (l_X8_goods g _ _ H) (fun v5 h4 H hzv5 => ?_)
    refine wm_callVi mX8_quickOf 2 8 [_, _] [] _ _ 24 mo_X8_quickOf np_X8_quickOf ml_RX8_254 im_X8_quickOf se_X8_quickOf (by decide +kernel) (by decide +kernel) rfl rfl rfl (Nat.le_of_ble_eq_true rfl) (by decide +kernel) rfl (Nat.le_of_ble_eq_true rfl) _ (ent_pad 2 rfl) (l_X8_quickOf g _ _ _ _ H) (fun v7 h6 H hzv7 => ?_)
    refine wm_istore_n 2 25 [some _, some _, some _] (by decide +kernel) rfl (by decide +kernel) (okS_spec rfl) rfl ?_
    refine wm_iload_n 2 26 (by decide +kernel) rfl rfl ?_
    refine wm_if_ge 29 39 (by decide +kernel : decode cX8_all 26 = .ok (.ifCond .ge 13, 3)) (by decide) rfl (fun c8 => ?_) (fun c8 => ?_)
    · replace H := H.1 c8
      refine wm_iload_n 2 40 (by decide +kernel) rfl rfl ?_
      exact wm_iret (by decide +kernel) ⟨.int, rfl, rfl⟩ H
    · replace H := H.2 c8
      refine wm_aload_n 0 30 (by decide +kernel) rfl rfl ?_
      refine wm_ldcw (-1000000004) 33 co_RX8_257 (by decide +kernel) rfl ?_
      refine wm_callVi mX8_finds 1 8 [_] [] _ _ 36 mo_X8_finds np_X8_finds ml_RX8_129 im_X8_finds se_X8_finds (by decide +kernel) (by decide +kernel) rfl rfl rfl (Nat.le_of_ble_eq_true rfl) (by decide +kernel) rfl (Nat.le_of_ble_eq_true rfl) _ (ent_pad 0 rfl) (l_X8_finds g _ _ _ H) (fun v10 h9 H hzv10 => ?_)
      refine wm_goto 40 (by decide +kernel : decode cX8_all 36 = .ok (.goto 4, 3)) (by decide) ?_
      exact wm_iret (by decide +kernel) ⟨.int, rfl, rfl⟩ H
  · replace H := H.1 c3
    refine wm_aload_n 0 9 (by decide +kernel) rfl rfl ?_
    refine wm_ldc (-1000000001) 11 co_RX8_96 (by decide +kernel) rfl ?_
    refine wm_callVi mX8_finds 1 8 [_] [] _ _ 14 mo_X8_finds np_X8_finds ml_RX8_129 im_X8_finds se_X8_finds (by decide +kernel) (by decide +kernel) rfl rfl rfl (Nat.le_of_ble_eq_true rfl) (by decide +kernel) rfl (Nat.le_of_ble_eq_true rfl) _ (ent_pad 0 rfl) (l_X8_finds g _ _ _ H) (fun v12 h11 H hzv12 => ?_)
    exact wm_iret (by decide +kernel) ⟨.int, rfl, rfl⟩ H
def f_X8_near_L43 (x1 : Int32) (x3 : Int32)  (Q : Int32 → HP → Prop) : Nat → Int32 → Int32 → HP → Prop
  | 0, _, _, _ => False
  | n + 1, x4, x5, h =>
    (((x3 < x5) →
      Q x4 h) ∧
     (¬ (x3 < x5) →
      vp_in ((25 * x1) + x5) 150 ∧
      ∀ x4_20 : Int32, x4_20 = (x4 ||| (if (gi h 132 (ix ((25 * x1) + x5))) = 0 then (0 : Int32) else (1 <<< (x5 &&& 31)))) →
      ∀ x5_21 : Int32, x5_21 = (x5 + 1) →
      f_X8_near_L43 x1 x3 Q n x4_20 x5_21 h))
def f_X8_near (x1 : Int32) (x2 : Int32) (x3 : Int32) (h : HP) (Q : Int32 → HP → Prop) : Prop :=
  f_X8_isStation x1 h (fun v2 h1 =>
  (((v2 = 0) →
    f_X8_finds (-1000000001 : Int32) h1 (fun v5 h4 =>
    Q v5 h4)) ∧
   (¬ (v2 = 0) →
    f_X8_isStation x2 h1 (fun v7 h6 =>
    (((v7 = 0) →
      f_X8_finds (-1000000001 : Int32) h6 (fun v10 h9 =>
      Q v10 h9)) ∧
     (¬ (v7 = 0) →
      f_X8_isAhead x3 h6 (fun v12 h11 =>
      (((v12 = 0) →
        f_X8_finds (-1000000001 : Int32) h11 (fun v24 h23 =>
        Q v24 h23)) ∧
       (¬ (v12 = 0) →
        f_X8_mostOf x2 x3 h11 (fun v15 h14 =>
        ∃ n22, f_X8_near_L43 x1 x3
          Q n22 0 0 h14))))))))))
set_option maxRecDepth 20000 in
theorem l_X8_near_L43 (g : GE) (x1 : Int32) (x3 : Int32)   (Q : Int32 → HP → Prop)  : ∀ (n : Nat) (x4 : Int32) (x5 : Int32) (h : HP), f_X8_near_L43 x1 x3 Q n x4 x5 h → Wm g mX8_near 43 [some (.ref 117), some (.int x1), none, some (.int x3), some (.int x4), some (.int x5)] [] h (qi Q) := by
  intro n
  induction n with
  | zero => intro x4 x5 h H; exact H.elim
  | succ n ih =>
    intro x4 x5 h H
    unfold f_X8_near_L43 at H
    refine wm_iload 5 45 (by decide +kernel) rfl rfl ?_
    refine wm_iload_n 3 46 (by decide +kernel) rfl rfl ?_
    refine wm_icmp_gt 49 83 (by decide +kernel : decode cX8_near 46 = .ok (.if_icmp .gt 37, 3)) (by decide) rfl (fun c16 => ?_) (fun c16 => ?_)
    · replace H := H.1 c16
      refine wm_iload 4 85 (by decide +kernel) rfl rfl ?_
      exact wm_iret (by decide +kernel) ⟨.int, rfl, rfl⟩ H
    · replace H := H.2 c16
      refine wm_iload 4 51 (by decide +kernel) rfl rfl ?_
      refine wm_aload_n 0 52 (by decide +kernel) rfl rfl ?_
      refine wm_getr 8 18 15 132 55 fl_RX8_52 (by decide +kernel) rfl (by decide +kernel) rfl rfl (by decide) ?_
      refine wm_bipush 25 57 (by decide +kernel : decode cX8_near 55 = .ok (.bipush 25, 2)) rfl (by decide +kernel) ?_
      refine wm_iload_n 1 58 (by decide +kernel) rfl rfl ?_
      refine wm_imul 59 (by decide +kernel) rfl ?_
      refine wm_iload 5 61 (by decide +kernel) rfl rfl ?_
      refine wm_iadd 62 (by decide +kernel) rfl ?_
      obtain ⟨o17, H⟩ := H
      refine wm_iald 150 63 (by decide +kernel) rfl (by decide +kernel) (by decide +kernel) o17 ?_
      refine' wm_dia (pcJ := 74) (fun kt kf => wm_if_ne 66 70 (by decide +kernel : decode cX8_near 63 = .ok (.ifCond .ne 7, 3)) (by decide) rfl kf kt) ?D19k (fun kj c1 => ?D19t) (fun kj c1 => ?D19f)
      case D19t =>
        refine wm_iconst 0 67 (by decide +kernel : decode cX8_near 66 = .ok (.iconst 0, 1)) rfl (by decide +kernel) ?_
        refine wm_goto 74 (by decide +kernel : decode cX8_near 67 = .ok (.goto 7, 3)) (by decide) ?_
        exact kj
      case D19f =>
        refine wm_iconst 1 71 (by decide +kernel : decode cX8_near 70 = .ok (.iconst 1, 1)) rfl (by decide +kernel) ?_
        refine wm_iload 5 73 (by decide +kernel) rfl rfl ?_
        refine wm_ishl 74 (by decide +kernel) rfl ?_
        exact kj
      case D19k =>
        refine wm_ior 75 (by decide +kernel) rfl ?_
        replace H := H _ rfl
        refine wm_istore 4 77 [some _, some _, none, some _, some _, some _] (by decide +kernel) rfl (by decide +kernel) (okS_spec rfl) rfl ?_
        replace H := H _ rfl
        refine wm_iinc 5 (_ + 1) 80 [some _, some _, none, some _, some _, some _] (by decide +kernel : decode cX8_near 77 = .ok (.iinc 5 1, 3)) rfl (by decide +kernel) rfl (ofI_eq (by decide +kernel)) (okS_spec rfl) rfl ?_
        refine wm_goto 43 (by decide +kernel : decode cX8_near 80 = .ok (.goto (-37), 3)) (by decide) ?_
        exact ih _ _ _ H
set_option maxRecDepth 20000 in
theorem l_X8_near (g : GE) (x1 : Int32) (x2 : Int32) (x3 : Int32)  (h : HP) (Q : Int32 → HP → Prop) (H : f_X8_near x1 x2 x3 h Q) : Wm g mX8_near 0 [some (.ref 117), some (.int x1), some (.int x2), some (.int x3), none, none] [] h (qi Q) := by
  unfold f_X8_near at H
  refine wm_aload_n 0 1 (by decide +kernel) rfl rfl ?_
  refine wm_iload_n 1 2 (by decide +kernel) rfl rfl ?_
  refine wm_callVi mX8_isStation 1 8 [_] [] _ _ 5 mo_X8_isStation np_X8_isStation ml_RX8_140 im_X8_isStation se_X8_isStation (by decide +kernel) (by decide +kernel) rfl rfl rfl (Nat.le_of_ble_eq_true rfl) (by decide +kernel) rfl (Nat.le_of_ble_eq_true rfl) _ (ent_pad 0 rfl) (l_X8_isStation g _ _ _ H) (fun v2 h1 H hzv2 => ?_)
  refine wm_if_eq 8 23 (by decide +kernel : decode cX8_near 5 = .ok (.ifCond .eq 18, 3)) (by decide) rfl (fun c3 => ?_) (fun c3 => ?_)
  · replace H := H.1 c3
    refine wm_aload_n 0 24 (by decide +kernel) rfl rfl ?_
    refine wm_ldc (-1000000001) 26 co_RX8_96 (by decide +kernel) rfl ?_
    refine wm_callVi mX8_finds 1 8 [_] [] _ _ 29 mo_X8_finds np_X8_finds ml_RX8_129 im_X8_finds se_X8_finds (by decide +kernel) (by decide +kernel) rfl rfl rfl (Nat.le_of_ble_eq_true rfl) (by decide +kernel) rfl (Nat.le_of_ble_eq_true rfl) _ (ent_pad 0 rfl) (l_X8_finds g _ _ _ H) (fun v5 h4 H hzv5 => ?_)
    exact wm_iret (by decide +kernel) ⟨.int, rfl, rfl⟩ H
  · replace H := H.2 c3
    refine wm_aload_n 0 9 (by decide +kernel) rfl rfl ?_
    refine wm_iload_n 2 10 (by decide +kernel) rfl rfl ?_
    refine wm_callVi mX8_isStation 1 8 [_] [] _ _ 13 mo_X8_isStation np_X8_isStation ml_RX8_140 im_X8_isStation se_X8_isStation (by decide +kernel) (by decide +kernel) rfl rfl rfl (Nat.le_of_ble_eq_true rfl) (by decide +kernel) rfl (Nat.le_of_ble_eq_true rfl) _ (ent_pad 0 rfl) (l_X8_isStation g _ _ _ H) (fun v7 h6 H hzv7 => ?_)
    refine wm_if_eq 16 23 (by decide +kernel : decode cX8_near 13 = .ok (.ifCond .eq 10, 3)) (by decide) rfl (fun c8 => ?_) (fun c8 => ?_)
    · replace H := H.1 c8
      refine wm_aload_n 0 24 (by decide +kernel) rfl rfl ?_
      refine wm_ldc (-1000000001) 26 co_RX8_96 (by decide +kernel) rfl ?_
      refine wm_callVi mX8_finds 1 8 [_] [] _ _ 29 mo_X8_finds np_X8_finds ml_RX8_129 im_X8_finds se_X8_finds (by decide +kernel) (by decide +kernel) rfl rfl rfl (Nat.le_of_ble_eq_true rfl) (by decide +kernel) rfl (Nat.le_of_ble_eq_true rfl) _ (ent_pad 0 rfl) (l_X8_finds g _ _ _ H) (fun v10 h9 H hzv10 => ?_)
      exact wm_iret (by decide +kernel) ⟨.int, rfl, rfl⟩ H
    · replace H := H.2 c8
      refine wm_iload_n 3 17 (by decide +kernel) rfl rfl ?_
      refine wm_callSi mX8_isAhead 1 [_] [] _ _ 20 mo_X8_isAhead np_X8_isAhead ml_RX8_248 sc_X8_isAhead (by decide +kernel) (by decide +kernel) rfl rfl rfl (Nat.le_of_ble_eq_true rfl) (Nat.le_of_ble_eq_true rfl) _ (ent_pad 0 rfl) (l_X8_isAhead g _ _ _ H) (fun v12 h11 H hzv12 => ?_)
      refine wm_if_ne 23 30 (by decide +kernel : decode cX8_near 20 = .ok (.ifCond .ne 10, 3)) (by decide) rfl (fun c13 => ?_) (fun c13 => ?_)
      · replace H := H.2 c13
        refine wm_aload_n 0 31 (by decide +kernel) rfl rfl ?_
        refine wm_iload_n 2 32 (by decide +kernel) rfl rfl ?_
        refine wm_iload_n 3 33 (by decide +kernel) rfl rfl ?_
        refine wm_callVi mX8_mostOf 2 8 [_, _] [] _ _ 36 mo_X8_mostOf np_X8_mostOf ml_RX8_251 im_X8_mostOf se_X8_mostOf (by decide +kernel) (by decide +kernel) rfl rfl rfl (Nat.le_of_ble_eq_true rfl) (by decide +kernel) rfl (Nat.le_of_ble_eq_true rfl) _ (ent_pad 0 rfl) (l_X8_mostOf g _ _ _ _ H) (fun v15 h14 H hzv15 => ?_)
        refine wm_pop 37 (by decide +kernel) rfl rfl ?_
        refine wm_iconst 0 38 (by decide +kernel : decode cX8_near 37 = .ok (.iconst 0, 1)) rfl (by decide +kernel) ?_
        refine wm_istore 4 40 [some _, some _, some _, some _, some _, none] (by decide +kernel) rfl (by decide +kernel) (okS_spec rfl) rfl ?_
        refine wm_iconst 0 41 (by decide +kernel : decode cX8_near 40 = .ok (.iconst 0, 1)) rfl (by decide +kernel) ?_
        refine wm_istore 5 43 [some _, some _, some _, some _, some _, some _] (by decide +kernel) rfl (by decide +kernel) (okS_spec rfl) rfl ?_
        obtain ⟨n22, H⟩ := H
        refine wm_mask [true, true, false, true, true, true] [some _, some _, none, some _, some _, some _] rfl ?_
        refine l_X8_near_L43 g _ _ _  _ _ _ _ H
      · replace H := H.1 c13
        refine wm_aload_n 0 24 (by decide +kernel) rfl rfl ?_
        refine wm_ldc (-1000000001) 26 co_RX8_96 (by decide +kernel) rfl ?_
        refine wm_callVi mX8_finds 1 8 [_] [] _ _ 29 mo_X8_finds np_X8_finds ml_RX8_129 im_X8_finds se_X8_finds (by decide +kernel) (by decide +kernel) rfl rfl rfl (Nat.le_of_ble_eq_true rfl) (by decide +kernel) rfl (Nat.le_of_ble_eq_true rfl) _ (ent_pad 0 rfl) (l_X8_finds g _ _ _ H) (fun v24 h23 H hzv24 => ?_)
        exact wm_iret (by decide +kernel) ⟨.int, rfl, rfl⟩ H
def f_X8_isSheet (x0 : Int32) (h : HP) (Q : Int32 → HP → Prop) : Prop :=
  f_X8_in ((x0 : Int32).toInt64) (0 : Int64) (3 : Int64) h (fun v2 h1 =>
  Q v2 h1)
set_option maxRecDepth 20000 in
theorem l_X8_isSheet (g : GE) (x0 : Int32)  (h : HP) (Q : Int32 → HP → Prop) (H : f_X8_isSheet x0 h Q) : Wm g mX8_isSheet 0 [some (.int x0)] [] h (qi Q) := by
  unfold f_X8_isSheet at H
  refine wm_iload_n 0 1 (by decide +kernel) rfl rfl ?_
  refine wm_i2l 2 (by decide +kernel) rfl ?_
  refine wm_lconst 0 3 (by decide +kernel : decode cX8_isSheet 2 = .ok (.lconst 0, 1)) rfl (by decide +kernel) ?_
  refine wm_ldc2 3 6 cl_RX8_125 (by decide +kernel) rfl ?_
  refine wm_callSi mX8_in 3 [_, _, _] [] _ _ 9 mo_X8_in np_X8_in ml_RX8_101 sc_X8_in (by decide +kernel) (by decide +kernel) rfl rfl rfl (Nat.le_of_ble_eq_true rfl) (Nat.le_of_ble_eq_true rfl) _ (ent_pad 0 rfl) (l_X8_in g _ _ _ _ _ H) (fun v2 h1 H hzv2 => ?_)
  exact wm_iret (by decide +kernel) ⟨.boolean, rfl, (rv_bool hzv2 rfl)⟩ H
def f_X8_cost_L56 (x1 : Int32) (x2 : Int32) (x3 : Int32) (k129 : HP → Prop) (Q : Int32 → HP → Prop) : Nat → Int32 → HP → Prop
  | 0, _, _ => False
  | n + 1, x4, h =>
    ((((gi h 117 3) ≤ x4) →
      k129 h) ∧
     (¬ ((gi h 117 3) ≤ x4) →
      vp_in x1 4 ∧
      (¬ ((gi h 141 (ix x1)) ≤ x4) → vp_in ((40 * x1) + x4) 160) ∧
      ∀ x5_19 : Int64, x5_19 = (if (gi h 141 (ix x1)) ≤ x4 then ((-1 : Int64) : Int64) else (gl h 142 (ix ((40 * x1) + x4)))) →
      f_X8_in x5_19 (0 : Int64) ((x3 : Int32).toInt64) h (fun v21 h20 =>
      vp_in x4 150 ∧
      ∀ h25 : HP, h25 = si h20 133 (ix x4) (if v21 = 0 then ((x3 + 1) : Int32) else (x5_19 : Int64).toInt32) →
      ∀ x4_26 : Int32, x4_26 = (x4 + 1) →
      f_X8_cost_L56 x1 x2 x3 k129 Q n x4_26 h25)))
def f_X8_cost_L172 (x3 : Int32) (x5 : Int32) (k208 : Int32 → HP → Prop) (Q : Int32 → HP → Prop) : Nat → Int32 → Int32 → HP → Prop
  | 0, _, _, _ => False
  | n + 1, x4, x6, h =>
    vp_in x5 150 ∧
    ((((gi h 133 (ix x5)) ≤ x6) →
      k208 x4 h) ∧
     (¬ ((gi h 133 (ix x5)) ≤ x6) →
      vp_in ((25 * x5) + x6) 150 ∧
      ∀ x4_35 : Int32, x4_35 = (x4 + (gi h 127 (ix ((25 * x5) + x6)))) →
      ∀ x6_36 : Int32, x6_36 = (x6 + 1) →
      f_X8_cost_L172 x3 x5 k208 Q n x4_35 x6_36 h))
def f_X8_cost_L160 (x3 : Int32) (k214 : Int32 → HP → Prop) (Q : Int32 → HP → Prop) : Nat → Int32 → Int32 → HP → Prop
  | 0, _, _, _ => False
  | n + 1, x4, x5, h =>
    ((((gi h 117 3) ≤ x5) →
      k214 x4 h) ∧
     (¬ ((gi h 117 3) ≤ x5) →
      ∃ n40, f_X8_cost_L172 x3 x5
        (fun x4_37 h38 =>
          ∀ x5_39 : Int32, x5_39 = (x5 + 1) →
          f_X8_cost_L160 x3 k214 Q n x4_37 x5_39 h38)
        Q n40 x4 0 h))
def f_X8_cost_L240 (x3 : Int32) (x5 : Int32) (k307 : Int32 → HP → Prop) (Q : Int32 → HP → Prop) : Nat → Int32 → Int32 → HP → Prop
  | 0, _, _, _ => False
  | n + 1, x4, x6, h =>
    vp_in x5 10 ∧
    (((x3 < (x6 + (gi h 131 (ix x5)))) →
      k307 x4 h) ∧
     (¬ (x3 < (x6 + (gi h 131 (ix x5)))) →
      vp_in x5 10 ∧
      f_X8_at x5 2 h (fun v52 h51 =>
      vp_in v52 150 ∧
      (¬ ((gi h51 133 (ix v52)) ≤ (x6 + (gi h 131 (ix x5)))) → vp_in ((25 * x5) + x6) 250) ∧
      ∀ x4_57 : Int32, x4_57 = (x4 + (if (gi h51 133 (ix v52)) ≤ (x6 + (gi h 131 (ix x5))) then (0 : Int32) else (gi h51 125 (ix ((25 * x5) + x6))))) →
      ∀ x6_58 : Int32, x6_58 = (x6 + 1) →
      f_X8_cost_L240 x3 x5 k307 Q n x4_57 x6_58 h51)))
def f_X8_cost_L217 (x3 : Int32)  (Q : Int32 → HP → Prop) : Nat → Int32 → Int32 → HP → Prop
  | 0, _, _, _ => False
  | n + 1, x4, x5, h =>
    ((((gi h 117 7) ≤ x5) →
      Q x4 h) ∧
     (¬ ((gi h 117 7) ≤ x5) →
      f_X8_at x5 1 h (fun v45 h44 =>
      vp_in v45 150 ∧
      ∀ x6_47 : Int32, x6_47 = (gi h44 133 (ix v45)) →
      ∃ n62, f_X8_cost_L240 x3 x5
        (fun x4_59 h60 =>
          ∀ x5_61 : Int32, x5_61 = (x5 + 1) →
          f_X8_cost_L217 x3 Q n x4_59 x5_61 h60)
        Q n62 x4 x6_47 h44)))
def f_X8_cost (x1 : Int32) (x2 : Int32) (x3 : Int32) (h : HP) (Q : Int32 → HP → Prop) : Prop :=
  f_X8_isSheet x1 h (fun v2 h1 =>
  (((v2 = 0) →
    f_X8_finds (-1000000001 : Int32) h1 (fun v73 h72 =>
    Q v73 h72)) ∧
   (¬ (v2 = 0) →
    vp_in x1 4 ∧
    ((((gi h1 140 (ix x1)) = 0) →
      f_X8_finds (-1000000006 : Int32) h1 (fun v71 h70 =>
      Q v71 h70)) ∧
     (¬ ((gi h1 140 (ix x1)) = 0) →
      f_X8_isStation x2 h1 (fun v7 h6 =>
      (((v7 = 0) →
        f_X8_finds (-1000000001 : Int32) h6 (fun v10 h9 =>
        Q v10 h9)) ∧
       (¬ (v7 = 0) →
        f_X8_isAhead x3 h6 (fun v12 h11 =>
        (((v12 = 0) →
          f_X8_finds (-1000000001 : Int32) h11 (fun v69 h68 =>
          Q v69 h68)) ∧
         (¬ (v12 = 0) →
          ∃ n67, f_X8_cost_L56 x1 x2 x3
            (fun h27 =>
              vp_in x2 150 ∧
              (((x3 < (gi h27 133 (ix x2))) →
                f_X8_layOut (-1 : Int32) (-1 : Int32) (-1 : Int32) 0 h27 (fun h30 =>
                ∃ n64, f_X8_cost_L160 x3
                  (fun x4_41 h42 =>
                    ∃ n63, f_X8_cost_L217 x3
                      Q n63 x4_41 0 h42)
                  Q n64 0 0 h30)) ∧
               (¬ (x3 < (gi h27 133 (ix x2))) →
                f_X8_finds (-1000000005 : Int32) h27 (fun v66 h65 =>
                Q v66 h65))))
            Q n67 0 h11)))))))))))
set_option maxRecDepth 20000 in
theorem l_X8_cost_L56 (g : GE) (x1 : Int32) (x2 : Int32) (x3 : Int32)  (k129 : HP → Prop) (Q : Int32 → HP → Prop) (hk129 : ∀  (h : HP), k129  h → Wm g mX8_cost 129 [some (.ref 117), none, some (.int x2), some (.int x3), none, none, none] [] h (qi Q)) : ∀ (n : Nat) (x4 : Int32) (h : HP), f_X8_cost_L56 x1 x2 x3 k129 Q n x4 h → Wm g mX8_cost 56 [some (.ref 117), some (.int x1), some (.int x2), some (.int x3), some (.int x4), none, none] [] h (qi Q) := by
  intro n
  induction n with
  | zero => intro x4 h H; exact H.elim
  | succ n ih =>
    intro x4 h H
    unfold f_X8_cost_L56 at H
    refine wm_iload 4 58 (by decide +kernel) rfl rfl ?_
    refine wm_aload_n 0 59 (by decide +kernel) rfl rfl ?_
    refine wm_geti 8 3 62 fl_RX8_97 (by decide +kernel) rfl (by decide +kernel) rfl ?_
    refine wm_icmp_ge 65 129 (by decide +kernel : decode cX8_cost 62 = .ok (.if_icmp .ge 67, 3)) (by decide) rfl (fun c14 => ?_) (fun c14 => ?_)
    · replace H := H.1 c14
      refine wm_mask [true, false, true, true, false, false, false] [some _, none, some _, some _, none, none, none] rfl ?_
      exact hk129 _ H
    · replace H := H.2 c14
      refine wm_iload 4 67 (by decide +kernel) rfl rfl ?_
      refine wm_aload_n 0 68 (by decide +kernel) rfl rfl ?_
      refine wm_getr 8 34 24 141 71 fl_RX8_80 (by decide +kernel) rfl (by decide +kernel) rfl rfl (by decide) ?_
      refine wm_iload_n 1 72 (by decide +kernel) rfl rfl ?_
      obtain ⟨o15, H⟩ := H
      refine wm_iald 4 73 (by decide +kernel) rfl (by decide +kernel) (by decide +kernel) o15 ?_
      obtain ⟨D18b, H⟩ := H
      refine' wm_diaL (pcJ := 94) (fun kt kf => wm_icmp_ge 76 91 (by decide +kernel : decode cX8_cost 73 = .ok (.if_icmp .ge 18, 3)) (by decide) rfl kt kf) ?D18k (fun kj c1 => ?D18t) (fun kj c1 => ?D18f)
      case D18t =>
        refine wm_ldc2 (-1) 94 cl_RX8_265 (by decide +kernel) rfl ?_
        exact kj
      case D18f =>
        have H := D18b c1
        refine wm_aload_n 0 77 (by decide +kernel) rfl rfl ?_
        refine wm_getr 8 35 25 142 80 fl_RX8_83 (by decide +kernel) rfl (by decide +kernel) rfl rfl (by decide) ?_
        refine wm_bipush 40 82 (by decide +kernel : decode cX8_cost 80 = .ok (.bipush 40, 2)) rfl (by decide +kernel) ?_
        refine wm_iload_n 1 83 (by decide +kernel) rfl rfl ?_
        refine wm_imul 84 (by decide +kernel) rfl ?_
        refine wm_iload 4 86 (by decide +kernel) rfl rfl ?_
        refine wm_iadd 87 (by decide +kernel) rfl ?_
        have o17 := H
        refine wm_lald 160 88 (by decide +kernel) rfl (by decide +kernel) (by decide +kernel) o17 ?_
        refine wm_goto 94 (by decide +kernel : decode cX8_cost 88 = .ok (.goto 6, 3)) (by decide) ?_
        exact kj
      case D18k =>
        replace H := H _ rfl
        refine wm_lstore 5 96 [some _, some _, some _, some _, some _, some _, none] (by decide +kernel) rfl (by decide +kernel) (okS_spec rfl) rfl ?_
        refine wm_aload_n 0 97 (by decide +kernel) rfl rfl ?_
        refine wm_getr 8 19 16 133 100 fl_RX8_55 (by decide +kernel) rfl (by decide +kernel) rfl rfl (by decide) ?_
        refine wm_iload 4 102 (by decide +kernel) rfl rfl ?_
        refine wm_lload 5 104 (by decide +kernel) rfl rfl ?_
        refine wm_lconst 0 105 (by decide +kernel : decode cX8_cost 104 = .ok (.lconst 0, 1)) rfl (by decide +kernel) ?_
        refine wm_iload_n 3 106 (by decide +kernel) rfl rfl ?_
        refine wm_i2l 107 (by decide +kernel) rfl ?_
        refine wm_callSi mX8_in 3 [_, _, _] [_, _] _ _ 110 mo_X8_in np_X8_in ml_RX8_101 sc_X8_in (by decide +kernel) (by decide +kernel) rfl rfl rfl (Nat.le_of_ble_eq_true rfl) (Nat.le_of_ble_eq_true rfl) _ (ent_pad 0 rfl) (l_X8_in g _ _ _ _ _ H) (fun v21 h20 H hzv21 => ?_)
        refine' wm_dia (pcJ := 122) (fun kt kf => wm_if_eq 113 119 (by decide +kernel : decode cX8_cost 110 = .ok (.ifCond .eq 9, 3)) (by decide) rfl kt kf) ?D23k (fun kj c1 => ?D23t) (fun kj c1 => ?D23f)
        case D23t =>
          refine wm_iload_n 3 120 (by decide +kernel) rfl rfl ?_
          refine wm_iconst 1 121 (by decide +kernel : decode cX8_cost 120 = .ok (.iconst 1, 1)) rfl (by decide +kernel) ?_
          refine wm_iadd 122 (by decide +kernel) rfl ?_
          exact kj
        case D23f =>
          refine wm_lload 5 115 (by decide +kernel) rfl rfl ?_
          refine wm_l2i 116 (by decide +kernel) rfl ?_
          refine wm_goto 122 (by decide +kernel : decode cX8_cost 116 = .ok (.goto 6, 3)) (by decide) ?_
          exact kj
        case D23k =>
          obtain ⟨o24, H⟩ := H
          replace H := H _ rfl
          refine wm_iast 150 123 (by decide +kernel) rfl (by decide +kernel) (by decide +kernel) o24 ?_
          replace H := H _ rfl
          refine wm_iinc 4 (_ + 1) 126 [some _, some _, some _, some _, some _, some _, none] (by decide +kernel : decode cX8_cost 123 = .ok (.iinc 4 1, 3)) rfl (by decide +kernel) rfl (ofI_eq (by decide +kernel)) (okS_spec rfl) rfl ?_
          refine wm_goto 56 (by decide +kernel : decode cX8_cost 126 = .ok (.goto (-70), 3)) (by decide) ?_
          refine wm_mask [true, true, true, true, true, false, false] [some _, some _, some _, some _, some _, none, none] rfl ?_
          exact ih _ _ H
set_option maxRecDepth 20000 in
theorem l_X8_cost_L172 (g : GE) (x3 : Int32) (x5 : Int32)  (k208 : Int32 → HP → Prop) (Q : Int32 → HP → Prop) (hk208 : ∀ (x4 : Int32) (h : HP), k208 x4 h → Wm g mX8_cost 208 [some (.ref 117), none, none, some (.int x3), some (.int x4), some (.int x5), none] [] h (qi Q)) : ∀ (n : Nat) (x4 : Int32) (x6 : Int32) (h : HP), f_X8_cost_L172 x3 x5 k208 Q n x4 x6 h → Wm g mX8_cost 172 [some (.ref 117), none, none, some (.int x3), some (.int x4), some (.int x5), some (.int x6)] [] h (qi Q) := by
  intro n
  induction n with
  | zero => intro x4 x6 h H; exact H.elim
  | succ n ih =>
    intro x4 x6 h H
    unfold f_X8_cost_L172 at H
    refine wm_iload 6 174 (by decide +kernel) rfl rfl ?_
    refine wm_aload_n 0 175 (by decide +kernel) rfl rfl ?_
    refine wm_getr 8 19 16 133 178 fl_RX8_55 (by decide +kernel) rfl (by decide +kernel) rfl rfl (by decide) ?_
    refine wm_iload 5 180 (by decide +kernel) rfl rfl ?_
    obtain ⟨o32, H⟩ := H
    refine wm_iald 150 181 (by decide +kernel) rfl (by decide +kernel) (by decide +kernel) o32 ?_
    refine wm_icmp_ge 184 208 (by decide +kernel : decode cX8_cost 181 = .ok (.if_icmp .ge 27, 3)) (by decide) rfl (fun c33 => ?_) (fun c33 => ?_)
    · replace H := H.1 c33
      refine wm_mask [true, false, false, true, true, true, false] [some _, none, none, some _, some _, some _, none] rfl ?_
      exact hk208 _ _ H
    · replace H := H.2 c33
      refine wm_iload 4 186 (by decide +kernel) rfl rfl ?_
      refine wm_aload_n 0 187 (by decide +kernel) rfl rfl ?_
      refine wm_getr 8 13 10 127 190 fl_RX8_37 (by decide +kernel) rfl (by decide +kernel) rfl rfl (by decide) ?_
      refine wm_bipush 25 192 (by decide +kernel : decode cX8_cost 190 = .ok (.bipush 25, 2)) rfl (by decide +kernel) ?_
      refine wm_iload 5 194 (by decide +kernel) rfl rfl ?_
      refine wm_imul 195 (by decide +kernel) rfl ?_
      refine wm_iload 6 197 (by decide +kernel) rfl rfl ?_
      refine wm_iadd 198 (by decide +kernel) rfl ?_
      obtain ⟨o34, H⟩ := H
      refine wm_iald 150 199 (by decide +kernel) rfl (by decide +kernel) (by decide +kernel) o34 ?_
      refine wm_iadd 200 (by decide +kernel) rfl ?_
      replace H := H _ rfl
      refine wm_istore 4 202 [some _, none, none, some _, some _, some _, some _] (by decide +kernel) rfl (by decide +kernel) (okS_spec rfl) rfl ?_
      replace H := H _ rfl
      refine wm_iinc 6 (_ + 1) 205 [some _, none, none, some _, some _, some _, some _] (by decide +kernel : decode cX8_cost 202 = .ok (.iinc 6 1, 3)) rfl (by decide +kernel) rfl (ofI_eq (by decide +kernel)) (okS_spec rfl) rfl ?_
      refine wm_goto 172 (by decide +kernel : decode cX8_cost 205 = .ok (.goto (-33), 3)) (by decide) ?_
      exact ih _ _ _ H
set_option maxRecDepth 20000 in
theorem l_X8_cost_L160 (g : GE) (x3 : Int32)  (k214 : Int32 → HP → Prop) (Q : Int32 → HP → Prop) (hk214 : ∀ (x4 : Int32) (h : HP), k214 x4 h → Wm g mX8_cost 214 [some (.ref 117), none, none, some (.int x3), some (.int x4), none, none] [] h (qi Q)) : ∀ (n : Nat) (x4 : Int32) (x5 : Int32) (h : HP), f_X8_cost_L160 x3 k214 Q n x4 x5 h → Wm g mX8_cost 160 [some (.ref 117), none, none, some (.int x3), some (.int x4), some (.int x5), none] [] h (qi Q) := by
  intro n
  induction n with
  | zero => intro x4 x5 h H; exact H.elim
  | succ n ih =>
    intro x4 x5 h H
    unfold f_X8_cost_L160 at H
    refine wm_iload 5 162 (by decide +kernel) rfl rfl ?_
    refine wm_aload_n 0 163 (by decide +kernel) rfl rfl ?_
    refine wm_geti 8 3 166 fl_RX8_97 (by decide +kernel) rfl (by decide +kernel) rfl ?_
    refine wm_icmp_ge 169 214 (by decide +kernel : decode cX8_cost 166 = .ok (.if_icmp .ge 48, 3)) (by decide) rfl (fun c31 => ?_) (fun c31 => ?_)
    · replace H := H.1 c31
      refine wm_mask [true, false, false, true, true, false, false] [some _, none, none, some _, some _, none, none] rfl ?_
      exact hk214 _ _ H
    · replace H := H.2 c31
      refine wm_iconst 0 170 (by decide +kernel : decode cX8_cost 169 = .ok (.iconst 0, 1)) rfl (by decide +kernel) ?_
      refine wm_istore 6 172 [some _, none, none, some _, some _, some _, some _] (by decide +kernel) rfl (by decide +kernel) (okS_spec rfl) rfl ?_
      obtain ⟨n40, H⟩ := H
      refine l_X8_cost_L172 g _ _ _ _ (fun x4_37 h38 H => ?_) _ _ _ _ H
      · skip
        replace H := H _ rfl
        refine wm_iinc 5 (_ + 1) 211 [some _, none, none, some _, some _, some _, none] (by decide +kernel : decode cX8_cost 208 = .ok (.iinc 5 1, 3)) rfl (by decide +kernel) rfl (ofI_eq (by decide +kernel)) (okS_spec rfl) rfl ?_
        refine wm_goto 160 (by decide +kernel : decode cX8_cost 211 = .ok (.goto (-51), 3)) (by decide) ?_
        exact ih _ _ _ H
set_option maxRecDepth 20000 in
theorem l_X8_cost_L240 (g : GE) (x3 : Int32) (x5 : Int32)  (k307 : Int32 → HP → Prop) (Q : Int32 → HP → Prop) (hk307 : ∀ (x4 : Int32) (h : HP), k307 x4 h → Wm g mX8_cost 307 [some (.ref 117), none, none, some (.int x3), some (.int x4), some (.int x5), none] [] h (qi Q)) : ∀ (n : Nat) (x4 : Int32) (x6 : Int32) (h : HP), f_X8_cost_L240 x3 x5 k307 Q n x4 x6 h → Wm g mX8_cost 240 [some (.ref 117), none, none, some (.int x3), some (.int x4), some (.int x5), some (.int x6)] [] h (qi Q) := by
  intro n
  induction n with
  | zero => intro x4 x6 h H; exact H.elim
  | succ n ih =>
    intro x4 x6 h H
    unfold f_X8_cost_L240 at H
    refine wm_iload 6 242 (by decide +kernel) rfl rfl ?_
    refine wm_aload_n 0 243 (by decide +kernel) rfl rfl ?_
    refine wm_getr 8 17 14 131 246 fl_RX8_49 (by decide +kernel) rfl (by decide +kernel) rfl rfl (by decide) ?_
    refine wm_iload 5 248 (by decide +kernel) rfl rfl ?_
    obtain ⟨o48, H⟩ := H
    refine wm_iald 10 249 (by decide +kernel) rfl (by decide +kernel) (by decide +kernel) o48 ?_
    refine wm_iadd 250 (by decide +kernel) rfl ?_
    refine wm_iload_n 3 251 (by decide +kernel) rfl rfl ?_
    refine wm_icmp_gt 254 307 (by decide +kernel : decode cX8_cost 251 = .ok (.if_icmp .gt 56, 3)) (by decide) rfl (fun c49 => ?_) (fun c49 => ?_)
    · replace H := H.1 c49
      refine wm_mask [true, false, false, true, true, true, false] [some _, none, none, some _, some _, some _, none] rfl ?_
      exact hk307 _ _ H
    · replace H := H.2 c49
      refine wm_iload 4 256 (by decide +kernel) rfl rfl ?_
      refine wm_iload 6 258 (by decide +kernel) rfl rfl ?_
      refine wm_aload_n 0 259 (by decide +kernel) rfl rfl ?_
      refine wm_getr 8 17 14 131 262 fl_RX8_49 (by decide +kernel) rfl (by decide +kernel) rfl rfl (by decide) ?_
      refine wm_iload 5 264 (by decide +kernel) rfl rfl ?_
      obtain ⟨o50, H⟩ := H
      refine wm_iald 10 265 (by decide +kernel) rfl (by decide +kernel) (by decide +kernel) o50 ?_
      refine wm_iadd 266 (by decide +kernel) rfl ?_
      refine wm_aload_n 0 267 (by decide +kernel) rfl rfl ?_
      refine wm_getr 8 19 16 133 270 fl_RX8_55 (by decide +kernel) rfl (by decide +kernel) rfl rfl (by decide) ?_
      refine wm_aload_n 0 271 (by decide +kernel) rfl rfl ?_
      refine wm_iload 5 273 (by decide +kernel) rfl rfl ?_
      refine wm_iconst 2 274 (by decide +kernel : decode cX8_cost 273 = .ok (.iconst 2, 1)) rfl (by decide +kernel) ?_
      refine wm_callVi mX8_at 2 8 [_, _] [_, _, _] _ _ 277 mo_X8_at np_X8_at ml_RX8_109 im_X8_at se_X8_at (by decide +kernel) (by decide +kernel) rfl rfl rfl (Nat.le_of_ble_eq_true rfl) (by decide +kernel) rfl (Nat.le_of_ble_eq_true rfl) _ (ent_pad 0 rfl) (l_X8_at g _ _ _ _ H) (fun v52 h51 H hzv52 => ?_)
      obtain ⟨o53, H⟩ := H
      refine wm_iald 150 278 (by decide +kernel) rfl (by decide +kernel) (by decide +kernel) o53 ?_
      obtain ⟨D56b, H⟩ := H
      refine' wm_dia (pcJ := 298) (fun kt kf => wm_icmp_ge 281 297 (by decide +kernel : decode cX8_cost 278 = .ok (.if_icmp .ge 19, 3)) (by decide) rfl kt kf) ?D56k (fun kj c1 => ?D56t) (fun kj c1 => ?D56f)
      case D56t =>
        refine wm_iconst 0 298 (by decide +kernel : decode cX8_cost 297 = .ok (.iconst 0, 1)) rfl (by decide +kernel) ?_
        exact kj
      case D56f =>
        have H := D56b c1
        refine wm_aload_n 0 282 (by decide +kernel) rfl rfl ?_
        refine wm_getr 8 11 8 125 285 fl_RX8_31 (by decide +kernel) rfl (by decide +kernel) rfl rfl (by decide) ?_
        refine wm_bipush 25 287 (by decide +kernel : decode cX8_cost 285 = .ok (.bipush 25, 2)) rfl (by decide +kernel) ?_
        refine wm_iload 5 289 (by decide +kernel) rfl rfl ?_
        refine wm_imul 290 (by decide +kernel) rfl ?_
        refine wm_iload 6 292 (by decide +kernel) rfl rfl ?_
        refine wm_iadd 293 (by decide +kernel) rfl ?_
        have o55 := H
        refine wm_iald 250 294 (by decide +kernel) rfl (by decide +kernel) (by decide +kernel) o55 ?_
        refine wm_goto 298 (by decide +kernel : decode cX8_cost 294 = .ok (.goto 4, 3)) (by decide) ?_
        exact kj
      case D56k =>
        refine wm_iadd 299 (by decide +kernel) rfl ?_
        replace H := H _ rfl
        refine wm_istore 4 301 [some _, none, none, some _, some _, some _, some _] (by decide +kernel) rfl (by decide +kernel) (okS_spec rfl) rfl ?_
        replace H := H _ rfl
        refine wm_iinc 6 (_ + 1) 304 [some _, none, none, some _, some _, some _, some _] (by decide +kernel : decode cX8_cost 301 = .ok (.iinc 6 1, 3)) rfl (by decide +kernel) rfl (ofI_eq (by decide +kernel)) (okS_spec rfl) rfl ?_
        refine wm_goto 240 (by decide +kernel : decode cX8_cost 304 = .ok (.goto (-64), 3)) (by decide) ?_
        exact ih _ _ _ H
set_option maxRecDepth 20000 in
theorem l_X8_cost_L217 (g : GE) (x3 : Int32)   (Q : Int32 → HP → Prop)  : ∀ (n : Nat) (x4 : Int32) (x5 : Int32) (h : HP), f_X8_cost_L217 x3 Q n x4 x5 h → Wm g mX8_cost 217 [some (.ref 117), none, none, some (.int x3), some (.int x4), some (.int x5), none] [] h (qi Q) := by
  intro n
  induction n with
  | zero => intro x4 x5 h H; exact H.elim
  | succ n ih =>
    intro x4 x5 h H
    unfold f_X8_cost_L217 at H
    refine wm_iload 5 219 (by decide +kernel) rfl rfl ?_
    refine wm_aload_n 0 220 (by decide +kernel) rfl rfl ?_
    refine wm_geti 8 7 223 fl_RX8_105 (by decide +kernel) rfl (by decide +kernel) rfl ?_
    refine wm_icmp_ge 226 313 (by decide +kernel : decode cX8_cost 223 = .ok (.if_icmp .ge 90, 3)) (by decide) rfl (fun c43 => ?_) (fun c43 => ?_)
    · replace H := H.1 c43
      refine wm_iload 4 315 (by decide +kernel) rfl rfl ?_
      exact wm_iret (by decide +kernel) ⟨.int, rfl, rfl⟩ H
    · replace H := H.2 c43
      refine wm_aload_n 0 227 (by decide +kernel) rfl rfl ?_
      refine wm_getr 8 19 16 133 230 fl_RX8_55 (by decide +kernel) rfl (by decide +kernel) rfl rfl (by decide) ?_
      refine wm_aload_n 0 231 (by decide +kernel) rfl rfl ?_
      refine wm_iload 5 233 (by decide +kernel) rfl rfl ?_
      refine wm_iconst 1 234 (by decide +kernel : decode cX8_cost 233 = .ok (.iconst 1, 1)) rfl (by decide +kernel) ?_
      refine wm_callVi mX8_at 2 8 [_, _] [_] _ _ 237 mo_X8_at np_X8_at ml_RX8_109 im_X8_at se_X8_at (by decide +kernel) (by decide +kernel) rfl rfl rfl (Nat.le_of_ble_eq_true rfl) (by decide +kernel) rfl (Nat.le_of_ble_eq_true rfl) _ (ent_pad 0 rfl) (l_X8_at g _ _ _ _ H) (fun v45 h44 H hzv45 => ?_)
      obtain ⟨o46, H⟩ := H
      refine wm_iald 150 238 (by decide +kernel) rfl (by decide +kernel) (by decide +kernel) o46 ?_
      replace H := H _ rfl
      refine wm_istore 6 240 [some _, none, none, some _, some _, some _, some _] (by decide +kernel) rfl (by decide +kernel) (okS_spec rfl) rfl ?_
      obtain ⟨n62, H⟩ := H
      refine l_X8_cost_L240 g _ _ _ _ (fun x4_59 h60 H => ?_) _ _ _ _ H
      · skip
        replace H := H _ rfl
        refine wm_iinc 5 (_ + 1) 310 [some _, none, none, some _, some _, some _, none] (by decide +kernel : decode cX8_cost 307 = .ok (.iinc 5 1, 3)) rfl (by decide +kernel) rfl (ofI_eq (by decide +kernel)) (okS_spec rfl) rfl ?_
        refine wm_goto 217 (by decide +kernel : decode cX8_cost 310 = .ok (.goto (-93), 3)) (by decide) ?_
        exact ih _ _ _ H
set_option maxRecDepth 20000 in
theorem l_X8_cost (g : GE) (x1 : Int32) (x2 : Int32) (x3 : Int32)  (h : HP) (Q : Int32 → HP → Prop) (H : f_X8_cost x1 x2 x3 h Q) : Wm g mX8_cost 0 [some (.ref 117), some (.int x1), some (.int x2), some (.int x3), none, none, none] [] h (qi Q) := by
  unfold f_X8_cost at H
  refine wm_iload_n 1 1 (by decide +kernel) rfl rfl ?_
  refine wm_callSi mX8_isSheet 1 [_] [] _ _ 4 mo_X8_isSheet np_X8_isSheet ml_RX8_261 sc_X8_isSheet (by decide +kernel) (by decide +kernel) rfl rfl rfl (Nat.le_of_ble_eq_true rfl) (Nat.le_of_ble_eq_true rfl) _ (ent_pad 0 rfl) (l_X8_isSheet g _ _ _ H) (fun v2 h1 H hzv2 => ?_)
  refine wm_if_ne 7 14 (by decide +kernel : decode cX8_cost 4 = .ok (.ifCond .ne 10, 3)) (by decide) rfl (fun c3 => ?_) (fun c3 => ?_)
  · replace H := H.2 c3
    refine wm_aload_n 0 15 (by decide +kernel) rfl rfl ?_
    refine wm_getr 8 33 23 140 18 fl_RX8_77 (by decide +kernel) rfl (by decide +kernel) rfl rfl (by decide) ?_
    refine wm_iload_n 1 19 (by decide +kernel) rfl rfl ?_
    obtain ⟨o4, H⟩ := H
    refine wm_iald 4 20 (by decide +kernel) rfl (by decide +kernel) (by decide +kernel) o4 ?_
    refine wm_if_ne 23 31 (by decide +kernel : decode cX8_cost 20 = .ok (.ifCond .ne 11, 3)) (by decide) rfl (fun c5 => ?_) (fun c5 => ?_)
    · replace H := H.2 c5
      refine wm_aload_n 0 32 (by decide +kernel) rfl rfl ?_
      refine wm_iload_n 2 33 (by decide +kernel) rfl rfl ?_
      refine wm_callVi mX8_isStation 1 8 [_] [] _ _ 36 mo_X8_isStation np_X8_isStation ml_RX8_140 im_X8_isStation se_X8_isStation (by decide +kernel) (by decide +kernel) rfl rfl rfl (Nat.le_of_ble_eq_true rfl) (by decide +kernel) rfl (Nat.le_of_ble_eq_true rfl) _ (ent_pad 0 rfl) (l_X8_isStation g _ _ _ H) (fun v7 h6 H hzv7 => ?_)
      refine wm_if_eq 39 46 (by decide +kernel : decode cX8_cost 36 = .ok (.ifCond .eq 10, 3)) (by decide) rfl (fun c8 => ?_) (fun c8 => ?_)
      · replace H := H.1 c8
        refine wm_aload_n 0 47 (by decide +kernel) rfl rfl ?_
        refine wm_ldc (-1000000001) 49 co_RX8_96 (by decide +kernel) rfl ?_
        refine wm_callVi mX8_finds 1 8 [_] [] _ _ 52 mo_X8_finds np_X8_finds ml_RX8_129 im_X8_finds se_X8_finds (by decide +kernel) (by decide +kernel) rfl rfl rfl (Nat.le_of_ble_eq_true rfl) (by decide +kernel) rfl (Nat.le_of_ble_eq_true rfl) _ (ent_pad 0 rfl) (l_X8_finds g _ _ _ H) (fun v10 h9 H hzv10 => ?_)
        exact wm_iret (by decide +kernel) ⟨.int, rfl, rfl⟩ H
      · replace H := H.2 c8
        refine wm_iload_n 3 40 (by decide +kernel) rfl rfl ?_
        refine wm_callSi mX8_isAhead 1 [_] [] _ _ 43 mo_X8_isAhead np_X8_isAhead ml_RX8_248 sc_X8_isAhead (by decide +kernel) (by decide +kernel) rfl rfl rfl (Nat.le_of_ble_eq_true rfl) (Nat.le_of_ble_eq_true rfl) _ (ent_pad 0 rfl) (l_X8_isAhead g _ _ _ H) (fun v12 h11 H hzv12 => ?_)
        refine wm_if_ne 46 53 (by decide +kernel : decode cX8_cost 43 = .ok (.ifCond .ne 10, 3)) (by decide) rfl (fun c13 => ?_) (fun c13 => ?_)
        · replace H := H.2 c13
          refine wm_iconst 0 54 (by decide +kernel : decode cX8_cost 53 = .ok (.iconst 0, 1)) rfl (by decide +kernel) ?_
          refine wm_istore 4 56 [some _, some _, some _, some _, some _, none, none] (by decide +kernel) rfl (by decide +kernel) (okS_spec rfl) rfl ?_
          obtain ⟨n67, H⟩ := H
          refine l_X8_cost_L56 g _ _ _ _ _ (fun h27 H => ?_) _ _ _ H
          · skip
            refine wm_aload_n 0 130 (by decide +kernel) rfl rfl ?_
            refine wm_getr 8 19 16 133 133 fl_RX8_55 (by decide +kernel) rfl (by decide +kernel) rfl rfl (by decide) ?_
            refine wm_iload_n 2 134 (by decide +kernel) rfl rfl ?_
            obtain ⟨o28, H⟩ := H
            refine wm_iald 150 135 (by decide +kernel) rfl (by decide +kernel) (by decide +kernel) o28 ?_
            refine wm_iload_n 3 136 (by decide +kernel) rfl rfl ?_
            refine wm_icmp_gt 139 146 (by decide +kernel : decode cX8_cost 136 = .ok (.if_icmp .gt 10, 3)) (by decide) rfl (fun c29 => ?_) (fun c29 => ?_)
            · replace H := H.1 c29
              refine wm_aload_n 0 147 (by decide +kernel) rfl rfl ?_
              refine wm_iconst (-1) 148 (by decide +kernel : decode cX8_cost 147 = .ok (.iconst (-1), 1)) rfl (by decide +kernel) ?_
              refine wm_iconst (-1) 149 (by decide +kernel : decode cX8_cost 148 = .ok (.iconst (-1), 1)) rfl (by decide +kernel) ?_
              refine wm_iconst (-1) 150 (by decide +kernel : decode cX8_cost 149 = .ok (.iconst (-1), 1)) rfl (by decide +kernel) ?_
              refine wm_iconst 0 151 (by decide +kernel : decode cX8_cost 150 = .ok (.iconst 0, 1)) rfl (by decide +kernel) ?_
              refine wm_callVv mX8_layOut 4 8 [_, _, _, _] [] _ _ 154 mo_X8_layOut np_X8_layOut ml_RX8_232 im_X8_layOut se_X8_layOut (by decide +kernel) (by decide +kernel) rfl rfl rfl (Nat.le_of_ble_eq_true rfl) (by decide +kernel) rfl (Nat.le_of_ble_eq_true rfl) _ (ent_pad 3 rfl) (l_X8_layOut g _ _ _ _ _ _ H) (fun h30 H => ?_)
              refine wm_iconst 0 155 (by decide +kernel : decode cX8_cost 154 = .ok (.iconst 0, 1)) rfl (by decide +kernel) ?_
              refine wm_istore 4 157 [some _, none, some _, some _, some _, none, none] (by decide +kernel) rfl (by decide +kernel) (okS_spec rfl) rfl ?_
              refine wm_iconst 0 158 (by decide +kernel : decode cX8_cost 157 = .ok (.iconst 0, 1)) rfl (by decide +kernel) ?_
              refine wm_istore 5 160 [some _, none, some _, some _, some _, some _, none] (by decide +kernel) rfl (by decide +kernel) (okS_spec rfl) rfl ?_
              obtain ⟨n64, H⟩ := H
              refine wm_mask [true, false, false, true, true, true, false] [some _, none, none, some _, some _, some _, none] rfl ?_
              refine l_X8_cost_L160 g _ _ _ (fun x4_41 h42 H => ?_) _ _ _ _ H
              · skip
                refine wm_iconst 0 215 (by decide +kernel : decode cX8_cost 214 = .ok (.iconst 0, 1)) rfl (by decide +kernel) ?_
                refine wm_istore 5 217 [some _, none, none, some _, some _, some _, none] (by decide +kernel) rfl (by decide +kernel) (okS_spec rfl) rfl ?_
                obtain ⟨n63, H⟩ := H
                refine l_X8_cost_L217 g _ _  _ _ _ _ H
            · replace H := H.2 c29
              refine wm_aload_n 0 140 (by decide +kernel) rfl rfl ?_
              refine wm_ldc (-1000000005) 142 co_RX8_189 (by decide +kernel) rfl ?_
              refine wm_callVi mX8_finds 1 8 [_] [] _ _ 145 mo_X8_finds np_X8_finds ml_RX8_129 im_X8_finds se_X8_finds (by decide +kernel) (by decide +kernel) rfl rfl rfl (Nat.le_of_ble_eq_true rfl) (by decide +kernel) rfl (Nat.le_of_ble_eq_true rfl) _ (ent_pad 0 rfl) (l_X8_finds g _ _ _ H) (fun v66 h65 H hzv66 => ?_)
              exact wm_iret (by decide +kernel) ⟨.int, rfl, rfl⟩ H
        · replace H := H.1 c13
          refine wm_aload_n 0 47 (by decide +kernel) rfl rfl ?_
          refine wm_ldc (-1000000001) 49 co_RX8_96 (by decide +kernel) rfl ?_
          refine wm_callVi mX8_finds 1 8 [_] [] _ _ 52 mo_X8_finds np_X8_finds ml_RX8_129 im_X8_finds se_X8_finds (by decide +kernel) (by decide +kernel) rfl rfl rfl (Nat.le_of_ble_eq_true rfl) (by decide +kernel) rfl (Nat.le_of_ble_eq_true rfl) _ (ent_pad 0 rfl) (l_X8_finds g _ _ _ H) (fun v69 h68 H hzv69 => ?_)
          exact wm_iret (by decide +kernel) ⟨.int, rfl, rfl⟩ H
    · replace H := H.1 c5
      refine wm_aload_n 0 24 (by decide +kernel) rfl rfl ?_
      refine wm_ldcw (-1000000006) 27 co_RX8_264 (by decide +kernel) rfl ?_
      refine wm_callVi mX8_finds 1 8 [_] [] _ _ 30 mo_X8_finds np_X8_finds ml_RX8_129 im_X8_finds se_X8_finds (by decide +kernel) (by decide +kernel) rfl rfl rfl (Nat.le_of_ble_eq_true rfl) (by decide +kernel) rfl (Nat.le_of_ble_eq_true rfl) _ (ent_pad 0 rfl) (l_X8_finds g _ _ _ H) (fun v71 h70 H hzv71 => ?_)
      exact wm_iret (by decide +kernel) ⟨.int, rfl, rfl⟩ H
  · replace H := H.1 c3
    refine wm_aload_n 0 8 (by decide +kernel) rfl rfl ?_
    refine wm_ldc (-1000000001) 10 co_RX8_96 (by decide +kernel) rfl ?_
    refine wm_callVi mX8_finds 1 8 [_] [] _ _ 13 mo_X8_finds np_X8_finds ml_RX8_129 im_X8_finds se_X8_finds (by decide +kernel) (by decide +kernel) rfl rfl rfl (Nat.le_of_ble_eq_true rfl) (by decide +kernel) rfl (Nat.le_of_ble_eq_true rfl) _ (ent_pad 0 rfl) (l_X8_finds g _ _ _ H) (fun v73 h72 H hzv73 => ?_)
    exact wm_iret (by decide +kernel) ⟨.int, rfl, rfl⟩ H
def f_X8_lose_J79 (x1 : Int32) (x2 : Int32) (x5 : Int32) (x6 : Int32) (k45 : Int32 → Int32 → Int32 → HP → Prop) (Q : Int32 → HP → Prop) (h : HP) : Prop :=
  ∀ x5_14 : Int32, x5_14 = (x5 + 1) →
  k45 x5 x6 x5_14 h
def f_X8_lose_L45 (x1 : Int32) (x2 : Int32)  (Q : Int32 → HP → Prop) : Nat → Int32 → Int32 → Int32 → HP → Prop
  | 0, _, _, _, _ => False
  | n + 1, x3, x4, x5, h =>
    ((((gi h 117 7) ≤ x5) →
      Q x3 h) ∧
     (¬ ((gi h 117 7) ≤ x5) →
      f_X8_mostBy x1 x2 x5 (-1 : Int32) (-1 : Int32) 0 h (fun v12 h11 =>
      (((x5 = 0) →
        f_X8_lose_J79 x1 x2 x5 v12 (f_X8_lose_L45 x1 x2 Q n) Q h11) ∧
       (¬ (x5 = 0) →
        (((x4 ≤ v12) →
          ∀ x5_16 : Int32, x5_16 = (x5 + 1) →
          f_X8_lose_L45 x1 x2 Q n x3 x4 x5_16 h11) ∧
         (¬ (x4 ≤ v12) →
          f_X8_lose_J79 x1 x2 x5 v12 (f_X8_lose_L45 x1 x2 Q n) Q h11)))))))
def f_X8_lose (x1 : Int32) (x2 : Int32) (h : HP) (Q : Int32 → HP → Prop) : Prop :=
  f_X8_isStation x1 h (fun v2 h1 =>
  (((v2 = 0) →
    f_X8_finds (-1000000001 : Int32) h1 (fun v5 h4 =>
    Q v5 h4)) ∧
   (¬ (v2 = 0) →
    f_X8_isAhead x2 h1 (fun v7 h6 =>
    (((v7 = 0) →
      f_X8_finds (-1000000001 : Int32) h6 (fun v21 h20 =>
      Q v21 h20)) ∧
     (¬ (v7 = 0) →
      ((((gi h6 117 7) = 0) →
        f_X8_finds (-1000000004 : Int32) h6 (fun v19 h18 =>
        Q v19 h18)) ∧
       (¬ ((gi h6 117 7) = 0) →
        ∃ n17, f_X8_lose_L45 x1 x2
          Q n17 0 0 0 h6))))))))
set_option maxRecDepth 20000 in
theorem l_X8_lose_J79 (g : GE) (x1 : Int32) (x2 : Int32) (x5 : Int32) (x6 : Int32)  (k45 : Int32 → Int32 → Int32 → HP → Prop) (Q : Int32 → HP → Prop) (hk45 : ∀ (x3 : Int32) (x4 : Int32) (x5 : Int32) (h : HP), k45 x3 x4 x5 h → Wm g mX8_lose 45 [some (.ref 117), some (.int x1), some (.int x2), some (.int x3), some (.int x4), some (.int x5), none] [] h (qi Q)) (h : HP) (H : f_X8_lose_J79 x1 x2 x5 x6 k45 Q h) : Wm g mX8_lose 79 [some (.ref 117), some (.int x1), some (.int x2), none, none, some (.int x5), some (.int x6)] [] h (qi Q) := by
  unfold f_X8_lose_J79 at H
  refine wm_iload 5 81 (by decide +kernel) rfl rfl ?_
  refine wm_istore_n 3 82 [some _, some _, some _, some _, none, some _, some _] (by decide +kernel) rfl (by decide +kernel) (okS_spec rfl) rfl ?_
  refine wm_iload 6 84 (by decide +kernel) rfl rfl ?_
  refine wm_istore 4 86 [some _, some _, some _, some _, some _, some _, some _] (by decide +kernel) rfl (by decide +kernel) (okS_spec rfl) rfl ?_
  replace H := H _ rfl
  refine wm_iinc 5 (_ + 1) 89 [some _, some _, some _, some _, some _, some _, some _] (by decide +kernel : decode cX8_lose 86 = .ok (.iinc 5 1, 3)) rfl (by decide +kernel) rfl (ofI_eq (by decide +kernel)) (okS_spec rfl) rfl ?_
  refine wm_goto 45 (by decide +kernel : decode cX8_lose 89 = .ok (.goto (-44), 3)) (by decide) ?_
  refine wm_mask [true, true, true, true, true, true, false] [some _, some _, some _, some _, some _, some _, none] rfl ?_
  exact hk45 _ _ _ _ H
set_option maxRecDepth 20000 in
theorem l_X8_lose_L45 (g : GE) (x1 : Int32) (x2 : Int32)   (Q : Int32 → HP → Prop)  : ∀ (n : Nat) (x3 : Int32) (x4 : Int32) (x5 : Int32) (h : HP), f_X8_lose_L45 x1 x2 Q n x3 x4 x5 h → Wm g mX8_lose 45 [some (.ref 117), some (.int x1), some (.int x2), some (.int x3), some (.int x4), some (.int x5), none] [] h (qi Q) := by
  intro n
  induction n with
  | zero => intro x3 x4 x5 h H; exact H.elim
  | succ n ih =>
    intro x3 x4 x5 h H
    unfold f_X8_lose_L45 at H
    refine wm_iload 5 47 (by decide +kernel) rfl rfl ?_
    refine wm_aload_n 0 48 (by decide +kernel) rfl rfl ?_
    refine wm_geti 8 7 51 fl_RX8_105 (by decide +kernel) rfl (by decide +kernel) rfl ?_
    refine wm_icmp_ge 54 92 (by decide +kernel : decode cX8_lose 51 = .ok (.if_icmp .ge 41, 3)) (by decide) rfl (fun c10 => ?_) (fun c10 => ?_)
    · replace H := H.1 c10
      refine wm_iload_n 3 93 (by decide +kernel) rfl rfl ?_
      exact wm_iret (by decide +kernel) ⟨.int, rfl, rfl⟩ H
    · replace H := H.2 c10
      refine wm_aload_n 0 55 (by decide +kernel) rfl rfl ?_
      refine wm_iload_n 1 56 (by decide +kernel) rfl rfl ?_
      refine wm_iload_n 2 57 (by decide +kernel) rfl rfl ?_
      refine wm_iload 5 59 (by decide +kernel) rfl rfl ?_
      refine wm_iconst (-1) 60 (by decide +kernel : decode cX8_lose 59 = .ok (.iconst (-1), 1)) rfl (by decide +kernel) ?_
      refine wm_iconst (-1) 61 (by decide +kernel : decode cX8_lose 60 = .ok (.iconst (-1), 1)) rfl (by decide +kernel) ?_
      refine wm_iconst 0 62 (by decide +kernel : decode cX8_lose 61 = .ok (.iconst 0, 1)) rfl (by decide +kernel) ?_
      refine wm_callVi mX8_mostBy 6 8 [_, _, _, _, _, _] [] _ _ 65 mo_X8_mostBy np_X8_mostBy ml_RX8_242 im_X8_mostBy se_X8_mostBy (by decide +kernel) (by decide +kernel) rfl rfl rfl (Nat.le_of_ble_eq_true rfl) (by decide +kernel) rfl (Nat.le_of_ble_eq_true rfl) _ (ent_pad 1 rfl) (l_X8_mostBy g _ _ _ _ _ _ _ _ H) (fun v12 h11 H hzv12 => ?_)
      refine wm_istore 6 67 [some _, some _, some _, some _, some _, some _, some _] (by decide +kernel) rfl (by decide +kernel) (okS_spec rfl) rfl ?_
      refine wm_iload 5 69 (by decide +kernel) rfl rfl ?_
      refine wm_if_eq 72 79 (by decide +kernel : decode cX8_lose 69 = .ok (.ifCond .eq 10, 3)) (by decide) rfl (fun c13 => ?_) (fun c13 => ?_)
      · replace H := H.1 c13
        refine wm_mask [true, true, true, false, false, true, true] [some _, some _, some _, none, none, some _, some _] rfl ?_
        exact l_X8_lose_J79 g _ _ _ _ _ _ (ih) _ H
      · replace H := H.2 c13
        refine wm_iload 6 74 (by decide +kernel) rfl rfl ?_
        refine wm_iload 4 76 (by decide +kernel) rfl rfl ?_
        refine wm_icmp_ge 79 86 (by decide +kernel : decode cX8_lose 76 = .ok (.if_icmp .ge 10, 3)) (by decide) rfl (fun c15 => ?_) (fun c15 => ?_)
        · replace H := H.1 c15
          replace H := H _ rfl
          refine wm_iinc 5 (_ + 1) 89 [some _, some _, some _, some _, some _, some _, some _] (by decide +kernel : decode cX8_lose 86 = .ok (.iinc 5 1, 3)) rfl (by decide +kernel) rfl (ofI_eq (by decide +kernel)) (okS_spec rfl) rfl ?_
          refine wm_goto 45 (by decide +kernel : decode cX8_lose 89 = .ok (.goto (-44), 3)) (by decide) ?_
          refine wm_mask [true, true, true, true, true, true, false] [some _, some _, some _, some _, some _, some _, none] rfl ?_
          exact ih _ _ _ _ H
        · replace H := H.2 c15
          refine wm_mask [true, true, true, false, false, true, true] [some _, some _, some _, none, none, some _, some _] rfl ?_
          exact l_X8_lose_J79 g _ _ _ _ _ _ (ih) _ H
set_option maxRecDepth 20000 in
theorem l_X8_lose (g : GE) (x1 : Int32) (x2 : Int32)  (h : HP) (Q : Int32 → HP → Prop) (H : f_X8_lose x1 x2 h Q) : Wm g mX8_lose 0 [some (.ref 117), some (.int x1), some (.int x2), none, none, none, none] [] h (qi Q) := by
  unfold f_X8_lose at H
  refine wm_aload_n 0 1 (by decide +kernel) rfl rfl ?_
  refine wm_iload_n 1 2 (by decide +kernel) rfl rfl ?_
  refine wm_callVi mX8_isStation 1 8 [_] [] _ _ 5 mo_X8_isStation np_X8_isStation ml_RX8_140 im_X8_isStation se_X8_isStation (by decide +kernel) (by decide +kernel) rfl rfl rfl (Nat.le_of_ble_eq_true rfl) (by decide +kernel) rfl (Nat.le_of_ble_eq_true rfl) _ (ent_pad 0 rfl) (l_X8_isStation g _ _ _ H) (fun v2 h1 H hzv2 => ?_)
  refine wm_if_eq 8 15 (by decide +kernel : decode cX8_lose 5 = .ok (.ifCond .eq 10, 3)) (by decide) rfl (fun c3 => ?_) (fun c3 => ?_)
  · replace H := H.1 c3
    refine wm_aload_n 0 16 (by decide +kernel) rfl rfl ?_
    refine wm_ldc (-1000000001) 18 co_RX8_96 (by decide +kernel) rfl ?_
    refine wm_callVi mX8_finds 1 8 [_] [] _ _ 21 mo_X8_finds np_X8_finds ml_RX8_129 im_X8_finds se_X8_finds (by decide +kernel) (by decide +kernel) rfl rfl rfl (Nat.le_of_ble_eq_true rfl) (by decide +kernel) rfl (Nat.le_of_ble_eq_true rfl) _ (ent_pad 0 rfl) (l_X8_finds g _ _ _ H) (fun v5 h4 H hzv5 => ?_)
    exact wm_iret (by decide +kernel) ⟨.int, rfl, rfl⟩ H
  · replace H := H.2 c3
    refine wm_iload_n 2 9 (by decide +kernel) rfl rfl ?_
    refine wm_callSi mX8_isAhead 1 [_] [] _ _ 12 mo_X8_isAhead np_X8_isAhead ml_RX8_248 sc_X8_isAhead (by decide +kernel) (by decide +kernel) rfl rfl rfl (Nat.le_of_ble_eq_true rfl) (Nat.le_of_ble_eq_true rfl) _ (ent_pad 0 rfl) (l_X8_isAhead g _ _ _ H) (fun v7 h6 H hzv7 => ?_)
    refine wm_if_ne 15 22 (by decide +kernel : decode cX8_lose 12 = .ok (.ifCond .ne 10, 3)) (by decide) rfl (fun c8 => ?_) (fun c8 => ?_)
    · replace H := H.2 c8
      refine wm_aload_n 0 23 (by decide +kernel) rfl rfl ?_
      refine wm_geti 8 7 26 fl_RX8_105 (by decide +kernel) rfl (by decide +kernel) rfl ?_
      refine wm_if_ne 29 37 (by decide +kernel : decode cX8_lose 26 = .ok (.ifCond .ne 11, 3)) (by decide) rfl (fun c9 => ?_) (fun c9 => ?_)
      · replace H := H.2 c9
        refine wm_iconst 0 38 (by decide +kernel : decode cX8_lose 37 = .ok (.iconst 0, 1)) rfl (by decide +kernel) ?_
        refine wm_istore_n 3 39 [some _, some _, some _, some _, none, none, none] (by decide +kernel) rfl (by decide +kernel) (okS_spec rfl) rfl ?_
        refine wm_iconst 0 40 (by decide +kernel : decode cX8_lose 39 = .ok (.iconst 0, 1)) rfl (by decide +kernel) ?_
        refine wm_istore 4 42 [some _, some _, some _, some _, some _, none, none] (by decide +kernel) rfl (by decide +kernel) (okS_spec rfl) rfl ?_
        refine wm_iconst 0 43 (by decide +kernel : decode cX8_lose 42 = .ok (.iconst 0, 1)) rfl (by decide +kernel) ?_
        refine wm_istore 5 45 [some _, some _, some _, some _, some _, some _, none] (by decide +kernel) rfl (by decide +kernel) (okS_spec rfl) rfl ?_
        obtain ⟨n17, H⟩ := H
        refine l_X8_lose_L45 g _ _ _  _ _ _ _ _ H
      · replace H := H.1 c9
        refine wm_aload_n 0 30 (by decide +kernel) rfl rfl ?_
        refine wm_ldcw (-1000000004) 33 co_RX8_257 (by decide +kernel) rfl ?_
        refine wm_callVi mX8_finds 1 8 [_] [] _ _ 36 mo_X8_finds np_X8_finds ml_RX8_129 im_X8_finds se_X8_finds (by decide +kernel) (by decide +kernel) rfl rfl rfl (Nat.le_of_ble_eq_true rfl) (by decide +kernel) rfl (Nat.le_of_ble_eq_true rfl) _ (ent_pad 0 rfl) (l_X8_finds g _ _ _ H) (fun v19 h18 H hzv19 => ?_)
        exact wm_iret (by decide +kernel) ⟨.int, rfl, rfl⟩ H
    · replace H := H.1 c8
      refine wm_aload_n 0 16 (by decide +kernel) rfl rfl ?_
      refine wm_ldc (-1000000001) 18 co_RX8_96 (by decide +kernel) rfl ?_
      refine wm_callVi mX8_finds 1 8 [_] [] _ _ 21 mo_X8_finds np_X8_finds ml_RX8_129 im_X8_finds se_X8_finds (by decide +kernel) (by decide +kernel) rfl rfl rfl (Nat.le_of_ble_eq_true rfl) (by decide +kernel) rfl (Nat.le_of_ble_eq_true rfl) _ (ent_pad 0 rfl) (l_X8_finds g _ _ _ H) (fun v21 h20 H hzv21 => ?_)
      exact wm_iret (by decide +kernel) ⟨.int, rfl, rfl⟩ H
def f_X8_widen_L35 (x1 : Int32) (x2 : Int32) (k77 : Int32 → HP → Prop) (Q : Int32 → HP → Prop) : Nat → Int32 → Int32 → Int32 → HP → Prop
  | 0, _, _, _, _ => False
  | n + 1, x3, x4, x5, h =>
    ((((gi h 117 7) ≤ x5) →
      k77 x3 h) ∧
     (¬ ((gi h 117 7) ≤ x5) →
      f_X8_mostBy x1 x2 (-1 : Int32) x5 (-1 : Int32) 0 h (fun v13 h12 =>
      (((v13 ≤ x4) →
        ∀ x5_15 : Int32, x5_15 = (x5 + 1) →
        f_X8_widen_L35 x1 x2 k77 Q n x3 x4 x5_15 h12) ∧
       (¬ (v13 ≤ x4) →
        ∀ x5_16 : Int32, x5_16 = (x5 + 1) →
        f_X8_widen_L35 x1 x2 k77 Q n x5 v13 x5_16 h12)))))
def f_X8_widen (x1 : Int32) (x2 : Int32) (h : HP) (Q : Int32 → HP → Prop) : Prop :=
  f_X8_isStation x1 h (fun v2 h1 =>
  (((v2 = 0) →
    f_X8_finds (-1000000001 : Int32) h1 (fun v5 h4 =>
    Q v5 h4)) ∧
   (¬ (v2 = 0) →
    f_X8_isAhead x2 h1 (fun v7 h6 =>
    (((v7 = 0) →
      f_X8_finds (-1000000001 : Int32) h6 (fun v24 h23 =>
      Q v24 h23)) ∧
     (¬ (v7 = 0) →
      f_X8_mostOf x1 x2 h6 (fun v10 h9 =>
      ∃ n22, f_X8_widen_L35 x1 x2
        (fun x3_17 h18 =>
          (((0 ≤ x3_17) →
            Q x3_17 h18) ∧
           (¬ (0 ≤ x3_17) →
            f_X8_finds (-1000000004 : Int32) h18 (fun v21 h20 =>
            Q v21 h20))))
        Q n22 (-1 : Int32) v10 0 h9)))))))
set_option maxRecDepth 20000 in
theorem l_X8_widen_L35 (g : GE) (x1 : Int32) (x2 : Int32)  (k77 : Int32 → HP → Prop) (Q : Int32 → HP → Prop) (hk77 : ∀ (x3 : Int32) (h : HP), k77 x3 h → Wm g mX8_widen 77 [some (.ref 117), none, none, some (.int x3), none, none, none] [] h (qi Q)) : ∀ (n : Nat) (x3 : Int32) (x4 : Int32) (x5 : Int32) (h : HP), f_X8_widen_L35 x1 x2 k77 Q n x3 x4 x5 h → Wm g mX8_widen 35 [some (.ref 117), some (.int x1), some (.int x2), some (.int x3), some (.int x4), some (.int x5), none] [] h (qi Q) := by
  intro n
  induction n with
  | zero => intro x3 x4 x5 h H; exact H.elim
  | succ n ih =>
    intro x3 x4 x5 h H
    unfold f_X8_widen_L35 at H
    refine wm_iload 5 37 (by decide +kernel) rfl rfl ?_
    refine wm_aload_n 0 38 (by decide +kernel) rfl rfl ?_
    refine wm_geti 8 7 41 fl_RX8_105 (by decide +kernel) rfl (by decide +kernel) rfl ?_
    refine wm_icmp_ge 44 77 (by decide +kernel : decode cX8_widen 41 = .ok (.if_icmp .ge 36, 3)) (by decide) rfl (fun c11 => ?_) (fun c11 => ?_)
    · replace H := H.1 c11
      refine wm_mask [true, false, false, true, false, false, false] [some _, none, none, some _, none, none, none] rfl ?_
      exact hk77 _ _ H
    · replace H := H.2 c11
      refine wm_aload_n 0 45 (by decide +kernel) rfl rfl ?_
      refine wm_iload_n 1 46 (by decide +kernel) rfl rfl ?_
      refine wm_iload_n 2 47 (by decide +kernel) rfl rfl ?_
      refine wm_iconst (-1) 48 (by decide +kernel : decode cX8_widen 47 = .ok (.iconst (-1), 1)) rfl (by decide +kernel) ?_
      refine wm_iload 5 50 (by decide +kernel) rfl rfl ?_
      refine wm_iconst (-1) 51 (by decide +kernel : decode cX8_widen 50 = .ok (.iconst (-1), 1)) rfl (by decide +kernel) ?_
      refine wm_iconst 0 52 (by decide +kernel : decode cX8_widen 51 = .ok (.iconst 0, 1)) rfl (by decide +kernel) ?_
      refine wm_callVi mX8_mostBy 6 8 [_, _, _, _, _, _] [] _ _ 55 mo_X8_mostBy np_X8_mostBy ml_RX8_242 im_X8_mostBy se_X8_mostBy (by decide +kernel) (by decide +kernel) rfl rfl rfl (Nat.le_of_ble_eq_true rfl) (by decide +kernel) rfl (Nat.le_of_ble_eq_true rfl) _ (ent_pad 1 rfl) (l_X8_mostBy g _ _ _ _ _ _ _ _ H) (fun v13 h12 H hzv13 => ?_)
      refine wm_istore 6 57 [some _, some _, some _, some _, some _, some _, some _] (by decide +kernel) rfl (by decide +kernel) (okS_spec rfl) rfl ?_
      refine wm_iload 6 59 (by decide +kernel) rfl rfl ?_
      refine wm_iload 4 61 (by decide +kernel) rfl rfl ?_
      refine wm_icmp_le 64 71 (by decide +kernel : decode cX8_widen 61 = .ok (.if_icmp .le 10, 3)) (by decide) rfl (fun c14 => ?_) (fun c14 => ?_)
      · replace H := H.1 c14
        replace H := H _ rfl
        refine wm_iinc 5 (_ + 1) 74 [some _, some _, some _, some _, some _, some _, some _] (by decide +kernel : decode cX8_widen 71 = .ok (.iinc 5 1, 3)) rfl (by decide +kernel) rfl (ofI_eq (by decide +kernel)) (okS_spec rfl) rfl ?_
        refine wm_goto 35 (by decide +kernel : decode cX8_widen 74 = .ok (.goto (-39), 3)) (by decide) ?_
        refine wm_mask [true, true, true, true, true, true, false] [some _, some _, some _, some _, some _, some _, none] rfl ?_
        exact ih _ _ _ _ H
      · replace H := H.2 c14
        refine wm_iload 5 66 (by decide +kernel) rfl rfl ?_
        refine wm_istore_n 3 67 [some _, some _, some _, some _, some _, some _, some _] (by decide +kernel) rfl (by decide +kernel) (okS_spec rfl) rfl ?_
        refine wm_iload 6 69 (by decide +kernel) rfl rfl ?_
        refine wm_istore 4 71 [some _, some _, some _, some _, some _, some _, some _] (by decide +kernel) rfl (by decide +kernel) (okS_spec rfl) rfl ?_
        replace H := H _ rfl
        refine wm_iinc 5 (_ + 1) 74 [some _, some _, some _, some _, some _, some _, some _] (by decide +kernel : decode cX8_widen 71 = .ok (.iinc 5 1, 3)) rfl (by decide +kernel) rfl (ofI_eq (by decide +kernel)) (okS_spec rfl) rfl ?_
        refine wm_goto 35 (by decide +kernel : decode cX8_widen 74 = .ok (.goto (-39), 3)) (by decide) ?_
        refine wm_mask [true, true, true, true, true, true, false] [some _, some _, some _, some _, some _, some _, none] rfl ?_
        exact ih _ _ _ _ H
set_option maxRecDepth 20000 in
theorem l_X8_widen (g : GE) (x1 : Int32) (x2 : Int32)  (h : HP) (Q : Int32 → HP → Prop) (H : f_X8_widen x1 x2 h Q) : Wm g mX8_widen 0 [some (.ref 117), some (.int x1), some (.int x2), none, none, none, none] [] h (qi Q) := by
  unfold f_X8_widen at H
  refine wm_aload_n 0 1 (by decide +kernel) rfl rfl ?_
  refine wm_iload_n 1 2 (by decide +kernel) rfl rfl ?_
  refine wm_callVi mX8_isStation 1 8 [_] [] _ _ 5 mo_X8_isStation np_X8_isStation ml_RX8_140 im_X8_isStation se_X8_isStation (by decide +kernel) (by decide +kernel) rfl rfl rfl (Nat.le_of_ble_eq_true rfl) (by decide +kernel) rfl (Nat.le_of_ble_eq_true rfl) _ (ent_pad 0 rfl) (l_X8_isStation g _ _ _ H) (fun v2 h1 H hzv2 => ?_)
  refine wm_if_eq 8 15 (by decide +kernel : decode cX8_widen 5 = .ok (.ifCond .eq 10, 3)) (by decide) rfl (fun c3 => ?_) (fun c3 => ?_)
  · replace H := H.1 c3
    refine wm_aload_n 0 16 (by decide +kernel) rfl rfl ?_
    refine wm_ldc (-1000000001) 18 co_RX8_96 (by decide +kernel) rfl ?_
    refine wm_callVi mX8_finds 1 8 [_] [] _ _ 21 mo_X8_finds np_X8_finds ml_RX8_129 im_X8_finds se_X8_finds (by decide +kernel) (by decide +kernel) rfl rfl rfl (Nat.le_of_ble_eq_true rfl) (by decide +kernel) rfl (Nat.le_of_ble_eq_true rfl) _ (ent_pad 0 rfl) (l_X8_finds g _ _ _ H) (fun v5 h4 H hzv5 => ?_)
    exact wm_iret (by decide +kernel) ⟨.int, rfl, rfl⟩ H
  · replace H := H.2 c3
    refine wm_iload_n 2 9 (by decide +kernel) rfl rfl ?_
    refine wm_callSi mX8_isAhead 1 [_] [] _ _ 12 mo_X8_isAhead np_X8_isAhead ml_RX8_248 sc_X8_isAhead (by decide +kernel) (by decide +kernel) rfl rfl rfl (Nat.le_of_ble_eq_true rfl) (Nat.le_of_ble_eq_true rfl) _ (ent_pad 0 rfl) (l_X8_isAhead g _ _ _ H) (fun v7 h6 H hzv7 => ?_)
    refine wm_if_ne 15 22 (by decide +kernel : decode cX8_widen 12 = .ok (.ifCond .ne 10, 3)) (by decide) rfl (fun c8 => ?_) (fun c8 => ?_)
    · replace H := H.2 c8
      refine wm_iconst (-1) 23 (by decide +kernel : decode cX8_widen 22 = .ok (.iconst (-1), 1)) rfl (by decide +kernel) ?_
      refine wm_istore_n 3 24 [some _, some _, some _, some _, none, none, none] (by decide +kernel) rfl (by decide +kernel) (okS_spec rfl) rfl ?_
      refine wm_aload_n 0 25 (by decide +kernel) rfl rfl ?_
      refine wm_iload_n 1 26 (by decide +kernel) rfl rfl ?_
      refine wm_iload_n 2 27 (by decide +kernel) rfl rfl ?_
      refine wm_callVi mX8_mostOf 2 8 [_, _] [] _ _ 30 mo_X8_mostOf np_X8_mostOf ml_RX8_251 im_X8_mostOf se_X8_mostOf (by decide +kernel) (by decide +kernel) rfl rfl rfl (Nat.le_of_ble_eq_true rfl) (by decide +kernel) rfl (Nat.le_of_ble_eq_true rfl) _ (ent_pad 0 rfl) (l_X8_mostOf g _ _ _ _ H) (fun v10 h9 H hzv10 => ?_)
      refine wm_istore 4 32 [some _, some _, some _, some _, some _, none, none] (by decide +kernel) rfl (by decide +kernel) (okS_spec rfl) rfl ?_
      refine wm_iconst 0 33 (by decide +kernel : decode cX8_widen 32 = .ok (.iconst 0, 1)) rfl (by decide +kernel) ?_
      refine wm_istore 5 35 [some _, some _, some _, some _, some _, some _, none] (by decide +kernel) rfl (by decide +kernel) (okS_spec rfl) rfl ?_
      obtain ⟨n22, H⟩ := H
      refine l_X8_widen_L35 g _ _ _ _ (fun x3_17 h18 H => ?_) _ _ _ _ _ H
      · skip
        refine wm_iload_n 3 78 (by decide +kernel) rfl rfl ?_
        refine wm_if_ge 81 91 (by decide +kernel : decode cX8_widen 78 = .ok (.ifCond .ge 13, 3)) (by decide) rfl (fun c19 => ?_) (fun c19 => ?_)
        · replace H := H.1 c19
          refine wm_iload_n 3 92 (by decide +kernel) rfl rfl ?_
          exact wm_iret (by decide +kernel) ⟨.int, rfl, rfl⟩ H
        · replace H := H.2 c19
          refine wm_aload_n 0 82 (by decide +kernel) rfl rfl ?_
          refine wm_ldcw (-1000000004) 85 co_RX8_257 (by decide +kernel) rfl ?_
          refine wm_callVi mX8_finds 1 8 [_] [] _ _ 88 mo_X8_finds np_X8_finds ml_RX8_129 im_X8_finds se_X8_finds (by decide +kernel) (by decide +kernel) rfl rfl rfl (Nat.le_of_ble_eq_true rfl) (by decide +kernel) rfl (Nat.le_of_ble_eq_true rfl) _ (ent_pad 0 rfl) (l_X8_finds g _ _ _ H) (fun v21 h20 H hzv21 => ?_)
          refine wm_goto 92 (by decide +kernel : decode cX8_widen 88 = .ok (.goto 4, 3)) (by decide) ?_
          exact wm_iret (by decide +kernel) ⟨.int, rfl, rfl⟩ H
    · replace H := H.1 c8
      refine wm_aload_n 0 16 (by decide +kernel) rfl rfl ?_
      refine wm_ldc (-1000000001) 18 co_RX8_96 (by decide +kernel) rfl ?_
      refine wm_callVi mX8_finds 1 8 [_] [] _ _ 21 mo_X8_finds np_X8_finds ml_RX8_129 im_X8_finds se_X8_finds (by decide +kernel) (by decide +kernel) rfl rfl rfl (Nat.le_of_ble_eq_true rfl) (by decide +kernel) rfl (Nat.le_of_ble_eq_true rfl) _ (ent_pad 0 rfl) (l_X8_finds g _ _ _ H) (fun v24 h23 H hzv24 => ?_)
      exact wm_iret (by decide +kernel) ⟨.int, rfl, rfl⟩ H
def f_X8_held_L46 (x1 : Int32) (x2 : Int32) (x3 : Int32) (x4 : Int32)  (Q : Int32 → HP → Prop) : Nat → Int32 → Int32 → HP → Prop
  | 0, _, _, _ => False
  | n + 1, x5, x6, h =>
    (((x6 ≤ x5) →
      Q x5 h) ∧
     (¬ (x6 ≤ x5) →
      ∀ x7_17 : Int32, x7_17 = ((x5 + x6) / 2) →
      f_X8_mostBy x2 x3 (-1 : Int32) (-1 : Int32) x1 x7_17 h (fun v19 h18 =>
      (((v19 = x4) →
        f_X8_held_L46 x1 x2 x3 x4 Q n x5 x7_17 h18) ∧
       (¬ (v19 = x4) →
        ∀ x5_21 : Int32, x5_21 = (x7_17 + 1) →
        f_X8_held_L46 x1 x2 x3 x4 Q n x5_21 x6 h18)))))
def f_X8_held (x1 : Int32) (x2 : Int32) (x3 : Int32) (h : HP) (Q : Int32 → HP → Prop) : Prop :=
  f_X8_isLine x1 h (fun v2 h1 =>
  (((v2 = 0) →
    f_X8_finds (-1000000001 : Int32) h1 (fun v5 h4 =>
    Q v5 h4)) ∧
   (¬ (v2 = 0) →
    f_X8_isStation x2 h1 (fun v7 h6 =>
    (((v7 = 0) →
      f_X8_finds (-1000000001 : Int32) h6 (fun v10 h9 =>
      Q v10 h9)) ∧
     (¬ (v7 = 0) →
      f_X8_isAhead x3 h6 (fun v12 h11 =>
      (((v12 = 0) →
        f_X8_finds (-1000000001 : Int32) h11 (fun v24 h23 =>
        Q v24 h23)) ∧
       (¬ (v12 = 0) →
        f_X8_mostOf x2 x3 h11 (fun v15 h14 =>
        ∃ n22, f_X8_held_L46 x1 x2 x3 v15
          Q n22 0 300 h14))))))))))
set_option maxRecDepth 20000 in
theorem l_X8_held_L46 (g : GE) (x1 : Int32) (x2 : Int32) (x3 : Int32) (x4 : Int32)   (Q : Int32 → HP → Prop)  : ∀ (n : Nat) (x5 : Int32) (x6 : Int32) (h : HP), f_X8_held_L46 x1 x2 x3 x4 Q n x5 x6 h → Wm g mX8_held 46 [some (.ref 117), some (.int x1), some (.int x2), some (.int x3), some (.int x4), some (.int x5), some (.int x6), none] [] h (qi Q) := by
  intro n
  induction n with
  | zero => intro x5 x6 h H; exact H.elim
  | succ n ih =>
    intro x5 x6 h H
    unfold f_X8_held_L46 at H
    refine wm_iload 5 48 (by decide +kernel) rfl rfl ?_
    refine wm_iload 6 50 (by decide +kernel) rfl rfl ?_
    refine wm_icmp_ge 53 94 (by decide +kernel : decode cX8_held 50 = .ok (.if_icmp .ge 44, 3)) (by decide) rfl (fun c16 => ?_) (fun c16 => ?_)
    · replace H := H.1 c16
      refine wm_iload 5 96 (by decide +kernel) rfl rfl ?_
      exact wm_iret (by decide +kernel) ⟨.int, rfl, rfl⟩ H
    · replace H := H.2 c16
      refine wm_iload 5 55 (by decide +kernel) rfl rfl ?_
      refine wm_iload 6 57 (by decide +kernel) rfl rfl ?_
      refine wm_iadd 58 (by decide +kernel) rfl ?_
      refine wm_iconst 2 59 (by decide +kernel : decode cX8_held 58 = .ok (.iconst 2, 1)) rfl (by decide +kernel) ?_
      refine wm_idiv 60 (by decide +kernel) rfl (by decide +kernel) ?_
      replace H := H _ rfl
      refine wm_istore 7 62 [some _, some _, some _, some _, some _, some _, some _, some _] (by decide +kernel) rfl (by decide +kernel) (okS_spec rfl) rfl ?_
      refine wm_aload_n 0 63 (by decide +kernel) rfl rfl ?_
      refine wm_iload_n 2 64 (by decide +kernel) rfl rfl ?_
      refine wm_iload_n 3 65 (by decide +kernel) rfl rfl ?_
      refine wm_iconst (-1) 66 (by decide +kernel : decode cX8_held 65 = .ok (.iconst (-1), 1)) rfl (by decide +kernel) ?_
      refine wm_iconst (-1) 67 (by decide +kernel : decode cX8_held 66 = .ok (.iconst (-1), 1)) rfl (by decide +kernel) ?_
      refine wm_iload_n 1 68 (by decide +kernel) rfl rfl ?_
      refine wm_iload 7 70 (by decide +kernel) rfl rfl ?_
      refine wm_callVi mX8_mostBy 6 8 [_, _, _, _, _, _] [] _ _ 73 mo_X8_mostBy np_X8_mostBy ml_RX8_242 im_X8_mostBy se_X8_mostBy (by decide +kernel) (by decide +kernel) rfl rfl rfl (Nat.le_of_ble_eq_true rfl) (by decide +kernel) rfl (Nat.le_of_ble_eq_true rfl) _ (ent_pad 1 rfl) (l_X8_mostBy g _ _ _ _ _ _ _ _ H) (fun v19 h18 H hzv19 => ?_)
      refine wm_iload 4 75 (by decide +kernel) rfl rfl ?_
      refine wm_icmp_ne 78 85 (by decide +kernel : decode cX8_held 75 = .ok (.if_icmp .ne 10, 3)) (by decide) rfl (fun c20 => ?_) (fun c20 => ?_)
      · replace H := H.2 c20
        refine wm_iload 7 87 (by decide +kernel) rfl rfl ?_
        refine wm_iconst 1 88 (by decide +kernel : decode cX8_held 87 = .ok (.iconst 1, 1)) rfl (by decide +kernel) ?_
        refine wm_iadd 89 (by decide +kernel) rfl ?_
        replace H := H _ rfl
        refine wm_istore 5 91 [some _, some _, some _, some _, some _, some _, some _, some _] (by decide +kernel) rfl (by decide +kernel) (okS_spec rfl) rfl ?_
        refine wm_goto 46 (by decide +kernel : decode cX8_held 91 = .ok (.goto (-45), 3)) (by decide) ?_
        refine wm_mask [true, true, true, true, true, true, true, false] [some _, some _, some _, some _, some _, some _, some _, none] rfl ?_
        exact ih _ _ _ H
      · replace H := H.1 c20
        refine wm_iload 7 80 (by decide +kernel) rfl rfl ?_
        refine wm_istore 6 82 [some _, some _, some _, some _, some _, some _, some _, some _] (by decide +kernel) rfl (by decide +kernel) (okS_spec rfl) rfl ?_
        refine wm_goto 91 (by decide +kernel : decode cX8_held 82 = .ok (.goto 9, 3)) (by decide) ?_
        refine wm_goto 46 (by decide +kernel : decode cX8_held 91 = .ok (.goto (-45), 3)) (by decide) ?_
        refine wm_mask [true, true, true, true, true, true, true, false] [some _, some _, some _, some _, some _, some _, some _, none] rfl ?_
        exact ih _ _ _ H
set_option maxRecDepth 20000 in
theorem l_X8_held (g : GE) (x1 : Int32) (x2 : Int32) (x3 : Int32)  (h : HP) (Q : Int32 → HP → Prop) (H : f_X8_held x1 x2 x3 h Q) : Wm g mX8_held 0 [some (.ref 117), some (.int x1), some (.int x2), some (.int x3), none, none, none, none] [] h (qi Q) := by
  unfold f_X8_held at H
  refine wm_aload_n 0 1 (by decide +kernel) rfl rfl ?_
  refine wm_iload_n 1 2 (by decide +kernel) rfl rfl ?_
  refine wm_callVi mX8_isLine 1 8 [_] [] _ _ 5 mo_X8_isLine np_X8_isLine ml_RX8_163 im_X8_isLine se_X8_isLine (by decide +kernel) (by decide +kernel) rfl rfl rfl (Nat.le_of_ble_eq_true rfl) (by decide +kernel) rfl (Nat.le_of_ble_eq_true rfl) _ (ent_pad 0 rfl) (l_X8_isLine g _ _ _ H) (fun v2 h1 H hzv2 => ?_)
  refine wm_if_eq 8 23 (by decide +kernel : decode cX8_held 5 = .ok (.ifCond .eq 18, 3)) (by decide) rfl (fun c3 => ?_) (fun c3 => ?_)
  · replace H := H.1 c3
    refine wm_aload_n 0 24 (by decide +kernel) rfl rfl ?_
    refine wm_ldc (-1000000001) 26 co_RX8_96 (by decide +kernel) rfl ?_
    refine wm_callVi mX8_finds 1 8 [_] [] _ _ 29 mo_X8_finds np_X8_finds ml_RX8_129 im_X8_finds se_X8_finds (by decide +kernel) (by decide +kernel) rfl rfl rfl (Nat.le_of_ble_eq_true rfl) (by decide +kernel) rfl (Nat.le_of_ble_eq_true rfl) _ (ent_pad 0 rfl) (l_X8_finds g _ _ _ H) (fun v5 h4 H hzv5 => ?_)
    exact wm_iret (by decide +kernel) ⟨.int, rfl, rfl⟩ H
  · replace H := H.2 c3
    refine wm_aload_n 0 9 (by decide +kernel) rfl rfl ?_
    refine wm_iload_n 2 10 (by decide +kernel) rfl rfl ?_
    refine wm_callVi mX8_isStation 1 8 [_] [] _ _ 13 mo_X8_isStation np_X8_isStation ml_RX8_140 im_X8_isStation se_X8_isStation (by decide +kernel) (by decide +kernel) rfl rfl rfl (Nat.le_of_ble_eq_true rfl) (by decide +kernel) rfl (Nat.le_of_ble_eq_true rfl) _ (ent_pad 0 rfl) (l_X8_isStation g _ _ _ H) (fun v7 h6 H hzv7 => ?_)
    refine wm_if_eq 16 23 (by decide +kernel : decode cX8_held 13 = .ok (.ifCond .eq 10, 3)) (by decide) rfl (fun c8 => ?_) (fun c8 => ?_)
    · replace H := H.1 c8
      refine wm_aload_n 0 24 (by decide +kernel) rfl rfl ?_
      refine wm_ldc (-1000000001) 26 co_RX8_96 (by decide +kernel) rfl ?_
      refine wm_callVi mX8_finds 1 8 [_] [] _ _ 29 mo_X8_finds np_X8_finds ml_RX8_129 im_X8_finds se_X8_finds (by decide +kernel) (by decide +kernel) rfl rfl rfl (Nat.le_of_ble_eq_true rfl) (by decide +kernel) rfl (Nat.le_of_ble_eq_true rfl) _ (ent_pad 0 rfl) (l_X8_finds g _ _ _ H) (fun v10 h9 H hzv10 => ?_)
      exact wm_iret (by decide +kernel) ⟨.int, rfl, rfl⟩ H
    · replace H := H.2 c8
      refine wm_iload_n 3 17 (by decide +kernel) rfl rfl ?_
      refine wm_callSi mX8_isAhead 1 [_] [] _ _ 20 mo_X8_isAhead np_X8_isAhead ml_RX8_248 sc_X8_isAhead (by decide +kernel) (by decide +kernel) rfl rfl rfl (Nat.le_of_ble_eq_true rfl) (Nat.le_of_ble_eq_true rfl) _ (ent_pad 0 rfl) (l_X8_isAhead g _ _ _ H) (fun v12 h11 H hzv12 => ?_)
      refine wm_if_ne 23 30 (by decide +kernel : decode cX8_held 20 = .ok (.ifCond .ne 10, 3)) (by decide) rfl (fun c13 => ?_) (fun c13 => ?_)
      · replace H := H.2 c13
        refine wm_aload_n 0 31 (by decide +kernel) rfl rfl ?_
        refine wm_iload_n 2 32 (by decide +kernel) rfl rfl ?_
        refine wm_iload_n 3 33 (by decide +kernel) rfl rfl ?_
        refine wm_callVi mX8_mostOf 2 8 [_, _] [] _ _ 36 mo_X8_mostOf np_X8_mostOf ml_RX8_251 im_X8_mostOf se_X8_mostOf (by decide +kernel) (by decide +kernel) rfl rfl rfl (Nat.le_of_ble_eq_true rfl) (by decide +kernel) rfl (Nat.le_of_ble_eq_true rfl) _ (ent_pad 0 rfl) (l_X8_mostOf g _ _ _ _ H) (fun v15 h14 H hzv15 => ?_)
        refine wm_istore 4 38 [some _, some _, some _, some _, some _, none, none, none] (by decide +kernel) rfl (by decide +kernel) (okS_spec rfl) rfl ?_
        refine wm_iconst 0 39 (by decide +kernel : decode cX8_held 38 = .ok (.iconst 0, 1)) rfl (by decide +kernel) ?_
        refine wm_istore 5 41 [some _, some _, some _, some _, some _, some _, none, none] (by decide +kernel) rfl (by decide +kernel) (okS_spec rfl) rfl ?_
        refine wm_sipush 300 44 (by decide +kernel : decode cX8_held 41 = .ok (.sipush 300, 3)) rfl (by decide +kernel) ?_
        refine wm_istore 6 46 [some _, some _, some _, some _, some _, some _, some _, none] (by decide +kernel) rfl (by decide +kernel) (okS_spec rfl) rfl ?_
        obtain ⟨n22, H⟩ := H
        refine l_X8_held_L46 g _ _ _ _ _  _ _ _ _ H
      · replace H := H.1 c13
        refine wm_aload_n 0 24 (by decide +kernel) rfl rfl ?_
        refine wm_ldc (-1000000001) 26 co_RX8_96 (by decide +kernel) rfl ?_
        refine wm_callVi mX8_finds 1 8 [_] [] _ _ 29 mo_X8_finds np_X8_finds ml_RX8_129 im_X8_finds se_X8_finds (by decide +kernel) (by decide +kernel) rfl rfl rfl (Nat.le_of_ble_eq_true rfl) (by decide +kernel) rfl (Nat.le_of_ble_eq_true rfl) _ (ent_pad 0 rfl) (l_X8_finds g _ _ _ H) (fun v24 h23 H hzv24 => ?_)
        exact wm_iret (by decide +kernel) ⟨.int, rfl, rfl⟩ H
def f_X8_begin_L35 (x1 : Int32) (x2 : Int32) (x3 : Int32) (k96 : Int32 → HP → Prop) (Q : Int32 → HP → Prop) : Nat → Int32 → Int32 → HP → Prop
  | 0, _, _, _ => False
  | n + 1, x4, x5, h =>
    ((((gi h 117 3) ≤ x5) →
      k96 x4 h) ∧
     (¬ ((gi h 117 3) ≤ x5) →
      (((0 ≤ x4) →
        k96 x4 h) ∧
       (¬ (0 ≤ x4) →
        vp_in x5 6 ∧
        vp_in x5 6 ∧
        ∀ h15 : HP, h15 = si h 120 (ix x5) ((gi h 120 (ix x5)) + 1) →
        f_X8_mostOf x1 x2 h15 (fun v17 h16 =>
        ∀ x4_20 : Int32, x4_20 = (if v17 ≤ x3 then (x4 : Int32) else x5) →
        vp_in x5 6 ∧
        vp_in x5 6 ∧
        ∀ h23 : HP, h23 = si h16 120 (ix x5) ((gi h16 120 (ix x5)) - 1) →
        ∀ x5_24 : Int32, x5_24 = (x5 + 1) →
        f_X8_begin_L35 x1 x2 x3 k96 Q n x4_20 x5_24 h23)))))
def f_X8_begin_J96 (x4 : Int32)  (Q : Int32 → HP → Prop) (h : HP) : Prop :=
  (((0 ≤ x4) →
    Q x4 h) ∧
   (¬ (0 ≤ x4) →
    f_X8_finds (-1000000004 : Int32) h (fun v29 h28 =>
    Q v29 h28)))
def f_X8_begin (x1 : Int32) (x2 : Int32) (h : HP) (Q : Int32 → HP → Prop) : Prop :=
  f_X8_isStation x1 h (fun v2 h1 =>
  (((v2 = 0) →
    f_X8_finds (-1000000001 : Int32) h1 (fun v5 h4 =>
    Q v5 h4)) ∧
   (¬ (v2 = 0) →
    f_X8_isAhead x2 h1 (fun v7 h6 =>
    (((v7 = 0) →
      f_X8_finds (-1000000001 : Int32) h6 (fun v32 h31 =>
      Q v32 h31)) ∧
     (¬ (v7 = 0) →
      f_X8_mostOf x1 x2 h6 (fun v10 h9 =>
      ∃ n30, f_X8_begin_L35 x1 x2 v10
        (fun x4_25 h26 =>
          f_X8_begin_J96 x4_25  Q h26)
        Q n30 (-1 : Int32) 0 h9)))))))
set_option maxRecDepth 20000 in
theorem l_X8_begin_L35 (g : GE) (x1 : Int32) (x2 : Int32) (x3 : Int32)  (k96 : Int32 → HP → Prop) (Q : Int32 → HP → Prop) (hk96 : ∀ (x4 : Int32) (h : HP), k96 x4 h → Wm g mX8_begin 96 [some (.ref 117), none, none, none, some (.int x4), none] [] h (qi Q)) : ∀ (n : Nat) (x4 : Int32) (x5 : Int32) (h : HP), f_X8_begin_L35 x1 x2 x3 k96 Q n x4 x5 h → Wm g mX8_begin 35 [some (.ref 117), some (.int x1), some (.int x2), some (.int x3), some (.int x4), some (.int x5)] [] h (qi Q) := by
  intro n
  induction n with
  | zero => intro x4 x5 h H; exact H.elim
  | succ n ih =>
    intro x4 x5 h H
    unfold f_X8_begin_L35 at H
    refine wm_iload 5 37 (by decide +kernel) rfl rfl ?_
    refine wm_aload_n 0 38 (by decide +kernel) rfl rfl ?_
    refine wm_geti 8 3 41 fl_RX8_97 (by decide +kernel) rfl (by decide +kernel) rfl ?_
    refine wm_icmp_ge 44 96 (by decide +kernel : decode cX8_begin 41 = .ok (.if_icmp .ge 55, 3)) (by decide) rfl (fun c11 => ?_) (fun c11 => ?_)
    · replace H := H.1 c11
      refine wm_mask [true, false, false, false, true, false] [some _, none, none, none, some _, none] rfl ?_
      exact hk96 _ _ H
    · replace H := H.2 c11
      refine wm_iload 4 46 (by decide +kernel) rfl rfl ?_
      refine wm_if_ge 49 96 (by decide +kernel : decode cX8_begin 46 = .ok (.ifCond .ge 50, 3)) (by decide) rfl (fun c12 => ?_) (fun c12 => ?_)
      · replace H := H.1 c12
        refine wm_mask [true, false, false, false, true, false] [some _, none, none, none, some _, none] rfl ?_
        exact hk96 _ _ H
      · replace H := H.2 c12
        refine wm_aload_n 0 50 (by decide +kernel) rfl rfl ?_
        refine wm_getr 8 5 3 120 53 fl_RX8_16 (by decide +kernel) rfl (by decide +kernel) rfl rfl (by decide) ?_
        refine wm_iload 5 55 (by decide +kernel) rfl rfl ?_
        refine wm_dup2 56 (by decide +kernel) rfl rfl rfl ?_
        obtain ⟨o13, H⟩ := H
        refine wm_iald 6 57 (by decide +kernel) rfl (by decide +kernel) (by decide +kernel) o13 ?_
        refine wm_iconst 1 58 (by decide +kernel : decode cX8_begin 57 = .ok (.iconst 1, 1)) rfl (by decide +kernel) ?_
        refine wm_iadd 59 (by decide +kernel) rfl ?_
        obtain ⟨o14, H⟩ := H
        replace H := H _ rfl
        refine wm_iast 6 60 (by decide +kernel) rfl (by decide +kernel) (by decide +kernel) o14 ?_
        refine wm_aload_n 0 61 (by decide +kernel) rfl rfl ?_
        refine wm_iload_n 1 62 (by decide +kernel) rfl rfl ?_
        refine wm_iload_n 2 63 (by decide +kernel) rfl rfl ?_
        refine wm_callVi mX8_mostOf 2 8 [_, _] [] _ _ 66 mo_X8_mostOf np_X8_mostOf ml_RX8_251 im_X8_mostOf se_X8_mostOf (by decide +kernel) (by decide +kernel) rfl rfl rfl (Nat.le_of_ble_eq_true rfl) (by decide +kernel) rfl (Nat.le_of_ble_eq_true rfl) _ (ent_pad 0 rfl) (l_X8_mostOf g _ _ _ _ H) (fun v17 h16 H hzv17 => ?_)
        refine wm_iload_n 3 67 (by decide +kernel) rfl rfl ?_
        refine' wm_dia (pcJ := 77) (fun kt kf => wm_icmp_le 70 75 (by decide +kernel : decode cX8_begin 67 = .ok (.if_icmp .le 8, 3)) (by decide) rfl kt kf) ?D19k (fun kj c1 => ?D19t) (fun kj c1 => ?D19f)
        case D19t =>
          refine wm_iload 4 77 (by decide +kernel) rfl rfl ?_
          exact kj
        case D19f =>
          refine wm_iload 5 72 (by decide +kernel) rfl rfl ?_
          refine wm_goto 77 (by decide +kernel : decode cX8_begin 72 = .ok (.goto 5, 3)) (by decide) ?_
          exact kj
        case D19k =>
          replace H := H _ rfl
          refine wm_istore 4 79 [some _, some _, some _, some _, some _, some _] (by decide +kernel) rfl (by decide +kernel) (okS_spec rfl) rfl ?_
          refine wm_aload_n 0 80 (by decide +kernel) rfl rfl ?_
          refine wm_getr 8 5 3 120 83 fl_RX8_16 (by decide +kernel) rfl (by decide +kernel) rfl rfl (by decide) ?_
          refine wm_iload 5 85 (by decide +kernel) rfl rfl ?_
          refine wm_dup2 86 (by decide +kernel) rfl rfl rfl ?_
          obtain ⟨o21, H⟩ := H
          refine wm_iald 6 87 (by decide +kernel) rfl (by decide +kernel) (by decide +kernel) o21 ?_
          refine wm_iconst 1 88 (by decide +kernel : decode cX8_begin 87 = .ok (.iconst 1, 1)) rfl (by decide +kernel) ?_
          refine wm_isub 89 (by decide +kernel) rfl ?_
          obtain ⟨o22, H⟩ := H
          replace H := H _ rfl
          refine wm_iast 6 90 (by decide +kernel) rfl (by decide +kernel) (by decide +kernel) o22 ?_
          replace H := H _ rfl
          refine wm_iinc 5 (_ + 1) 93 [some _, some _, some _, some _, some _, some _] (by decide +kernel : decode cX8_begin 90 = .ok (.iinc 5 1, 3)) rfl (by decide +kernel) rfl (ofI_eq (by decide +kernel)) (okS_spec rfl) rfl ?_
          refine wm_goto 35 (by decide +kernel : decode cX8_begin 93 = .ok (.goto (-58), 3)) (by decide) ?_
          exact ih _ _ _ H
set_option maxRecDepth 20000 in
theorem l_X8_begin_J96 (g : GE) (x4 : Int32)   (Q : Int32 → HP → Prop)  (h : HP) (H : f_X8_begin_J96 x4  Q h) : Wm g mX8_begin 96 [some (.ref 117), none, none, none, some (.int x4), none] [] h (qi Q) := by
  unfold f_X8_begin_J96 at H
  refine wm_iload 4 98 (by decide +kernel) rfl rfl ?_
  refine wm_if_ge 101 111 (by decide +kernel : decode cX8_begin 98 = .ok (.ifCond .ge 13, 3)) (by decide) rfl (fun c27 => ?_) (fun c27 => ?_)
  · replace H := H.1 c27
    refine wm_iload 4 113 (by decide +kernel) rfl rfl ?_
    exact wm_iret (by decide +kernel) ⟨.int, rfl, rfl⟩ H
  · replace H := H.2 c27
    refine wm_aload_n 0 102 (by decide +kernel) rfl rfl ?_
    refine wm_ldcw (-1000000004) 105 co_RX8_257 (by decide +kernel) rfl ?_
    refine wm_callVi mX8_finds 1 8 [_] [] _ _ 108 mo_X8_finds np_X8_finds ml_RX8_129 im_X8_finds se_X8_finds (by decide +kernel) (by decide +kernel) rfl rfl rfl (Nat.le_of_ble_eq_true rfl) (by decide +kernel) rfl (Nat.le_of_ble_eq_true rfl) _ (ent_pad 0 rfl) (l_X8_finds g _ _ _ H) (fun v29 h28 H hzv29 => ?_)
    refine wm_goto 113 (by decide +kernel : decode cX8_begin 108 = .ok (.goto 5, 3)) (by decide) ?_
    exact wm_iret (by decide +kernel) ⟨.int, rfl, rfl⟩ H
set_option maxRecDepth 20000 in
theorem l_X8_begin (g : GE) (x1 : Int32) (x2 : Int32)  (h : HP) (Q : Int32 → HP → Prop) (H : f_X8_begin x1 x2 h Q) : Wm g mX8_begin 0 [some (.ref 117), some (.int x1), some (.int x2), none, none, none] [] h (qi Q) := by
  unfold f_X8_begin at H
  refine wm_aload_n 0 1 (by decide +kernel) rfl rfl ?_
  refine wm_iload_n 1 2 (by decide +kernel) rfl rfl ?_
  refine wm_callVi mX8_isStation 1 8 [_] [] _ _ 5 mo_X8_isStation np_X8_isStation ml_RX8_140 im_X8_isStation se_X8_isStation (by decide +kernel) (by decide +kernel) rfl rfl rfl (Nat.le_of_ble_eq_true rfl) (by decide +kernel) rfl (Nat.le_of_ble_eq_true rfl) _ (ent_pad 0 rfl) (l_X8_isStation g _ _ _ H) (fun v2 h1 H hzv2 => ?_)
  refine wm_if_eq 8 15 (by decide +kernel : decode cX8_begin 5 = .ok (.ifCond .eq 10, 3)) (by decide) rfl (fun c3 => ?_) (fun c3 => ?_)
  · replace H := H.1 c3
    refine wm_aload_n 0 16 (by decide +kernel) rfl rfl ?_
    refine wm_ldc (-1000000001) 18 co_RX8_96 (by decide +kernel) rfl ?_
    refine wm_callVi mX8_finds 1 8 [_] [] _ _ 21 mo_X8_finds np_X8_finds ml_RX8_129 im_X8_finds se_X8_finds (by decide +kernel) (by decide +kernel) rfl rfl rfl (Nat.le_of_ble_eq_true rfl) (by decide +kernel) rfl (Nat.le_of_ble_eq_true rfl) _ (ent_pad 0 rfl) (l_X8_finds g _ _ _ H) (fun v5 h4 H hzv5 => ?_)
    exact wm_iret (by decide +kernel) ⟨.int, rfl, rfl⟩ H
  · replace H := H.2 c3
    refine wm_iload_n 2 9 (by decide +kernel) rfl rfl ?_
    refine wm_callSi mX8_isAhead 1 [_] [] _ _ 12 mo_X8_isAhead np_X8_isAhead ml_RX8_248 sc_X8_isAhead (by decide +kernel) (by decide +kernel) rfl rfl rfl (Nat.le_of_ble_eq_true rfl) (Nat.le_of_ble_eq_true rfl) _ (ent_pad 0 rfl) (l_X8_isAhead g _ _ _ H) (fun v7 h6 H hzv7 => ?_)
    refine wm_if_ne 15 22 (by decide +kernel : decode cX8_begin 12 = .ok (.ifCond .ne 10, 3)) (by decide) rfl (fun c8 => ?_) (fun c8 => ?_)
    · replace H := H.2 c8
      refine wm_aload_n 0 23 (by decide +kernel) rfl rfl ?_
      refine wm_iload_n 1 24 (by decide +kernel) rfl rfl ?_
      refine wm_iload_n 2 25 (by decide +kernel) rfl rfl ?_
      refine wm_callVi mX8_mostOf 2 8 [_, _] [] _ _ 28 mo_X8_mostOf np_X8_mostOf ml_RX8_251 im_X8_mostOf se_X8_mostOf (by decide +kernel) (by decide +kernel) rfl rfl rfl (Nat.le_of_ble_eq_true rfl) (by decide +kernel) rfl (Nat.le_of_ble_eq_true rfl) _ (ent_pad 0 rfl) (l_X8_mostOf g _ _ _ _ H) (fun v10 h9 H hzv10 => ?_)
      refine wm_istore_n 3 29 [some _, some _, some _, some _, none, none] (by decide +kernel) rfl (by decide +kernel) (okS_spec rfl) rfl ?_
      refine wm_iconst (-1) 30 (by decide +kernel : decode cX8_begin 29 = .ok (.iconst (-1), 1)) rfl (by decide +kernel) ?_
      refine wm_istore 4 32 [some _, some _, some _, some _, some _, none] (by decide +kernel) rfl (by decide +kernel) (okS_spec rfl) rfl ?_
      refine wm_iconst 0 33 (by decide +kernel : decode cX8_begin 32 = .ok (.iconst 0, 1)) rfl (by decide +kernel) ?_
      refine wm_istore 5 35 [some _, some _, some _, some _, some _, some _] (by decide +kernel) rfl (by decide +kernel) (okS_spec rfl) rfl ?_
      obtain ⟨n30, H⟩ := H
      refine l_X8_begin_L35 g _ _ _ _ _ (fun x4_25 h26 H => ?_) _ _ _ _ H
      · skip
        exact l_X8_begin_J96 g _ _  _ H
    · replace H := H.1 c8
      refine wm_aload_n 0 16 (by decide +kernel) rfl rfl ?_
      refine wm_ldc (-1000000001) 18 co_RX8_96 (by decide +kernel) rfl ?_
      refine wm_callVi mX8_finds 1 8 [_] [] _ _ 21 mo_X8_finds np_X8_finds ml_RX8_129 im_X8_finds se_X8_finds (by decide +kernel) (by decide +kernel) rfl rfl rfl (Nat.le_of_ble_eq_true rfl) (by decide +kernel) rfl (Nat.le_of_ble_eq_true rfl) _ (ent_pad 0 rfl) (l_X8_finds g _ _ _ H) (fun v32 h31 H hzv32 => ?_)
      exact wm_iret (by decide +kernel) ⟨.int, rfl, rfl⟩ H
def f_X8_kind_L47 (x1 : Int32) (x2 : Int32) (x3 : Int32) (x4 : Int32)  (Q : Int32 → HP → Prop) : Nat → Int32 → Int32 → Int32 → HP → Prop
  | 0, _, _, _, _ => False
  | n + 1, x5, x6, x7, h =>
    (((6 ≤ x7) →
      vp_in (8 * x1) 80 ∧
      ∀ h18 : HP, h18 = si h 122 (ix (8 * x1)) x4 →
      Q x5 h18) ∧
     (¬ (6 ≤ x7) →
      vp_in (8 * x1) 80 ∧
      ∀ h20 : HP, h20 = si h 122 (ix (8 * x1)) x7 →
      f_X8_mostOf x2 x3 h20 (fun v22 h21 =>
      (((v22 ≤ x6) →
        ∀ x7_24 : Int32, x7_24 = (x7 + 1) →
        f_X8_kind_L47 x1 x2 x3 x4 Q n x5 x6 x7_24 h21) ∧
       (¬ (v22 ≤ x6) →
        ∀ x7_25 : Int32, x7_25 = (x7 + 1) →
        f_X8_kind_L47 x1 x2 x3 x4 Q n x7 v22 x7_25 h21)))))
def f_X8_kind (x1 : Int32) (x2 : Int32) (x3 : Int32) (h : HP) (Q : Int32 → HP → Prop) : Prop :=
  f_X8_isLine x1 h (fun v2 h1 =>
  (((v2 = 0) →
    f_X8_finds (-1000000001 : Int32) h1 (fun v5 h4 =>
    Q v5 h4)) ∧
   (¬ (v2 = 0) →
    f_X8_isStation x2 h1 (fun v7 h6 =>
    (((v7 = 0) →
      f_X8_finds (-1000000001 : Int32) h6 (fun v10 h9 =>
      Q v10 h9)) ∧
     (¬ (v7 = 0) →
      f_X8_isAhead x3 h6 (fun v12 h11 =>
      (((v12 = 0) →
        f_X8_finds (-1000000001 : Int32) h11 (fun v28 h27 =>
        Q v28 h27)) ∧
       (¬ (v12 = 0) →
        f_X8_at x1 0 h11 (fun v15 h14 =>
        ∃ n26, f_X8_kind_L47 x1 x2 x3 v15
          Q n26 0 (-1 : Int32) 0 h14))))))))))
set_option maxRecDepth 20000 in
theorem l_X8_kind_L47 (g : GE) (x1 : Int32) (x2 : Int32) (x3 : Int32) (x4 : Int32)   (Q : Int32 → HP → Prop)  : ∀ (n : Nat) (x5 : Int32) (x6 : Int32) (x7 : Int32) (h : HP), f_X8_kind_L47 x1 x2 x3 x4 Q n x5 x6 x7 h → Wm g mX8_kind 47 [some (.ref 117), some (.int x1), some (.int x2), some (.int x3), some (.int x4), some (.int x5), some (.int x6), some (.int x7), none] [] h (qi Q) := by
  intro n
  induction n with
  | zero => intro x5 x6 x7 h H; exact H.elim
  | succ n ih =>
    intro x5 x6 x7 h H
    unfold f_X8_kind_L47 at H
    refine wm_iload 7 49 (by decide +kernel) rfl rfl ?_
    refine wm_bipush 6 51 (by decide +kernel : decode cX8_kind 49 = .ok (.bipush 6, 2)) rfl (by decide +kernel) ?_
    refine wm_icmp_ge 54 94 (by decide +kernel : decode cX8_kind 51 = .ok (.if_icmp .ge 43, 3)) (by decide) rfl (fun c16 => ?_) (fun c16 => ?_)
    · replace H := H.1 c16
      refine wm_aload_n 0 95 (by decide +kernel) rfl rfl ?_
      refine wm_getr 8 8 5 122 98 fl_RX8_22 (by decide +kernel) rfl (by decide +kernel) rfl rfl (by decide) ?_
      refine wm_bipush 8 100 (by decide +kernel : decode cX8_kind 98 = .ok (.bipush 8, 2)) rfl (by decide +kernel) ?_
      refine wm_iload_n 1 101 (by decide +kernel) rfl rfl ?_
      refine wm_imul 102 (by decide +kernel) rfl ?_
      refine wm_iload 4 104 (by decide +kernel) rfl rfl ?_
      obtain ⟨o17, H⟩ := H
      replace H := H _ rfl
      refine wm_iast 80 105 (by decide +kernel) rfl (by decide +kernel) (by decide +kernel) o17 ?_
      refine wm_iload 5 107 (by decide +kernel) rfl rfl ?_
      exact wm_iret (by decide +kernel) ⟨.int, rfl, rfl⟩ H
    · replace H := H.2 c16
      refine wm_aload_n 0 55 (by decide +kernel) rfl rfl ?_
      refine wm_getr 8 8 5 122 58 fl_RX8_22 (by decide +kernel) rfl (by decide +kernel) rfl rfl (by decide) ?_
      refine wm_bipush 8 60 (by decide +kernel : decode cX8_kind 58 = .ok (.bipush 8, 2)) rfl (by decide +kernel) ?_
      refine wm_iload_n 1 61 (by decide +kernel) rfl rfl ?_
      refine wm_imul 62 (by decide +kernel) rfl ?_
      refine wm_iload 7 64 (by decide +kernel) rfl rfl ?_
      obtain ⟨o19, H⟩ := H
      replace H := H _ rfl
      refine wm_iast 80 65 (by decide +kernel) rfl (by decide +kernel) (by decide +kernel) o19 ?_
      refine wm_aload_n 0 66 (by decide +kernel) rfl rfl ?_
      refine wm_iload_n 2 67 (by decide +kernel) rfl rfl ?_
      refine wm_iload_n 3 68 (by decide +kernel) rfl rfl ?_
      refine wm_callVi mX8_mostOf 2 8 [_, _] [] _ _ 71 mo_X8_mostOf np_X8_mostOf ml_RX8_251 im_X8_mostOf se_X8_mostOf (by decide +kernel) (by decide +kernel) rfl rfl rfl (Nat.le_of_ble_eq_true rfl) (by decide +kernel) rfl (Nat.le_of_ble_eq_true rfl) _ (ent_pad 0 rfl) (l_X8_mostOf g _ _ _ _ H) (fun v22 h21 H hzv22 => ?_)
      refine wm_istore 8 73 [some _, some _, some _, some _, some _, some _, some _, some _, some _] (by decide +kernel) rfl (by decide +kernel) (okS_spec rfl) rfl ?_
      refine wm_iload 8 75 (by decide +kernel) rfl rfl ?_
      refine wm_iload 6 77 (by decide +kernel) rfl rfl ?_
      refine wm_icmp_le 80 88 (by decide +kernel : decode cX8_kind 77 = .ok (.if_icmp .le 11, 3)) (by decide) rfl (fun c23 => ?_) (fun c23 => ?_)
      · replace H := H.1 c23
        replace H := H _ rfl
        refine wm_iinc 7 (_ + 1) 91 [some _, some _, some _, some _, some _, some _, some _, some _, some _] (by decide +kernel : decode cX8_kind 88 = .ok (.iinc 7 1, 3)) rfl (by decide +kernel) rfl (ofI_eq (by decide +kernel)) (okS_spec rfl) rfl ?_
        refine wm_goto 47 (by decide +kernel : decode cX8_kind 91 = .ok (.goto (-44), 3)) (by decide) ?_
        refine wm_mask [true, true, true, true, true, true, true, true, false] [some _, some _, some _, some _, some _, some _, some _, some _, none] rfl ?_
        exact ih _ _ _ _ H
      · replace H := H.2 c23
        refine wm_iload 7 82 (by decide +kernel) rfl rfl ?_
        refine wm_istore 5 84 [some _, some _, some _, some _, some _, some _, some _, some _, some _] (by decide +kernel) rfl (by decide +kernel) (okS_spec rfl) rfl ?_
        refine wm_iload 8 86 (by decide +kernel) rfl rfl ?_
        refine wm_istore 6 88 [some _, some _, some _, some _, some _, some _, some _, some _, some _] (by decide +kernel) rfl (by decide +kernel) (okS_spec rfl) rfl ?_
        replace H := H _ rfl
        refine wm_iinc 7 (_ + 1) 91 [some _, some _, some _, some _, some _, some _, some _, some _, some _] (by decide +kernel : decode cX8_kind 88 = .ok (.iinc 7 1, 3)) rfl (by decide +kernel) rfl (ofI_eq (by decide +kernel)) (okS_spec rfl) rfl ?_
        refine wm_goto 47 (by decide +kernel : decode cX8_kind 91 = .ok (.goto (-44), 3)) (by decide) ?_
        refine wm_mask [true, true, true, true, true, true, true, true, false] [some _, some _, some _, some _, some _, some _, some _, some _, none] rfl ?_
        exact ih _ _ _ _ H
set_option maxRecDepth 20000 in
theorem l_X8_kind (g : GE) (x1 : Int32) (x2 : Int32) (x3 : Int32)  (h : HP) (Q : Int32 → HP → Prop) (H : f_X8_kind x1 x2 x3 h Q) : Wm g mX8_kind 0 [some (.ref 117), some (.int x1), some (.int x2), some (.int x3), none, none, none, none, none] [] h (qi Q) := by
  unfold f_X8_kind at H
  refine wm_aload_n 0 1 (by decide +kernel) rfl rfl ?_
  refine wm_iload_n 1 2 (by decide +kernel) rfl rfl ?_
  refine wm_callVi mX8_isLine 1 8 [_] [] _ _ 5 mo_X8_isLine np_X8_isLine ml_RX8_163 im_X8_isLine se_X8_isLine (by decide +kernel) (by decide +kernel) rfl rfl rfl (Nat.le_of_ble_eq_true rfl) (by decide +kernel) rfl (Nat.le_of_ble_eq_true rfl) _ (ent_pad 0 rfl) (l_X8_isLine g _ _ _ H) (fun v2 h1 H hzv2 => ?_)
  refine wm_if_eq 8 23 (by decide +kernel : decode cX8_kind 5 = .ok (.ifCond .eq 18, 3)) (by decide) rfl (fun c3 => ?_) (fun c3 => ?_)
  · replace H := H.1 c3
    refine wm_aload_n 0 24 (by decide +kernel) rfl rfl ?_
    refine wm_ldc (-1000000001) 26 co_RX8_96 (by decide +kernel) rfl ?_
    refine wm_callVi mX8_finds 1 8 [_] [] _ _ 29 mo_X8_finds np_X8_finds ml_RX8_129 im_X8_finds se_X8_finds (by decide +kernel) (by decide +kernel) rfl rfl rfl (Nat.le_of_ble_eq_true rfl) (by decide +kernel) rfl (Nat.le_of_ble_eq_true rfl) _ (ent_pad 0 rfl) (l_X8_finds g _ _ _ H) (fun v5 h4 H hzv5 => ?_)
    exact wm_iret (by decide +kernel) ⟨.int, rfl, rfl⟩ H
  · replace H := H.2 c3
    refine wm_aload_n 0 9 (by decide +kernel) rfl rfl ?_
    refine wm_iload_n 2 10 (by decide +kernel) rfl rfl ?_
    refine wm_callVi mX8_isStation 1 8 [_] [] _ _ 13 mo_X8_isStation np_X8_isStation ml_RX8_140 im_X8_isStation se_X8_isStation (by decide +kernel) (by decide +kernel) rfl rfl rfl (Nat.le_of_ble_eq_true rfl) (by decide +kernel) rfl (Nat.le_of_ble_eq_true rfl) _ (ent_pad 0 rfl) (l_X8_isStation g _ _ _ H) (fun v7 h6 H hzv7 => ?_)
    refine wm_if_eq 16 23 (by decide +kernel : decode cX8_kind 13 = .ok (.ifCond .eq 10, 3)) (by decide) rfl (fun c8 => ?_) (fun c8 => ?_)
    · replace H := H.1 c8
      refine wm_aload_n 0 24 (by decide +kernel) rfl rfl ?_
      refine wm_ldc (-1000000001) 26 co_RX8_96 (by decide +kernel) rfl ?_
      refine wm_callVi mX8_finds 1 8 [_] [] _ _ 29 mo_X8_finds np_X8_finds ml_RX8_129 im_X8_finds se_X8_finds (by decide +kernel) (by decide +kernel) rfl rfl rfl (Nat.le_of_ble_eq_true rfl) (by decide +kernel) rfl (Nat.le_of_ble_eq_true rfl) _ (ent_pad 0 rfl) (l_X8_finds g _ _ _ H) (fun v10 h9 H hzv10 => ?_)
      exact wm_iret (by decide +kernel) ⟨.int, rfl, rfl⟩ H
    · replace H := H.2 c8
      refine wm_iload_n 3 17 (by decide +kernel) rfl rfl ?_
      refine wm_callSi mX8_isAhead 1 [_] [] _ _ 20 mo_X8_isAhead np_X8_isAhead ml_RX8_248 sc_X8_isAhead (by decide +kernel) (by decide +kernel) rfl rfl rfl (Nat.le_of_ble_eq_true rfl) (Nat.le_of_ble_eq_true rfl) _ (ent_pad 0 rfl) (l_X8_isAhead g _ _ _ H) (fun v12 h11 H hzv12 => ?_)
      refine wm_if_ne 23 30 (by decide +kernel : decode cX8_kind 20 = .ok (.ifCond .ne 10, 3)) (by decide) rfl (fun c13 => ?_) (fun c13 => ?_)
      · replace H := H.2 c13
        refine wm_aload_n 0 31 (by decide +kernel) rfl rfl ?_
        refine wm_iload_n 1 32 (by decide +kernel) rfl rfl ?_
        refine wm_iconst 0 33 (by decide +kernel : decode cX8_kind 32 = .ok (.iconst 0, 1)) rfl (by decide +kernel) ?_
        refine wm_callVi mX8_at 2 8 [_, _] [] _ _ 36 mo_X8_at np_X8_at ml_RX8_109 im_X8_at se_X8_at (by decide +kernel) (by decide +kernel) rfl rfl rfl (Nat.le_of_ble_eq_true rfl) (by decide +kernel) rfl (Nat.le_of_ble_eq_true rfl) _ (ent_pad 0 rfl) (l_X8_at g _ _ _ _ H) (fun v15 h14 H hzv15 => ?_)
        refine wm_istore 4 38 [some _, some _, some _, some _, some _, none, none, none, none] (by decide +kernel) rfl (by decide +kernel) (okS_spec rfl) rfl ?_
        refine wm_iconst 0 39 (by decide +kernel : decode cX8_kind 38 = .ok (.iconst 0, 1)) rfl (by decide +kernel) ?_
        refine wm_istore 5 41 [some _, some _, some _, some _, some _, some _, none, none, none] (by decide +kernel) rfl (by decide +kernel) (okS_spec rfl) rfl ?_
        refine wm_iconst (-1) 42 (by decide +kernel : decode cX8_kind 41 = .ok (.iconst (-1), 1)) rfl (by decide +kernel) ?_
        refine wm_istore 6 44 [some _, some _, some _, some _, some _, some _, some _, none, none] (by decide +kernel) rfl (by decide +kernel) (okS_spec rfl) rfl ?_
        refine wm_iconst 0 45 (by decide +kernel : decode cX8_kind 44 = .ok (.iconst 0, 1)) rfl (by decide +kernel) ?_
        refine wm_istore 7 47 [some _, some _, some _, some _, some _, some _, some _, some _, none] (by decide +kernel) rfl (by decide +kernel) (okS_spec rfl) rfl ?_
        obtain ⟨n26, H⟩ := H
        refine l_X8_kind_L47 g _ _ _ _ _  _ _ _ _ _ H
      · replace H := H.1 c13
        refine wm_aload_n 0 24 (by decide +kernel) rfl rfl ?_
        refine wm_ldc (-1000000001) 26 co_RX8_96 (by decide +kernel) rfl ?_
        refine wm_callVi mX8_finds 1 8 [_] [] _ _ 29 mo_X8_finds np_X8_finds ml_RX8_129 im_X8_finds se_X8_finds (by decide +kernel) (by decide +kernel) rfl rfl rfl (Nat.le_of_ble_eq_true rfl) (by decide +kernel) rfl (Nat.le_of_ble_eq_true rfl) _ (ent_pad 0 rfl) (l_X8_finds g _ _ _ H) (fun v28 h27 H hzv28 => ?_)
        exact wm_iret (by decide +kernel) ⟨.int, rfl, rfl⟩ H
def f_X8_goal_L36 (x1 : Int32)  (Q : Int32 → HP → Prop) : Nat → Int32 → Int32 → Int32 → HP → Prop
  | 0, _, _, _, _ => False
  | n + 1, x2, x3, x4, h =>
    ((((gi h 117 3) ≤ x4) →
      Q x2 h) ∧
     (¬ ((gi h 117 3) ≤ x4) →
      f_X8_mostOf x4 x1 h (fun v7 h6 =>
      (((v7 ≤ x3) →
        ∀ x4_9 : Int32, x4_9 = (x4 + 1) →
        f_X8_goal_L36 x1 Q n x2 x3 x4_9 h6) ∧
       (¬ (v7 ≤ x3) →
        ∀ x4_10 : Int32, x4_10 = (x4 + 1) →
        f_X8_goal_L36 x1 Q n x4 v7 x4_10 h6)))))
def f_X8_goal (x1 : Int32) (h : HP) (Q : Int32 → HP → Prop) : Prop :=
  f_X8_isAhead x1 h (fun v2 h1 =>
  (((v2 = 0) →
    f_X8_finds (-1000000001 : Int32) h1 (fun v15 h14 =>
    Q v15 h14)) ∧
   (¬ (v2 = 0) →
    ((((gi h1 117 3) = 0) →
      f_X8_finds (-1000000004 : Int32) h1 (fun v13 h12 =>
      Q v13 h12)) ∧
     (¬ ((gi h1 117 3) = 0) →
      ∃ n11, f_X8_goal_L36 x1
        Q n11 0 (-1 : Int32) 0 h1)))))
set_option maxRecDepth 20000 in
theorem l_X8_goal_L36 (g : GE) (x1 : Int32)   (Q : Int32 → HP → Prop)  : ∀ (n : Nat) (x2 : Int32) (x3 : Int32) (x4 : Int32) (h : HP), f_X8_goal_L36 x1 Q n x2 x3 x4 h → Wm g mX8_goal 36 [some (.ref 117), some (.int x1), some (.int x2), some (.int x3), some (.int x4), none] [] h (qi Q) := by
  intro n
  induction n with
  | zero => intro x2 x3 x4 h H; exact H.elim
  | succ n ih =>
    intro x2 x3 x4 h H
    unfold f_X8_goal_L36 at H
    refine wm_iload 4 38 (by decide +kernel) rfl rfl ?_
    refine wm_aload_n 0 39 (by decide +kernel) rfl rfl ?_
    refine wm_geti 8 3 42 fl_RX8_97 (by decide +kernel) rfl (by decide +kernel) rfl ?_
    refine wm_icmp_ge 45 72 (by decide +kernel : decode cX8_goal 42 = .ok (.if_icmp .ge 30, 3)) (by decide) rfl (fun c5 => ?_) (fun c5 => ?_)
    · replace H := H.1 c5
      refine wm_iload_n 2 73 (by decide +kernel) rfl rfl ?_
      exact wm_iret (by decide +kernel) ⟨.int, rfl, rfl⟩ H
    · replace H := H.2 c5
      refine wm_aload_n 0 46 (by decide +kernel) rfl rfl ?_
      refine wm_iload 4 48 (by decide +kernel) rfl rfl ?_
      refine wm_iload_n 1 49 (by decide +kernel) rfl rfl ?_
      refine wm_callVi mX8_mostOf 2 8 [_, _] [] _ _ 52 mo_X8_mostOf np_X8_mostOf ml_RX8_251 im_X8_mostOf se_X8_mostOf (by decide +kernel) (by decide +kernel) rfl rfl rfl (Nat.le_of_ble_eq_true rfl) (by decide +kernel) rfl (Nat.le_of_ble_eq_true rfl) _ (ent_pad 0 rfl) (l_X8_mostOf g _ _ _ _ H) (fun v7 h6 H hzv7 => ?_)
      refine wm_istore 5 54 [some _, some _, some _, some _, some _, some _] (by decide +kernel) rfl (by decide +kernel) (okS_spec rfl) rfl ?_
      refine wm_iload 5 56 (by decide +kernel) rfl rfl ?_
      refine wm_iload_n 3 57 (by decide +kernel) rfl rfl ?_
      refine wm_icmp_le 60 66 (by decide +kernel : decode cX8_goal 57 = .ok (.if_icmp .le 9, 3)) (by decide) rfl (fun c8 => ?_) (fun c8 => ?_)
      · replace H := H.1 c8
        replace H := H _ rfl
        refine wm_iinc 4 (_ + 1) 69 [some _, some _, some _, some _, some _, some _] (by decide +kernel : decode cX8_goal 66 = .ok (.iinc 4 1, 3)) rfl (by decide +kernel) rfl (ofI_eq (by decide +kernel)) (okS_spec rfl) rfl ?_
        refine wm_goto 36 (by decide +kernel : decode cX8_goal 69 = .ok (.goto (-33), 3)) (by decide) ?_
        refine wm_mask [true, true, true, true, true, false] [some _, some _, some _, some _, some _, none] rfl ?_
        exact ih _ _ _ _ H
      · replace H := H.2 c8
        refine wm_iload 4 62 (by decide +kernel) rfl rfl ?_
        refine wm_istore_n 2 63 [some _, some _, some _, some _, some _, some _] (by decide +kernel) rfl (by decide +kernel) (okS_spec rfl) rfl ?_
        refine wm_iload 5 65 (by decide +kernel) rfl rfl ?_
        refine wm_istore_n 3 66 [some _, some _, some _, some _, some _, some _] (by decide +kernel) rfl (by decide +kernel) (okS_spec rfl) rfl ?_
        replace H := H _ rfl
        refine wm_iinc 4 (_ + 1) 69 [some _, some _, some _, some _, some _, some _] (by decide +kernel : decode cX8_goal 66 = .ok (.iinc 4 1, 3)) rfl (by decide +kernel) rfl (ofI_eq (by decide +kernel)) (okS_spec rfl) rfl ?_
        refine wm_goto 36 (by decide +kernel : decode cX8_goal 69 = .ok (.goto (-33), 3)) (by decide) ?_
        refine wm_mask [true, true, true, true, true, false] [some _, some _, some _, some _, some _, none] rfl ?_
        exact ih _ _ _ _ H
set_option maxRecDepth 20000 in
theorem l_X8_goal (g : GE) (x1 : Int32)  (h : HP) (Q : Int32 → HP → Prop) (H : f_X8_goal x1 h Q) : Wm g mX8_goal 0 [some (.ref 117), some (.int x1), none, none, none, none] [] h (qi Q) := by
  unfold f_X8_goal at H
  refine wm_iload_n 1 1 (by decide +kernel) rfl rfl ?_
  refine wm_callSi mX8_isAhead 1 [_] [] _ _ 4 mo_X8_isAhead np_X8_isAhead ml_RX8_248 sc_X8_isAhead (by decide +kernel) (by decide +kernel) rfl rfl rfl (Nat.le_of_ble_eq_true rfl) (Nat.le_of_ble_eq_true rfl) _ (ent_pad 0 rfl) (l_X8_isAhead g _ _ _ H) (fun v2 h1 H hzv2 => ?_)
  refine wm_if_ne 7 14 (by decide +kernel : decode cX8_goal 4 = .ok (.ifCond .ne 10, 3)) (by decide) rfl (fun c3 => ?_) (fun c3 => ?_)
  · replace H := H.2 c3
    refine wm_aload_n 0 15 (by decide +kernel) rfl rfl ?_
    refine wm_geti 8 3 18 fl_RX8_97 (by decide +kernel) rfl (by decide +kernel) rfl ?_
    refine wm_if_ne 21 29 (by decide +kernel : decode cX8_goal 18 = .ok (.ifCond .ne 11, 3)) (by decide) rfl (fun c4 => ?_) (fun c4 => ?_)
    · replace H := H.2 c4
      refine wm_iconst 0 30 (by decide +kernel : decode cX8_goal 29 = .ok (.iconst 0, 1)) rfl (by decide +kernel) ?_
      refine wm_istore_n 2 31 [some _, some _, some _, none, none, none] (by decide +kernel) rfl (by decide +kernel) (okS_spec rfl) rfl ?_
      refine wm_iconst (-1) 32 (by decide +kernel : decode cX8_goal 31 = .ok (.iconst (-1), 1)) rfl (by decide +kernel) ?_
      refine wm_istore_n 3 33 [some _, some _, some _, some _, none, none] (by decide +kernel) rfl (by decide +kernel) (okS_spec rfl) rfl ?_
      refine wm_iconst 0 34 (by decide +kernel : decode cX8_goal 33 = .ok (.iconst 0, 1)) rfl (by decide +kernel) ?_
      refine wm_istore 4 36 [some _, some _, some _, some _, some _, none] (by decide +kernel) rfl (by decide +kernel) (okS_spec rfl) rfl ?_
      obtain ⟨n11, H⟩ := H
      refine l_X8_goal_L36 g _ _  _ _ _ _ _ H
    · replace H := H.1 c4
      refine wm_aload_n 0 22 (by decide +kernel) rfl rfl ?_
      refine wm_ldcw (-1000000004) 25 co_RX8_257 (by decide +kernel) rfl ?_
      refine wm_callVi mX8_finds 1 8 [_] [] _ _ 28 mo_X8_finds np_X8_finds ml_RX8_129 im_X8_finds se_X8_finds (by decide +kernel) (by decide +kernel) rfl rfl rfl (Nat.le_of_ble_eq_true rfl) (by decide +kernel) rfl (Nat.le_of_ble_eq_true rfl) _ (ent_pad 0 rfl) (l_X8_finds g _ _ _ H) (fun v13 h12 H hzv13 => ?_)
      exact wm_iret (by decide +kernel) ⟨.int, rfl, rfl⟩ H
  · replace H := H.1 c3
    refine wm_aload_n 0 8 (by decide +kernel) rfl rfl ?_
    refine wm_ldc (-1000000001) 10 co_RX8_96 (by decide +kernel) rfl ?_
    refine wm_callVi mX8_finds 1 8 [_] [] _ _ 13 mo_X8_finds np_X8_finds ml_RX8_129 im_X8_finds se_X8_finds (by decide +kernel) (by decide +kernel) rfl rfl rfl (Nat.le_of_ble_eq_true rfl) (by decide +kernel) rfl (Nat.le_of_ble_eq_true rfl) _ (ent_pad 0 rfl) (l_X8_finds g _ _ _ H) (fun v15 h14 H hzv15 => ?_)
    exact wm_iret (by decide +kernel) ⟨.int, rfl, rfl⟩ H
def f_X8_nearer (x1 : Int32) (x2 : Int32) (x3 : Int32) (x4 : Int32) (h : HP) (Q : Int32 → HP → Prop) : Prop :=
  vp_in x1 6 ∧
  ((((gi h 135 (ix x1)) = 1000000) →
    Q 0 h) ∧
   (¬ ((gi h 135 (ix x1)) = 1000000) →
    vp_in x1 6 ∧
    vp_in x2 6 ∧
    (((((gi h 135 (ix x1)) + x3) < (gi h 135 (ix x2))) →
      vp_in x1 6 ∧
      vp_in x2 6 ∧
      ∀ h8 : HP, h8 = si h 135 (ix x2) ((gi h 135 (ix x1)) + x3) →
      vp_in x2 6 ∧
      ∀ h10 : HP, h10 = si h8 136 (ix x2) x4 →
      Q 1 h10) ∧
     (¬ (((gi h 135 (ix x1)) + x3) < (gi h 135 (ix x2))) →
      Q 0 h))))
set_option maxRecDepth 20000 in
theorem l_X8_nearer (g : GE) (x1 : Int32) (x2 : Int32) (x3 : Int32) (x4 : Int32)  (h : HP) (Q : Int32 → HP → Prop) (H : f_X8_nearer x1 x2 x3 x4 h Q) : Wm g mX8_nearer 0 [some (.ref 117), some (.int x1), some (.int x2), some (.int x3), some (.int x4)] [] h (qi Q) := by
  unfold f_X8_nearer at H
  refine wm_aload_n 0 1 (by decide +kernel) rfl rfl ?_
  refine wm_getr 8 22 18 135 4 fl_RX8_61 (by decide +kernel) rfl (by decide +kernel) rfl rfl (by decide) ?_
  refine wm_iload_n 1 5 (by decide +kernel) rfl rfl ?_
  obtain ⟨o1, H⟩ := H
  refine wm_iald 6 6 (by decide +kernel) rfl (by decide +kernel) (by decide +kernel) o1 ?_
  refine wm_ldcw 1000000 9 co_RX8_267 (by decide +kernel) rfl ?_
  refine wm_icmp_eq 12 29 (by decide +kernel : decode cX8_nearer 9 = .ok (.if_icmp .eq 20, 3)) (by decide) rfl (fun c2 => ?_) (fun c2 => ?_)
  · replace H := H.1 c2
    refine wm_iconst 0 30 (by decide +kernel : decode cX8_nearer 29 = .ok (.iconst 0, 1)) rfl (by decide +kernel) ?_
    exact wm_iret (by decide +kernel) ⟨.boolean, rfl, (by decide +kernel)⟩ H
  · replace H := H.2 c2
    refine wm_aload_n 0 13 (by decide +kernel) rfl rfl ?_
    refine wm_getr 8 22 18 135 16 fl_RX8_61 (by decide +kernel) rfl (by decide +kernel) rfl rfl (by decide) ?_
    refine wm_iload_n 1 17 (by decide +kernel) rfl rfl ?_
    obtain ⟨o3, H⟩ := H
    refine wm_iald 6 18 (by decide +kernel) rfl (by decide +kernel) (by decide +kernel) o3 ?_
    refine wm_iload_n 3 19 (by decide +kernel) rfl rfl ?_
    refine wm_iadd 20 (by decide +kernel) rfl ?_
    refine wm_aload_n 0 21 (by decide +kernel) rfl rfl ?_
    refine wm_getr 8 22 18 135 24 fl_RX8_61 (by decide +kernel) rfl (by decide +kernel) rfl rfl (by decide) ?_
    refine wm_iload_n 2 25 (by decide +kernel) rfl rfl ?_
    obtain ⟨o4, H⟩ := H
    refine wm_iald 6 26 (by decide +kernel) rfl (by decide +kernel) (by decide +kernel) o4 ?_
    refine wm_icmp_lt 29 31 (by decide +kernel : decode cX8_nearer 26 = .ok (.if_icmp .lt 5, 3)) (by decide) rfl (fun c5 => ?_) (fun c5 => ?_)
    · replace H := H.1 c5
      refine wm_aload_n 0 32 (by decide +kernel) rfl rfl ?_
      refine wm_getr 8 22 18 135 35 fl_RX8_61 (by decide +kernel) rfl (by decide +kernel) rfl rfl (by decide) ?_
      refine wm_iload_n 2 36 (by decide +kernel) rfl rfl ?_
      refine wm_aload_n 0 37 (by decide +kernel) rfl rfl ?_
      refine wm_getr 8 22 18 135 40 fl_RX8_61 (by decide +kernel) rfl (by decide +kernel) rfl rfl (by decide) ?_
      refine wm_iload_n 1 41 (by decide +kernel) rfl rfl ?_
      obtain ⟨o6, H⟩ := H
      refine wm_iald 6 42 (by decide +kernel) rfl (by decide +kernel) (by decide +kernel) o6 ?_
      refine wm_iload_n 3 43 (by decide +kernel) rfl rfl ?_
      refine wm_iadd 44 (by decide +kernel) rfl ?_
      obtain ⟨o7, H⟩ := H
      replace H := H _ rfl
      refine wm_iast 6 45 (by decide +kernel) rfl (by decide +kernel) (by decide +kernel) o7 ?_
      refine wm_aload_n 0 46 (by decide +kernel) rfl rfl ?_
      refine wm_getr 8 23 19 136 49 fl_RX8_64 (by decide +kernel) rfl (by decide +kernel) rfl rfl (by decide) ?_
      refine wm_iload_n 2 50 (by decide +kernel) rfl rfl ?_
      refine wm_iload 4 52 (by decide +kernel) rfl rfl ?_
      obtain ⟨o9, H⟩ := H
      replace H := H _ rfl
      refine wm_iast 6 53 (by decide +kernel) rfl (by decide +kernel) (by decide +kernel) o9 ?_
      refine wm_iconst 1 54 (by decide +kernel : decode cX8_nearer 53 = .ok (.iconst 1, 1)) rfl (by decide +kernel) ?_
      exact wm_iret (by decide +kernel) ⟨.boolean, rfl, (by decide +kernel)⟩ H
    · replace H := H.2 c5
      refine wm_iconst 0 30 (by decide +kernel : decode cX8_nearer 29 = .ok (.iconst 0, 1)) rfl (by decide +kernel) ?_
      exact wm_iret (by decide +kernel) ⟨.boolean, rfl, (by decide +kernel)⟩ H
def f_X8_measures_L2 (x1 : Int32) (k34 : HP → Prop) (Q : HP → Prop) : Nat → Int32 → HP → Prop
  | 0, _, _ => False
  | n + 1, x2, h =>
    ((((gi h 117 3) ≤ x2) →
      k34 h) ∧
     (¬ ((gi h 117 3) ≤ x2) →
      vp_in x2 6 ∧
      ∀ h5 : HP, h5 = si h 135 (ix x2) (if x2 = x1 then (0 : Int32) else 1000000) →
      ∀ x2_6 : Int32, x2_6 = (x2 + 1) →
      f_X8_measures_L2 x1 k34 Q n x2_6 h5))
def f_X8_measures_J95 (x2 : Int32) (x3 : Int32) (k44 : Int32 → Int32 → HP → Prop) (Q : HP → Prop) (h : HP) : Prop :=
  vp_in x3 10 ∧
  ((((gi h 134 (ix x3)) ≤ 0) →
    ∀ x3_16 : Int32, x3_16 = (x3 + 1) →
    k44 x2 x3_16 h) ∧
   (¬ ((gi h 134 (ix x3)) ≤ 0) →
    f_X8_at x3 2 h (fun v18 h17 =>
    f_X8_at x3 1 h17 (fun v20 h19 =>
    f_X8_takes x3 h19 (fun v22 h21 =>
    f_X8_nearer v18 v20 (-v22) (10 + x3) h21 (fun v24 h23 =>
    ∀ x2_25 : Int32, x2_25 = (x2 ||| v24) →
    ∀ x3_26 : Int32, x3_26 = (x3 + 1) →
    k44 x2_25 x3_26 h23))))))
def f_X8_measures_L44  (k139 : Int32 → HP → Prop) (Q : HP → Prop) : Nat → Int32 → Int32 → HP → Prop
  | 0, _, _, _ => False
  | n + 1, x2, x3, h =>
    ((((gi h 117 7) ≤ x3) →
      k139 x2 h) ∧
     (¬ ((gi h 117 7) ≤ x3) →
      vp_in x3 10 ∧
      f_X8_room x3 (gi h 117 1) h (fun v12 h11 =>
      (((v12 ≤ (gi h 134 (ix x3))) →
        f_X8_measures_J95 x2 x3 (f_X8_measures_L44 k139 Q n) Q h11) ∧
       (¬ (v12 ≤ (gi h 134 (ix x3))) →
        f_X8_at x3 1 h11 (fun v28 h27 =>
        f_X8_at x3 2 h27 (fun v30 h29 =>
        f_X8_takes x3 h29 (fun v32 h31 =>
        f_X8_nearer v28 v30 v32 x3 h31 (fun v34 h33 =>
        ∀ x2_35 : Int32, x2_35 = (x2 ||| v34) →
        f_X8_measures_J95 x2_35 x3 (f_X8_measures_L44 k139 Q n) Q h33)))))))))
def f_X8_measures_L36   (Q : HP → Prop) : Nat → Int32 → HP → Prop
  | 0, _, _ => False
  | n + 1, x2, h =>
    (((x2 = 0) →
      Q h) ∧
     (¬ (x2 = 0) →
      ∃ n38, f_X8_measures_L44 
        (fun x2_36 h37 =>
          f_X8_measures_L36 Q n x2_36 h37)
        Q n38 0 0 h))
def f_X8_measures (x1 : Int32) (h : HP) (Q : HP → Prop) : Prop :=
  ∃ n40, f_X8_measures_L2 x1
    (fun h7 =>
      ∃ n39, f_X8_measures_L36 
        Q n39 1 h7)
    Q n40 0 h
set_option maxRecDepth 20000 in
theorem l_X8_measures_L2 (g : GE) (x1 : Int32)  (k34 : HP → Prop) (Q : HP → Prop) (hk34 : ∀  (h : HP), k34  h → Wm g mX8_measures 34 [some (.ref 117), none, none, none] [] h (qv Q)) : ∀ (n : Nat) (x2 : Int32) (h : HP), f_X8_measures_L2 x1 k34 Q n x2 h → Wm g mX8_measures 2 [some (.ref 117), some (.int x1), some (.int x2), none] [] h (qv Q) := by
  intro n
  induction n with
  | zero => intro x2 h H; exact H.elim
  | succ n ih =>
    intro x2 h H
    unfold f_X8_measures_L2 at H
    refine wm_iload_n 2 3 (by decide +kernel) rfl rfl ?_
    refine wm_aload_n 0 4 (by decide +kernel) rfl rfl ?_
    refine wm_geti 8 3 7 fl_RX8_97 (by decide +kernel) rfl (by decide +kernel) rfl ?_
    refine wm_icmp_ge 10 34 (by decide +kernel : decode cX8_measures 7 = .ok (.if_icmp .ge 27, 3)) (by decide) rfl (fun c1 => ?_) (fun c1 => ?_)
    · replace H := H.1 c1
      refine wm_mask [true, false, false, false] [some _, none, none, none] rfl ?_
      exact hk34 _ H
    · replace H := H.2 c1
      refine wm_aload_n 0 11 (by decide +kernel) rfl rfl ?_
      refine wm_getr 8 22 18 135 14 fl_RX8_61 (by decide +kernel) rfl (by decide +kernel) rfl rfl (by decide) ?_
      refine wm_iload_n 2 15 (by decide +kernel) rfl rfl ?_
      refine wm_iload_n 2 16 (by decide +kernel) rfl rfl ?_
      refine wm_iload_n 1 17 (by decide +kernel) rfl rfl ?_
      refine' wm_dia (pcJ := 27) (fun kt kf => wm_icmp_ne 20 24 (by decide +kernel : decode cX8_measures 17 = .ok (.if_icmp .ne 7, 3)) (by decide) rfl kf kt) ?D3k (fun kj c1 => ?D3t) (fun kj c1 => ?D3f)
      case D3t =>
        refine wm_iconst 0 21 (by decide +kernel : decode cX8_measures 20 = .ok (.iconst 0, 1)) rfl (by decide +kernel) ?_
        refine wm_goto 27 (by decide +kernel : decode cX8_measures 21 = .ok (.goto 6, 3)) (by decide) ?_
        exact kj
      case D3f =>
        refine wm_ldcw 1000000 27 co_RX8_267 (by decide +kernel) rfl ?_
        exact kj
      case D3k =>
        obtain ⟨o4, H⟩ := H
        replace H := H _ rfl
        refine wm_iast 6 28 (by decide +kernel) rfl (by decide +kernel) (by decide +kernel) o4 ?_
        replace H := H _ rfl
        refine wm_iinc 2 (_ + 1) 31 [some _, some _, some _, none] (by decide +kernel : decode cX8_measures 28 = .ok (.iinc 2 1, 3)) rfl (by decide +kernel) rfl (ofI_eq (by decide +kernel)) (okS_spec rfl) rfl ?_
        refine wm_goto 2 (by decide +kernel : decode cX8_measures 31 = .ok (.goto (-29), 3)) (by decide) ?_
        exact ih _ _ H
set_option maxRecDepth 20000 in
theorem l_X8_measures_J95 (g : GE) (x2 : Int32) (x3 : Int32)  (k44 : Int32 → Int32 → HP → Prop) (Q : HP → Prop) (hk44 : ∀ (x2 : Int32) (x3 : Int32) (h : HP), k44 x2 x3 h → Wm g mX8_measures 44 [some (.ref 117), none, some (.int x2), some (.int x3)] [] h (qv Q)) (h : HP) (H : f_X8_measures_J95 x2 x3 k44 Q h) : Wm g mX8_measures 95 [some (.ref 117), none, some (.int x2), some (.int x3)] [] h (qv Q) := by
  unfold f_X8_measures_J95 at H
  refine wm_aload_n 0 96 (by decide +kernel) rfl rfl ?_
  refine wm_getr 8 21 17 134 99 fl_RX8_58 (by decide +kernel) rfl (by decide +kernel) rfl rfl (by decide) ?_
  refine wm_iload_n 3 100 (by decide +kernel) rfl rfl ?_
  obtain ⟨o14, H⟩ := H
  refine wm_iald 10 101 (by decide +kernel) rfl (by decide +kernel) (by decide +kernel) o14 ?_
  refine wm_if_le 104 133 (by decide +kernel : decode cX8_measures 101 = .ok (.ifCond .le 32, 3)) (by decide) rfl (fun c15 => ?_) (fun c15 => ?_)
  · replace H := H.1 c15
    replace H := H _ rfl
    refine wm_iinc 3 (_ + 1) 136 [some _, none, some _, some _] (by decide +kernel : decode cX8_measures 133 = .ok (.iinc 3 1, 3)) rfl (by decide +kernel) rfl (ofI_eq (by decide +kernel)) (okS_spec rfl) rfl ?_
    refine wm_goto 44 (by decide +kernel : decode cX8_measures 136 = .ok (.goto (-92), 3)) (by decide) ?_
    exact hk44 _ _ _ H
  · replace H := H.2 c15
    refine wm_iload_n 2 105 (by decide +kernel) rfl rfl ?_
    refine wm_aload_n 0 106 (by decide +kernel) rfl rfl ?_
    refine wm_aload_n 0 107 (by decide +kernel) rfl rfl ?_
    refine wm_iload_n 3 108 (by decide +kernel) rfl rfl ?_
    refine wm_iconst 2 109 (by decide +kernel : decode cX8_measures 108 = .ok (.iconst 2, 1)) rfl (by decide +kernel) ?_
    refine wm_callVi mX8_at 2 8 [_, _] [_, _] _ _ 112 mo_X8_at np_X8_at ml_RX8_109 im_X8_at se_X8_at (by decide +kernel) (by decide +kernel) rfl rfl rfl (Nat.le_of_ble_eq_true rfl) (by decide +kernel) rfl (Nat.le_of_ble_eq_true rfl) _ (ent_pad 0 rfl) (l_X8_at g _ _ _ _ H) (fun v18 h17 H hzv18 => ?_)
    refine wm_aload_n 0 113 (by decide +kernel) rfl rfl ?_
    refine wm_iload_n 3 114 (by decide +kernel) rfl rfl ?_
    refine wm_iconst 1 115 (by decide +kernel : decode cX8_measures 114 = .ok (.iconst 1, 1)) rfl (by decide +kernel) ?_
    refine wm_callVi mX8_at 2 8 [_, _] [_, _, _] _ _ 118 mo_X8_at np_X8_at ml_RX8_109 im_X8_at se_X8_at (by decide +kernel) (by decide +kernel) rfl rfl rfl (Nat.le_of_ble_eq_true rfl) (by decide +kernel) rfl (Nat.le_of_ble_eq_true rfl) _ (ent_pad 0 rfl) (l_X8_at g _ _ _ _ H) (fun v20 h19 H hzv20 => ?_)
    refine wm_aload_n 0 119 (by decide +kernel) rfl rfl ?_
    refine wm_iload_n 3 120 (by decide +kernel) rfl rfl ?_
    refine wm_callVi mX8_takes 1 8 [_] [_, _, _, _] _ _ 123 mo_X8_takes np_X8_takes ml_RX8_171 im_X8_takes se_X8_takes (by decide +kernel) (by decide +kernel) rfl rfl rfl (Nat.le_of_ble_eq_true rfl) (by decide +kernel) rfl (Nat.le_of_ble_eq_true rfl) _ (ent_pad 1 rfl) (l_X8_takes g _ _ _ H) (fun v22 h21 H hzv22 => ?_)
    refine wm_ineg 124 (by decide +kernel) rfl ?_
    refine wm_bipush 10 126 (by decide +kernel : decode cX8_measures 124 = .ok (.bipush 10, 2)) rfl (by decide +kernel) ?_
    refine wm_iload_n 3 127 (by decide +kernel) rfl rfl ?_
    refine wm_iadd 128 (by decide +kernel) rfl ?_
    refine wm_callVi mX8_nearer 4 8 [_, _, _, _] [_] _ _ 131 mo_X8_nearer np_X8_nearer ml_RX8_268 im_X8_nearer se_X8_nearer (by decide +kernel) (by decide +kernel) rfl rfl rfl (Nat.le_of_ble_eq_true rfl) (by decide +kernel) rfl (Nat.le_of_ble_eq_true rfl) _ (ent_pad 0 rfl) (l_X8_nearer g _ _ _ _ _ _ H) (fun v24 h23 H hzv24 => ?_)
    refine wm_ior 132 (by decide +kernel) rfl ?_
    replace H := H _ rfl
    refine wm_istore_n 2 133 [some _, none, some _, some _] (by decide +kernel) rfl (by decide +kernel) (okS_spec rfl) rfl ?_
    replace H := H _ rfl
    refine wm_iinc 3 (_ + 1) 136 [some _, none, some _, some _] (by decide +kernel : decode cX8_measures 133 = .ok (.iinc 3 1, 3)) rfl (by decide +kernel) rfl (ofI_eq (by decide +kernel)) (okS_spec rfl) rfl ?_
    refine wm_goto 44 (by decide +kernel : decode cX8_measures 136 = .ok (.goto (-92), 3)) (by decide) ?_
    exact hk44 _ _ _ H
set_option maxRecDepth 20000 in
theorem l_X8_measures_L44 (g : GE)   (k139 : Int32 → HP → Prop) (Q : HP → Prop) (hk139 : ∀ (x2 : Int32) (h : HP), k139 x2 h → Wm g mX8_measures 139 [some (.ref 117), none, some (.int x2), none] [] h (qv Q)) : ∀ (n : Nat) (x2 : Int32) (x3 : Int32) (h : HP), f_X8_measures_L44 k139 Q n x2 x3 h → Wm g mX8_measures 44 [some (.ref 117), none, some (.int x2), some (.int x3)] [] h (qv Q) := by
  intro n
  induction n with
  | zero => intro x2 x3 h H; exact H.elim
  | succ n ih =>
    intro x2 x3 h H
    unfold f_X8_measures_L44 at H
    refine wm_iload_n 3 45 (by decide +kernel) rfl rfl ?_
    refine wm_aload_n 0 46 (by decide +kernel) rfl rfl ?_
    refine wm_geti 8 7 49 fl_RX8_105 (by decide +kernel) rfl (by decide +kernel) rfl ?_
    refine wm_icmp_ge 52 139 (by decide +kernel : decode cX8_measures 49 = .ok (.if_icmp .ge 90, 3)) (by decide) rfl (fun c9 => ?_) (fun c9 => ?_)
    · replace H := H.1 c9
      refine wm_mask [true, false, true, false] [some _, none, some _, none] rfl ?_
      exact hk139 _ _ H
    · replace H := H.2 c9
      refine wm_aload_n 0 53 (by decide +kernel) rfl rfl ?_
      refine wm_getr 8 21 17 134 56 fl_RX8_58 (by decide +kernel) rfl (by decide +kernel) rfl rfl (by decide) ?_
      refine wm_iload_n 3 57 (by decide +kernel) rfl rfl ?_
      obtain ⟨o10, H⟩ := H
      refine wm_iald 10 58 (by decide +kernel) rfl (by decide +kernel) (by decide +kernel) o10 ?_
      refine wm_aload_n 0 59 (by decide +kernel) rfl rfl ?_
      refine wm_iload_n 3 60 (by decide +kernel) rfl rfl ?_
      refine wm_aload_n 0 61 (by decide +kernel) rfl rfl ?_
      refine wm_geti 8 1 64 fl_RX8_154 (by decide +kernel) rfl (by decide +kernel) rfl ?_
      refine wm_callVi mX8_room 2 8 [_, _] [_] _ _ 67 mo_X8_room np_X8_room ml_RX8_168 im_X8_room se_X8_room (by decide +kernel) (by decide +kernel) rfl rfl rfl (Nat.le_of_ble_eq_true rfl) (by decide +kernel) rfl (Nat.le_of_ble_eq_true rfl) _ (ent_pad 0 rfl) (l_X8_room g _ _ _ _ H) (fun v12 h11 H hzv12 => ?_)
      refine wm_icmp_ge 70 95 (by decide +kernel : decode cX8_measures 67 = .ok (.if_icmp .ge 28, 3)) (by decide) rfl (fun c13 => ?_) (fun c13 => ?_)
      · replace H := H.1 c13
        exact l_X8_measures_J95 g _ _ _ _ (ih) _ H
      · replace H := H.2 c13
        refine wm_iload_n 2 71 (by decide +kernel) rfl rfl ?_
        refine wm_aload_n 0 72 (by decide +kernel) rfl rfl ?_
        refine wm_aload_n 0 73 (by decide +kernel) rfl rfl ?_
        refine wm_iload_n 3 74 (by decide +kernel) rfl rfl ?_
        refine wm_iconst 1 75 (by decide +kernel : decode cX8_measures 74 = .ok (.iconst 1, 1)) rfl (by decide +kernel) ?_
        refine wm_callVi mX8_at 2 8 [_, _] [_, _] _ _ 78 mo_X8_at np_X8_at ml_RX8_109 im_X8_at se_X8_at (by decide +kernel) (by decide +kernel) rfl rfl rfl (Nat.le_of_ble_eq_true rfl) (by decide +kernel) rfl (Nat.le_of_ble_eq_true rfl) _ (ent_pad 0 rfl) (l_X8_at g _ _ _ _ H) (fun v28 h27 H hzv28 => ?_)
        refine wm_aload_n 0 79 (by decide +kernel) rfl rfl ?_
        refine wm_iload_n 3 80 (by decide +kernel) rfl rfl ?_
        refine wm_iconst 2 81 (by decide +kernel : decode cX8_measures 80 = .ok (.iconst 2, 1)) rfl (by decide +kernel) ?_
        refine wm_callVi mX8_at 2 8 [_, _] [_, _, _] _ _ 84 mo_X8_at np_X8_at ml_RX8_109 im_X8_at se_X8_at (by decide +kernel) (by decide +kernel) rfl rfl rfl (Nat.le_of_ble_eq_true rfl) (by decide +kernel) rfl (Nat.le_of_ble_eq_true rfl) _ (ent_pad 0 rfl) (l_X8_at g _ _ _ _ H) (fun v30 h29 H hzv30 => ?_)
        refine wm_aload_n 0 85 (by decide +kernel) rfl rfl ?_
        refine wm_iload_n 3 86 (by decide +kernel) rfl rfl ?_
        refine wm_callVi mX8_takes 1 8 [_] [_, _, _, _] _ _ 89 mo_X8_takes np_X8_takes ml_RX8_171 im_X8_takes se_X8_takes (by decide +kernel) (by decide +kernel) rfl rfl rfl (Nat.le_of_ble_eq_true rfl) (by decide +kernel) rfl (Nat.le_of_ble_eq_true rfl) _ (ent_pad 1 rfl) (l_X8_takes g _ _ _ H) (fun v32 h31 H hzv32 => ?_)
        refine wm_iload_n 3 90 (by decide +kernel) rfl rfl ?_
        refine wm_callVi mX8_nearer 4 8 [_, _, _, _] [_] _ _ 93 mo_X8_nearer np_X8_nearer ml_RX8_268 im_X8_nearer se_X8_nearer (by decide +kernel) (by decide +kernel) rfl rfl rfl (Nat.le_of_ble_eq_true rfl) (by decide +kernel) rfl (Nat.le_of_ble_eq_true rfl) _ (ent_pad 0 rfl) (l_X8_nearer g _ _ _ _ _ _ H) (fun v34 h33 H hzv34 => ?_)
        refine wm_ior 94 (by decide +kernel) rfl ?_
        replace H := H _ rfl
        refine wm_istore_n 2 95 [some _, none, some _, some _] (by decide +kernel) rfl (by decide +kernel) (okS_spec rfl) rfl ?_
        exact l_X8_measures_J95 g _ _ _ _ (ih) _ H
set_option maxRecDepth 20000 in
theorem l_X8_measures_L36 (g : GE)    (Q : HP → Prop)  : ∀ (n : Nat) (x2 : Int32) (h : HP), f_X8_measures_L36 Q n x2 h → Wm g mX8_measures 36 [some (.ref 117), none, some (.int x2), none] [] h (qv Q) := by
  intro n
  induction n with
  | zero => intro x2 h H; exact H.elim
  | succ n ih =>
    intro x2 h H
    unfold f_X8_measures_L36 at H
    refine wm_iload_n 2 37 (by decide +kernel) rfl rfl ?_
    refine wm_if_eq 40 142 (by decide +kernel : decode cX8_measures 37 = .ok (.ifCond .eq 105, 3)) (by decide) rfl (fun c8 => ?_) (fun c8 => ?_)
    · replace H := H.1 c8
      exact wm_vret (by decide +kernel) rfl H
    · replace H := H.2 c8
      refine wm_iconst 0 41 (by decide +kernel : decode cX8_measures 40 = .ok (.iconst 0, 1)) rfl (by decide +kernel) ?_
      refine wm_istore_n 2 42 [some _, none, some _, none] (by decide +kernel) rfl (by decide +kernel) (okS_spec rfl) rfl ?_
      refine wm_iconst 0 43 (by decide +kernel : decode cX8_measures 42 = .ok (.iconst 0, 1)) rfl (by decide +kernel) ?_
      refine wm_istore_n 3 44 [some _, none, some _, some _] (by decide +kernel) rfl (by decide +kernel) (okS_spec rfl) rfl ?_
      obtain ⟨n38, H⟩ := H
      refine l_X8_measures_L44 g _ _ (fun x2_36 h37 H => ?_) _ _ _ _ H
      · skip
        refine wm_goto 36 (by decide +kernel : decode cX8_measures 139 = .ok (.goto (-103), 3)) (by decide) ?_
        exact ih _ _ H
set_option maxRecDepth 20000 in
theorem l_X8_measures (g : GE) (x1 : Int32)  (h : HP) (Q : HP → Prop) (H : f_X8_measures x1 h Q) : Wm g mX8_measures 0 [some (.ref 117), some (.int x1), none, none] [] h (qv Q) := by
  unfold f_X8_measures at H
  refine wm_iconst 0 1 (by decide +kernel : decode cX8_measures 0 = .ok (.iconst 0, 1)) rfl (by decide +kernel) ?_
  refine wm_istore_n 2 2 [some _, some _, some _, none] (by decide +kernel) rfl (by decide +kernel) (okS_spec rfl) rfl ?_
  obtain ⟨n40, H⟩ := H
  refine l_X8_measures_L2 g _ _ _ (fun h7 H => ?_) _ _ _ H
  · skip
    refine wm_iconst 1 35 (by decide +kernel : decode cX8_measures 34 = .ok (.iconst 1, 1)) rfl (by decide +kernel) ?_
    refine wm_istore_n 2 36 [some _, none, some _, none] (by decide +kernel) rfl (by decide +kernel) (okS_spec rfl) rfl ?_
    obtain ⟨n39, H⟩ := H
    refine l_X8_measures_L36 g _  _ _ _ H
def f_X8_stepBack (x1 : Int32) (h : HP) (Q : Int32 → HP → Prop) : Prop :=
  vp_in x1 6 ∧
  (((10 ≤ (gi h 136 (ix x1))) →
    vp_in x1 6 ∧
    f_X8_at ((gi h 136 (ix x1)) - 10) 2 h (fun v5 h4 =>
    Q v5 h4)) ∧
   (¬ (10 ≤ (gi h 136 (ix x1))) →
    vp_in x1 6 ∧
    f_X8_at (gi h 136 (ix x1)) 1 h (fun v8 h7 =>
    Q v8 h7)))
set_option maxRecDepth 20000 in
theorem l_X8_stepBack (g : GE) (x1 : Int32)  (h : HP) (Q : Int32 → HP → Prop) (H : f_X8_stepBack x1 h Q) : Wm g mX8_stepBack 0 [some (.ref 117), some (.int x1)] [] h (qi Q) := by
  unfold f_X8_stepBack at H
  refine wm_aload_n 0 1 (by decide +kernel) rfl rfl ?_
  refine wm_getr 8 23 19 136 4 fl_RX8_64 (by decide +kernel) rfl (by decide +kernel) rfl rfl (by decide) ?_
  refine wm_iload_n 1 5 (by decide +kernel) rfl rfl ?_
  obtain ⟨o1, H⟩ := H
  refine wm_iald 6 6 (by decide +kernel) rfl (by decide +kernel) (by decide +kernel) o1 ?_
  refine wm_bipush 10 8 (by decide +kernel : decode cX8_stepBack 6 = .ok (.bipush 10, 2)) rfl (by decide +kernel) ?_
  refine wm_icmp_ge 11 25 (by decide +kernel : decode cX8_stepBack 8 = .ok (.if_icmp .ge 17, 3)) (by decide) rfl (fun c2 => ?_) (fun c2 => ?_)
  · replace H := H.1 c2
    refine wm_aload_n 0 26 (by decide +kernel) rfl rfl ?_
    refine wm_aload_n 0 27 (by decide +kernel) rfl rfl ?_
    refine wm_getr 8 23 19 136 30 fl_RX8_64 (by decide +kernel) rfl (by decide +kernel) rfl rfl (by decide) ?_
    refine wm_iload_n 1 31 (by decide +kernel) rfl rfl ?_
    obtain ⟨o3, H⟩ := H
    refine wm_iald 6 32 (by decide +kernel) rfl (by decide +kernel) (by decide +kernel) o3 ?_
    refine wm_bipush 10 34 (by decide +kernel : decode cX8_stepBack 32 = .ok (.bipush 10, 2)) rfl (by decide +kernel) ?_
    refine wm_isub 35 (by decide +kernel) rfl ?_
    refine wm_iconst 2 36 (by decide +kernel : decode cX8_stepBack 35 = .ok (.iconst 2, 1)) rfl (by decide +kernel) ?_
    refine wm_callVi mX8_at 2 8 [_, _] [] _ _ 39 mo_X8_at np_X8_at ml_RX8_109 im_X8_at se_X8_at (by decide +kernel) (by decide +kernel) rfl rfl rfl (Nat.le_of_ble_eq_true rfl) (by decide +kernel) rfl (Nat.le_of_ble_eq_true rfl) _ (ent_pad 0 rfl) (l_X8_at g _ _ _ _ H) (fun v5 h4 H hzv5 => ?_)
    exact wm_iret (by decide +kernel) ⟨.int, rfl, rfl⟩ H
  · replace H := H.2 c2
    refine wm_aload_n 0 12 (by decide +kernel) rfl rfl ?_
    refine wm_aload_n 0 13 (by decide +kernel) rfl rfl ?_
    refine wm_getr 8 23 19 136 16 fl_RX8_64 (by decide +kernel) rfl (by decide +kernel) rfl rfl (by decide) ?_
    refine wm_iload_n 1 17 (by decide +kernel) rfl rfl ?_
    obtain ⟨o6, H⟩ := H
    refine wm_iald 6 18 (by decide +kernel) rfl (by decide +kernel) (by decide +kernel) o6 ?_
    refine wm_iconst 1 19 (by decide +kernel : decode cX8_stepBack 18 = .ok (.iconst 1, 1)) rfl (by decide +kernel) ?_
    refine wm_callVi mX8_at 2 8 [_, _] [] _ _ 22 mo_X8_at np_X8_at ml_RX8_109 im_X8_at se_X8_at (by decide +kernel) (by decide +kernel) rfl rfl rfl (Nat.le_of_ble_eq_true rfl) (by decide +kernel) rfl (Nat.le_of_ble_eq_true rfl) _ (ent_pad 0 rfl) (l_X8_at g _ _ _ _ H) (fun v8 h7 H hzv8 => ?_)
    refine wm_goto 39 (by decide +kernel : decode cX8_stepBack 22 = .ok (.goto 17, 3)) (by decide) ?_
    exact wm_iret (by decide +kernel) ⟨.int, rfl, rfl⟩ H
def f_X8_findsGains_L2 (x1 : Int32) (x2 : Int32) (k21 : HP → Prop) (Q : HP → Prop) : Nat → Int32 → HP → Prop
  | 0, _, _ => False
  | n + 1, x3, h =>
    (((10 ≤ x3) →
      k21 h) ∧
     (¬ (10 ≤ x3) →
      vp_in x3 10 ∧
      ∀ h3 : HP, h3 = si h 134 (ix x3) 0 →
      ∀ x3_4 : Int32, x3_4 = (x3 + 1) →
      f_X8_findsGains_L2 x1 x2 k21 Q n x3_4 h3))
def f_X8_findsGains_L23 (x1 : Int32) (x2 : Int32) (k42 : HP → Prop) (Q : HP → Prop) : Nat → Int32 → HP → Prop
  | 0, _, _ => False
  | n + 1, x3, h =>
    (((121 ≤ x3) →
      k42 h) ∧
     (¬ (121 ≤ x3) →
      vp_in x3 121 ∧
      ∀ h8 : HP, h8 = si h 137 (ix x3) 0 →
      ∀ x3_9 : Int32, x3_9 = (x3 + 1) →
      f_X8_findsGains_L23 x1 x2 k42 Q n x3_9 h8))
def f_X8_findsGains_J129 (x1 : Int32) (x2 : Int32) (x3 : Int32) (x4 : Int32) (xs0 : Int32) (k65 : Int32 → Int32 → HP → Prop) (Q : HP → Prop) (h : HP) : Prop :=
  ∀ x3_21 : Int32, x3_21 = (if x3 ≤ xs0 then (x3 : Int32) else xs0) →
  f_X8_stepBack x4 h (fun v23 h22 =>
  k65 x3_21 v23 h22)
def f_X8_findsGains_L65 (x1 : Int32) (x2 : Int32) (k155 : Int32 → HP → Prop) (Q : HP → Prop) : Nat → Int32 → Int32 → HP → Prop
  | 0, _, _, _ => False
  | n + 1, x3, x4, h =>
    (((x4 = x1) →
      k155 x3 h) ∧
     (¬ (x4 = x1) →
      vp_in x4 6 ∧
      (((10 ≤ (gi h 136 (ix x4))) →
        vp_in x4 6 ∧
        vp_in ((gi h 136 (ix x4)) - 10) 10 ∧
        f_X8_findsGains_J129 x1 x2 x3 x4 (gi h 134 (ix ((gi h 136 (ix x4)) - 10))) (f_X8_findsGains_L65 x1 x2 k155 Q n) Q h) ∧
       (¬ (10 ≤ (gi h 136 (ix x4))) →
        vp_in x4 6 ∧
        f_X8_room (gi h 136 (ix x4)) (gi h 117 1) h (fun v26 h25 =>
        vp_in x4 6 ∧
        vp_in (gi h25 136 (ix x4)) 10 ∧
        f_X8_findsGains_J129 x1 x2 x3 x4 (v26 - (gi h25 134 (ix (gi h25 136 (ix x4))))) (f_X8_findsGains_L65 x1 x2 k155 Q n) Q h25)))))
def f_X8_findsGains_J214 (x1 : Int32) (x2 : Int32) (x3 : Int32) (x4 : Int32) (k158 : Int32 → HP → Prop) (Q : HP → Prop) (h : HP) : Prop :=
  f_X8_stepBack x4 h (fun v39 h38 =>
  k158 v39 h38)
def f_X8_findsGains_L158 (x1 : Int32) (x2 : Int32) (x3 : Int32) (k225 : HP → Prop) (Q : HP → Prop) : Nat → Int32 → HP → Prop
  | 0, _, _ => False
  | n + 1, x4, h =>
    (((x4 = x1) →
      k225 h) ∧
     (¬ (x4 = x1) →
      vp_in x4 6 ∧
      (((10 ≤ (gi h 136 (ix x4))) →
        vp_in x4 6 ∧
        vp_in ((gi h 136 (ix x4)) - 10) 10 ∧
        vp_in ((gi h 136 (ix x4)) - 10) 10 ∧
        ∀ h37 : HP, h37 = si h 134 (ix ((gi h 136 (ix x4)) - 10)) ((gi h 134 (ix ((gi h 136 (ix x4)) - 10))) - x3) →
        f_X8_findsGains_J214 x1 x2 x3 x4 (f_X8_findsGains_L158 x1 x2 x3 k225 Q n) Q h37) ∧
       (¬ (10 ≤ (gi h 136 (ix x4))) →
        vp_in x4 6 ∧
        vp_in (gi h 136 (ix x4)) 10 ∧
        vp_in (gi h 136 (ix x4)) 10 ∧
        ∀ h43 : HP, h43 = si h 134 (ix (gi h 136 (ix x4))) ((gi h 134 (ix (gi h 136 (ix x4)))) + x3) →
        f_X8_findsGains_J214 x1 x2 x3 x4 (f_X8_findsGains_L158 x1 x2 x3 k225 Q n) Q h43))))
def f_X8_findsGains_L47 (x1 : Int32) (x2 : Int32)  (Q : HP → Prop) : Nat → HP → Prop
  | 0, _ => False
  | n + 1, h =>
    vp_in x2 6 ∧
    (((1000000 ≤ (gi h 135 (ix x2))) →
      Q h) ∧
     (¬ (1000000 ≤ (gi h 135 (ix x2))) →
      ∃ n51, f_X8_findsGains_L65 x1 x2
        (fun x3_29 h30 =>
          ∃ n50, f_X8_findsGains_L158 x1 x2 x3_29
            (fun h44 =>
              vp_in x2 6 ∧
              vp_in (gi h44 135 (ix x2)) 121 ∧
              vp_in (gi h44 135 (ix x2)) 121 ∧
              ∀ h48 : HP, h48 = si h44 137 (ix (gi h44 135 (ix x2))) ((gi h44 137 (ix (gi h44 135 (ix x2)))) + x3_29) →
              f_X8_measures x1 h48 (fun h49 =>
              f_X8_findsGains_L47 x1 x2 Q n h49))
            Q n50 x2 h30)
        Q n51 99999 x2 h))
def f_X8_findsGains (x1 : Int32) (x2 : Int32) (h : HP) (Q : HP → Prop) : Prop :=
  ∃ n54, f_X8_findsGains_L2 x1 x2
    (fun h5 =>
      ∃ n53, f_X8_findsGains_L23 x1 x2
        (fun h10 =>
          f_X8_measures x1 h10 (fun h11 =>
          ∃ n52, f_X8_findsGains_L47 x1 x2
            Q n52  h11))
        Q n53 0 h5)
    Q n54 0 h
set_option maxRecDepth 20000 in
theorem l_X8_findsGains_L2 (g : GE) (x1 : Int32) (x2 : Int32)  (k21 : HP → Prop) (Q : HP → Prop) (hk21 : ∀  (h : HP), k21  h → Wm g mX8_findsGains 21 [some (.ref 117), some (.int x1), some (.int x2), none, none, none] [] h (qv Q)) : ∀ (n : Nat) (x3 : Int32) (h : HP), f_X8_findsGains_L2 x1 x2 k21 Q n x3 h → Wm g mX8_findsGains 2 [some (.ref 117), some (.int x1), some (.int x2), some (.int x3), none, none] [] h (qv Q) := by
  intro n
  induction n with
  | zero => intro x3 h H; exact H.elim
  | succ n ih =>
    intro x3 h H
    unfold f_X8_findsGains_L2 at H
    refine wm_iload_n 3 3 (by decide +kernel) rfl rfl ?_
    refine wm_bipush 10 5 (by decide +kernel : decode cX8_findsGains 3 = .ok (.bipush 10, 2)) rfl (by decide +kernel) ?_
    refine wm_icmp_ge 8 21 (by decide +kernel : decode cX8_findsGains 5 = .ok (.if_icmp .ge 16, 3)) (by decide) rfl (fun c1 => ?_) (fun c1 => ?_)
    · replace H := H.1 c1
      refine wm_mask [true, true, true, false, false, false] [some _, some _, some _, none, none, none] rfl ?_
      exact hk21 _ H
    · replace H := H.2 c1
      refine wm_aload_n 0 9 (by decide +kernel) rfl rfl ?_
      refine wm_getr 8 21 17 134 12 fl_RX8_58 (by decide +kernel) rfl (by decide +kernel) rfl rfl (by decide) ?_
      refine wm_iload_n 3 13 (by decide +kernel) rfl rfl ?_
      refine wm_iconst 0 14 (by decide +kernel : decode cX8_findsGains 13 = .ok (.iconst 0, 1)) rfl (by decide +kernel) ?_
      obtain ⟨o2, H⟩ := H
      replace H := H _ rfl
      refine wm_iast 10 15 (by decide +kernel) rfl (by decide +kernel) (by decide +kernel) o2 ?_
      replace H := H _ rfl
      refine wm_iinc 3 (_ + 1) 18 [some _, some _, some _, some _, none, none] (by decide +kernel : decode cX8_findsGains 15 = .ok (.iinc 3 1, 3)) rfl (by decide +kernel) rfl (ofI_eq (by decide +kernel)) (okS_spec rfl) rfl ?_
      refine wm_goto 2 (by decide +kernel : decode cX8_findsGains 18 = .ok (.goto (-16), 3)) (by decide) ?_
      exact ih _ _ H
set_option maxRecDepth 20000 in
theorem l_X8_findsGains_L23 (g : GE) (x1 : Int32) (x2 : Int32)  (k42 : HP → Prop) (Q : HP → Prop) (hk42 : ∀  (h : HP), k42  h → Wm g mX8_findsGains 42 [some (.ref 117), some (.int x1), some (.int x2), none, none, none] [] h (qv Q)) : ∀ (n : Nat) (x3 : Int32) (h : HP), f_X8_findsGains_L23 x1 x2 k42 Q n x3 h → Wm g mX8_findsGains 23 [some (.ref 117), some (.int x1), some (.int x2), some (.int x3), none, none] [] h (qv Q) := by
  intro n
  induction n with
  | zero => intro x3 h H; exact H.elim
  | succ n ih =>
    intro x3 h H
    unfold f_X8_findsGains_L23 at H
    refine wm_iload_n 3 24 (by decide +kernel) rfl rfl ?_
    refine wm_bipush 121 26 (by decide +kernel : decode cX8_findsGains 24 = .ok (.bipush 121, 2)) rfl (by decide +kernel) ?_
    refine wm_icmp_ge 29 42 (by decide +kernel : decode cX8_findsGains 26 = .ok (.if_icmp .ge 16, 3)) (by decide) rfl (fun c6 => ?_) (fun c6 => ?_)
    · replace H := H.1 c6
      refine wm_mask [true, true, true, false, false, false] [some _, some _, some _, none, none, none] rfl ?_
      exact hk42 _ H
    · replace H := H.2 c6
      refine wm_aload_n 0 30 (by decide +kernel) rfl rfl ?_
      refine wm_getr 8 24 20 137 33 fl_RX8_67 (by decide +kernel) rfl (by decide +kernel) rfl rfl (by decide) ?_
      refine wm_iload_n 3 34 (by decide +kernel) rfl rfl ?_
      refine wm_iconst 0 35 (by decide +kernel : decode cX8_findsGains 34 = .ok (.iconst 0, 1)) rfl (by decide +kernel) ?_
      obtain ⟨o7, H⟩ := H
      replace H := H _ rfl
      refine wm_iast 121 36 (by decide +kernel) rfl (by decide +kernel) (by decide +kernel) o7 ?_
      replace H := H _ rfl
      refine wm_iinc 3 (_ + 1) 39 [some _, some _, some _, some _, none, none] (by decide +kernel : decode cX8_findsGains 36 = .ok (.iinc 3 1, 3)) rfl (by decide +kernel) rfl (ofI_eq (by decide +kernel)) (okS_spec rfl) rfl ?_
      refine wm_goto 23 (by decide +kernel : decode cX8_findsGains 39 = .ok (.goto (-16), 3)) (by decide) ?_
      exact ih _ _ H
set_option maxRecDepth 20000 in
theorem l_X8_findsGains_J129 (g : GE) (x1 : Int32) (x2 : Int32) (x3 : Int32) (x4 : Int32) (xs0 : Int32)  (k65 : Int32 → Int32 → HP → Prop) (Q : HP → Prop) (hk65 : ∀ (x3 : Int32) (x4 : Int32) (h : HP), k65 x3 x4 h → Wm g mX8_findsGains 65 [some (.ref 117), some (.int x1), some (.int x2), some (.int x3), some (.int x4), none] [] h (qv Q)) (h : HP) (H : f_X8_findsGains_J129 x1 x2 x3 x4 xs0 k65 Q h) : Wm g mX8_findsGains 129 [some (.ref 117), some (.int x1), some (.int x2), some (.int x3), some (.int x4), none] [(.int xs0)] h (qv Q) := by
  unfold f_X8_findsGains_J129 at H
  refine wm_istore 5 131 [some _, some _, some _, some _, some _, some _] (by decide +kernel) rfl (by decide +kernel) (okS_spec rfl) rfl ?_
  refine wm_iload 5 133 (by decide +kernel) rfl rfl ?_
  refine wm_iload_n 3 134 (by decide +kernel) rfl rfl ?_
  refine' wm_dia (pcJ := 143) (fun kt kf => wm_icmp_ge 137 142 (by decide +kernel : decode cX8_findsGains 134 = .ok (.if_icmp .ge 8, 3)) (by decide) rfl kt kf) ?D20k (fun kj c1 => ?D20t) (fun kj c1 => ?D20f)
  case D20t =>
    refine wm_iload_n 3 143 (by decide +kernel) rfl rfl ?_
    exact kj
  case D20f =>
    refine wm_iload 5 139 (by decide +kernel) rfl rfl ?_
    refine wm_goto 143 (by decide +kernel : decode cX8_findsGains 139 = .ok (.goto 4, 3)) (by decide) ?_
    exact kj
  case D20k =>
    replace H := H _ rfl
    refine wm_istore_n 3 144 [some _, some _, some _, some _, some _, some _] (by decide +kernel) rfl (by decide +kernel) (okS_spec rfl) rfl ?_
    refine wm_aload_n 0 145 (by decide +kernel) rfl rfl ?_
    refine wm_iload 4 147 (by decide +kernel) rfl rfl ?_
    refine wm_callVi mX8_stepBack 1 8 [_] [] _ _ 150 mo_X8_stepBack np_X8_stepBack ml_RX8_276 im_X8_stepBack se_X8_stepBack (by decide +kernel) (by decide +kernel) rfl rfl rfl (Nat.le_of_ble_eq_true rfl) (by decide +kernel) rfl (Nat.le_of_ble_eq_true rfl) _ (ent_pad 0 rfl) (l_X8_stepBack g _ _ _ H) (fun v23 h22 H hzv23 => ?_)
    refine wm_istore 4 152 [some _, some _, some _, some _, some _, some _] (by decide +kernel) rfl (by decide +kernel) (okS_spec rfl) rfl ?_
    refine wm_goto 65 (by decide +kernel : decode cX8_findsGains 152 = .ok (.goto (-87), 3)) (by decide) ?_
    refine wm_mask [true, true, true, true, true, false] [some _, some _, some _, some _, some _, none] rfl ?_
    exact hk65 _ _ _ H
set_option maxRecDepth 20000 in
theorem l_X8_findsGains_L65 (g : GE) (x1 : Int32) (x2 : Int32)  (k155 : Int32 → HP → Prop) (Q : HP → Prop) (hk155 : ∀ (x3 : Int32) (h : HP), k155 x3 h → Wm g mX8_findsGains 155 [some (.ref 117), some (.int x1), some (.int x2), some (.int x3), none, none] [] h (qv Q)) : ∀ (n : Nat) (x3 : Int32) (x4 : Int32) (h : HP), f_X8_findsGains_L65 x1 x2 k155 Q n x3 x4 h → Wm g mX8_findsGains 65 [some (.ref 117), some (.int x1), some (.int x2), some (.int x3), some (.int x4), none] [] h (qv Q) := by
  intro n
  induction n with
  | zero => intro x3 x4 h H; exact H.elim
  | succ n ih =>
    intro x3 x4 h H
    unfold f_X8_findsGains_L65 at H
    refine wm_iload 4 67 (by decide +kernel) rfl rfl ?_
    refine wm_iload_n 1 68 (by decide +kernel) rfl rfl ?_
    refine wm_icmp_eq 71 155 (by decide +kernel : decode cX8_findsGains 68 = .ok (.if_icmp .eq 87, 3)) (by decide) rfl (fun c14 => ?_) (fun c14 => ?_)
    · replace H := H.1 c14
      refine wm_mask [true, true, true, true, false, false] [some _, some _, some _, some _, none, none] rfl ?_
      exact hk155 _ _ H
    · replace H := H.2 c14
      refine wm_aload_n 0 72 (by decide +kernel) rfl rfl ?_
      refine wm_getr 8 23 19 136 75 fl_RX8_64 (by decide +kernel) rfl (by decide +kernel) rfl rfl (by decide) ?_
      refine wm_iload 4 77 (by decide +kernel) rfl rfl ?_
      obtain ⟨o15, H⟩ := H
      refine wm_iald 6 78 (by decide +kernel) rfl (by decide +kernel) (by decide +kernel) o15 ?_
      refine wm_bipush 10 80 (by decide +kernel : decode cX8_findsGains 78 = .ok (.bipush 10, 2)) rfl (by decide +kernel) ?_
      refine wm_icmp_ge 83 114 (by decide +kernel : decode cX8_findsGains 80 = .ok (.if_icmp .ge 34, 3)) (by decide) rfl (fun c16 => ?_) (fun c16 => ?_)
      · replace H := H.1 c16
        refine wm_aload_n 0 115 (by decide +kernel) rfl rfl ?_
        refine wm_getr 8 21 17 134 118 fl_RX8_58 (by decide +kernel) rfl (by decide +kernel) rfl rfl (by decide) ?_
        refine wm_aload_n 0 119 (by decide +kernel) rfl rfl ?_
        refine wm_getr 8 23 19 136 122 fl_RX8_64 (by decide +kernel) rfl (by decide +kernel) rfl rfl (by decide) ?_
        refine wm_iload 4 124 (by decide +kernel) rfl rfl ?_
        obtain ⟨o17, H⟩ := H
        refine wm_iald 6 125 (by decide +kernel) rfl (by decide +kernel) (by decide +kernel) o17 ?_
        refine wm_bipush 10 127 (by decide +kernel : decode cX8_findsGains 125 = .ok (.bipush 10, 2)) rfl (by decide +kernel) ?_
        refine wm_isub 128 (by decide +kernel) rfl ?_
        obtain ⟨o18, H⟩ := H
        refine wm_iald 10 129 (by decide +kernel) rfl (by decide +kernel) (by decide +kernel) o18 ?_
        exact l_X8_findsGains_J129 g _ _ _ _ _ _ _ (ih) _ H
      · replace H := H.2 c16
        refine wm_aload_n 0 84 (by decide +kernel) rfl rfl ?_
        refine wm_aload_n 0 85 (by decide +kernel) rfl rfl ?_
        refine wm_getr 8 23 19 136 88 fl_RX8_64 (by decide +kernel) rfl (by decide +kernel) rfl rfl (by decide) ?_
        refine wm_iload 4 90 (by decide +kernel) rfl rfl ?_
        obtain ⟨o24, H⟩ := H
        refine wm_iald 6 91 (by decide +kernel) rfl (by decide +kernel) (by decide +kernel) o24 ?_
        refine wm_aload_n 0 92 (by decide +kernel) rfl rfl ?_
        refine wm_geti 8 1 95 fl_RX8_154 (by decide +kernel) rfl (by decide +kernel) rfl ?_
        refine wm_callVi mX8_room 2 8 [_, _] [] _ _ 98 mo_X8_room np_X8_room ml_RX8_168 im_X8_room se_X8_room (by decide +kernel) (by decide +kernel) rfl rfl rfl (Nat.le_of_ble_eq_true rfl) (by decide +kernel) rfl (Nat.le_of_ble_eq_true rfl) _ (ent_pad 0 rfl) (l_X8_room g _ _ _ _ H) (fun v26 h25 H hzv26 => ?_)
        refine wm_aload_n 0 99 (by decide +kernel) rfl rfl ?_
        refine wm_getr 8 21 17 134 102 fl_RX8_58 (by decide +kernel) rfl (by decide +kernel) rfl rfl (by decide) ?_
        refine wm_aload_n 0 103 (by decide +kernel) rfl rfl ?_
        refine wm_getr 8 23 19 136 106 fl_RX8_64 (by decide +kernel) rfl (by decide +kernel) rfl rfl (by decide) ?_
        refine wm_iload 4 108 (by decide +kernel) rfl rfl ?_
        obtain ⟨o27, H⟩ := H
        refine wm_iald 6 109 (by decide +kernel) rfl (by decide +kernel) (by decide +kernel) o27 ?_
        obtain ⟨o28, H⟩ := H
        refine wm_iald 10 110 (by decide +kernel) rfl (by decide +kernel) (by decide +kernel) o28 ?_
        refine wm_isub 111 (by decide +kernel) rfl ?_
        refine wm_goto 129 (by decide +kernel : decode cX8_findsGains 111 = .ok (.goto 18, 3)) (by decide) ?_
        exact l_X8_findsGains_J129 g _ _ _ _ _ _ _ (ih) _ H
set_option maxRecDepth 20000 in
theorem l_X8_findsGains_J214 (g : GE) (x1 : Int32) (x2 : Int32) (x3 : Int32) (x4 : Int32)  (k158 : Int32 → HP → Prop) (Q : HP → Prop) (hk158 : ∀ (x4 : Int32) (h : HP), k158 x4 h → Wm g mX8_findsGains 158 [some (.ref 117), some (.int x1), some (.int x2), some (.int x3), some (.int x4), none] [] h (qv Q)) (h : HP) (H : f_X8_findsGains_J214 x1 x2 x3 x4 k158 Q h) : Wm g mX8_findsGains 214 [some (.ref 117), some (.int x1), some (.int x2), some (.int x3), some (.int x4), none] [] h (qv Q) := by
  unfold f_X8_findsGains_J214 at H
  refine wm_aload_n 0 215 (by decide +kernel) rfl rfl ?_
  refine wm_iload 4 217 (by decide +kernel) rfl rfl ?_
  refine wm_callVi mX8_stepBack 1 8 [_] [] _ _ 220 mo_X8_stepBack np_X8_stepBack ml_RX8_276 im_X8_stepBack se_X8_stepBack (by decide +kernel) (by decide +kernel) rfl rfl rfl (Nat.le_of_ble_eq_true rfl) (by decide +kernel) rfl (Nat.le_of_ble_eq_true rfl) _ (ent_pad 0 rfl) (l_X8_stepBack g _ _ _ H) (fun v39 h38 H hzv39 => ?_)
  refine wm_istore 4 222 [some _, some _, some _, some _, some _, none] (by decide +kernel) rfl (by decide +kernel) (okS_spec rfl) rfl ?_
  refine wm_goto 158 (by decide +kernel : decode cX8_findsGains 222 = .ok (.goto (-64), 3)) (by decide) ?_
  exact hk158 _ _ H
set_option maxRecDepth 20000 in
theorem l_X8_findsGains_L158 (g : GE) (x1 : Int32) (x2 : Int32) (x3 : Int32)  (k225 : HP → Prop) (Q : HP → Prop) (hk225 : ∀  (h : HP), k225  h → Wm g mX8_findsGains 225 [some (.ref 117), some (.int x1), some (.int x2), some (.int x3), none, none] [] h (qv Q)) : ∀ (n : Nat) (x4 : Int32) (h : HP), f_X8_findsGains_L158 x1 x2 x3 k225 Q n x4 h → Wm g mX8_findsGains 158 [some (.ref 117), some (.int x1), some (.int x2), some (.int x3), some (.int x4), none] [] h (qv Q) := by
  intro n
  induction n with
  | zero => intro x4 h H; exact H.elim
  | succ n ih =>
    intro x4 h H
    unfold f_X8_findsGains_L158 at H
    refine wm_iload 4 160 (by decide +kernel) rfl rfl ?_
    refine wm_iload_n 1 161 (by decide +kernel) rfl rfl ?_
    refine wm_icmp_eq 164 225 (by decide +kernel : decode cX8_findsGains 161 = .ok (.if_icmp .eq 64, 3)) (by decide) rfl (fun c31 => ?_) (fun c31 => ?_)
    · replace H := H.1 c31
      refine wm_mask [true, true, true, true, false, false] [some _, some _, some _, some _, none, none] rfl ?_
      exact hk225 _ H
    · replace H := H.2 c31
      refine wm_aload_n 0 165 (by decide +kernel) rfl rfl ?_
      refine wm_getr 8 23 19 136 168 fl_RX8_64 (by decide +kernel) rfl (by decide +kernel) rfl rfl (by decide) ?_
      refine wm_iload 4 170 (by decide +kernel) rfl rfl ?_
      obtain ⟨o32, H⟩ := H
      refine wm_iald 6 171 (by decide +kernel) rfl (by decide +kernel) (by decide +kernel) o32 ?_
      refine wm_bipush 10 173 (by decide +kernel : decode cX8_findsGains 171 = .ok (.bipush 10, 2)) rfl (by decide +kernel) ?_
      refine wm_icmp_ge 176 195 (by decide +kernel : decode cX8_findsGains 173 = .ok (.if_icmp .ge 22, 3)) (by decide) rfl (fun c33 => ?_) (fun c33 => ?_)
      · replace H := H.1 c33
        refine wm_aload_n 0 196 (by decide +kernel) rfl rfl ?_
        refine wm_getr 8 21 17 134 199 fl_RX8_58 (by decide +kernel) rfl (by decide +kernel) rfl rfl (by decide) ?_
        refine wm_aload_n 0 200 (by decide +kernel) rfl rfl ?_
        refine wm_getr 8 23 19 136 203 fl_RX8_64 (by decide +kernel) rfl (by decide +kernel) rfl rfl (by decide) ?_
        refine wm_iload 4 205 (by decide +kernel) rfl rfl ?_
        obtain ⟨o34, H⟩ := H
        refine wm_iald 6 206 (by decide +kernel) rfl (by decide +kernel) (by decide +kernel) o34 ?_
        refine wm_bipush 10 208 (by decide +kernel : decode cX8_findsGains 206 = .ok (.bipush 10, 2)) rfl (by decide +kernel) ?_
        refine wm_isub 209 (by decide +kernel) rfl ?_
        refine wm_dup2 210 (by decide +kernel) rfl rfl rfl ?_
        obtain ⟨o35, H⟩ := H
        refine wm_iald 10 211 (by decide +kernel) rfl (by decide +kernel) (by decide +kernel) o35 ?_
        refine wm_iload_n 3 212 (by decide +kernel) rfl rfl ?_
        refine wm_isub 213 (by decide +kernel) rfl ?_
        obtain ⟨o36, H⟩ := H
        replace H := H _ rfl
        refine wm_iast 10 214 (by decide +kernel) rfl (by decide +kernel) (by decide +kernel) o36 ?_
        exact l_X8_findsGains_J214 g _ _ _ _ _ _ (ih) _ H
      · replace H := H.2 c33
        refine wm_aload_n 0 177 (by decide +kernel) rfl rfl ?_
        refine wm_getr 8 21 17 134 180 fl_RX8_58 (by decide +kernel) rfl (by decide +kernel) rfl rfl (by decide) ?_
        refine wm_aload_n 0 181 (by decide +kernel) rfl rfl ?_
        refine wm_getr 8 23 19 136 184 fl_RX8_64 (by decide +kernel) rfl (by decide +kernel) rfl rfl (by decide) ?_
        refine wm_iload 4 186 (by decide +kernel) rfl rfl ?_
        obtain ⟨o40, H⟩ := H
        refine wm_iald 6 187 (by decide +kernel) rfl (by decide +kernel) (by decide +kernel) o40 ?_
        refine wm_dup2 188 (by decide +kernel) rfl rfl rfl ?_
        obtain ⟨o41, H⟩ := H
        refine wm_iald 10 189 (by decide +kernel) rfl (by decide +kernel) (by decide +kernel) o41 ?_
        refine wm_iload_n 3 190 (by decide +kernel) rfl rfl ?_
        refine wm_iadd 191 (by decide +kernel) rfl ?_
        obtain ⟨o42, H⟩ := H
        replace H := H _ rfl
        refine wm_iast 10 192 (by decide +kernel) rfl (by decide +kernel) (by decide +kernel) o42 ?_
        refine wm_goto 214 (by decide +kernel : decode cX8_findsGains 192 = .ok (.goto 22, 3)) (by decide) ?_
        exact l_X8_findsGains_J214 g _ _ _ _ _ _ (ih) _ H
set_option maxRecDepth 20000 in
theorem l_X8_findsGains_L47 (g : GE) (x1 : Int32) (x2 : Int32)   (Q : HP → Prop)  : ∀ (n : Nat)  (h : HP), f_X8_findsGains_L47 x1 x2 Q n  h → Wm g mX8_findsGains 47 [some (.ref 117), some (.int x1), some (.int x2), none, none, none] [] h (qv Q) := by
  intro n
  induction n with
  | zero => intro  h H; exact H.elim
  | succ n ih =>
    intro  h H
    unfold f_X8_findsGains_L47 at H
    refine wm_aload_n 0 48 (by decide +kernel) rfl rfl ?_
    refine wm_getr 8 22 18 135 51 fl_RX8_61 (by decide +kernel) rfl (by decide +kernel) rfl rfl (by decide) ?_
    refine wm_iload_n 2 52 (by decide +kernel) rfl rfl ?_
    obtain ⟨o12, H⟩ := H
    refine wm_iald 6 53 (by decide +kernel) rfl (by decide +kernel) (by decide +kernel) o12 ?_
    refine wm_ldcw 1000000 56 co_RX8_267 (by decide +kernel) rfl ?_
    refine wm_icmp_ge 59 248 (by decide +kernel : decode cX8_findsGains 56 = .ok (.if_icmp .ge 192, 3)) (by decide) rfl (fun c13 => ?_) (fun c13 => ?_)
    · replace H := H.1 c13
      exact wm_vret (by decide +kernel) rfl H
    · replace H := H.2 c13
      refine wm_ldc 99999 61 co_RX8_108 (by decide +kernel) rfl ?_
      refine wm_istore_n 3 62 [some _, some _, some _, some _, none, none] (by decide +kernel) rfl (by decide +kernel) (okS_spec rfl) rfl ?_
      refine wm_iload_n 2 63 (by decide +kernel) rfl rfl ?_
      refine wm_istore 4 65 [some _, some _, some _, some _, some _, none] (by decide +kernel) rfl (by decide +kernel) (okS_spec rfl) rfl ?_
      obtain ⟨n51, H⟩ := H
      refine l_X8_findsGains_L65 g _ _ _ _ (fun x3_29 h30 H => ?_) _ _ _ _ H
      · skip
        refine wm_iload_n 2 156 (by decide +kernel) rfl rfl ?_
        refine wm_istore 4 158 [some _, some _, some _, some _, some _, none] (by decide +kernel) rfl (by decide +kernel) (okS_spec rfl) rfl ?_
        obtain ⟨n50, H⟩ := H
        refine l_X8_findsGains_L158 g _ _ _ _ _ (fun h44 H => ?_) _ _ _ H
        · skip
          refine wm_aload_n 0 226 (by decide +kernel) rfl rfl ?_
          refine wm_getr 8 24 20 137 229 fl_RX8_67 (by decide +kernel) rfl (by decide +kernel) rfl rfl (by decide) ?_
          refine wm_aload_n 0 230 (by decide +kernel) rfl rfl ?_
          refine wm_getr 8 22 18 135 233 fl_RX8_61 (by decide +kernel) rfl (by decide +kernel) rfl rfl (by decide) ?_
          refine wm_iload_n 2 234 (by decide +kernel) rfl rfl ?_
          obtain ⟨o45, H⟩ := H
          refine wm_iald 6 235 (by decide +kernel) rfl (by decide +kernel) (by decide +kernel) o45 ?_
          refine wm_dup2 236 (by decide +kernel) rfl rfl rfl ?_
          obtain ⟨o46, H⟩ := H
          refine wm_iald 121 237 (by decide +kernel) rfl (by decide +kernel) (by decide +kernel) o46 ?_
          refine wm_iload_n 3 238 (by decide +kernel) rfl rfl ?_
          refine wm_iadd 239 (by decide +kernel) rfl ?_
          obtain ⟨o47, H⟩ := H
          replace H := H _ rfl
          refine wm_iast 121 240 (by decide +kernel) rfl (by decide +kernel) (by decide +kernel) o47 ?_
          refine wm_aload_n 0 241 (by decide +kernel) rfl rfl ?_
          refine wm_iload_n 1 242 (by decide +kernel) rfl rfl ?_
          refine wm_callVv mX8_measures 1 8 [_] [] _ _ 245 mo_X8_measures np_X8_measures ml_RX8_272 im_X8_measures se_X8_measures (by decide +kernel) (by decide +kernel) rfl rfl rfl (Nat.le_of_ble_eq_true rfl) (by decide +kernel) rfl (Nat.le_of_ble_eq_true rfl) _ (ent_pad 2 rfl) (l_X8_measures g _ _ _ H) (fun h49 H => ?_)
          refine wm_goto 47 (by decide +kernel : decode cX8_findsGains 245 = .ok (.goto (-198), 3)) (by decide) ?_
          refine wm_mask [true, true, true, false, false, false] [some _, some _, some _, none, none, none] rfl ?_
          exact ih _ H
set_option maxRecDepth 20000 in
theorem l_X8_findsGains (g : GE) (x1 : Int32) (x2 : Int32)  (h : HP) (Q : HP → Prop) (H : f_X8_findsGains x1 x2 h Q) : Wm g mX8_findsGains 0 [some (.ref 117), some (.int x1), some (.int x2), none, none, none] [] h (qv Q) := by
  unfold f_X8_findsGains at H
  refine wm_iconst 0 1 (by decide +kernel : decode cX8_findsGains 0 = .ok (.iconst 0, 1)) rfl (by decide +kernel) ?_
  refine wm_istore_n 3 2 [some _, some _, some _, some _, none, none] (by decide +kernel) rfl (by decide +kernel) (okS_spec rfl) rfl ?_
  obtain ⟨n54, H⟩ := H
  refine l_X8_findsGains_L2 g _ _ _ _ (fun h5 H => ?_) _ _ _ H
  · skip
    refine wm_iconst 0 22 (by decide +kernel : decode cX8_findsGains 21 = .ok (.iconst 0, 1)) rfl (by decide +kernel) ?_
    refine wm_istore_n 3 23 [some _, some _, some _, some _, none, none] (by decide +kernel) rfl (by decide +kernel) (okS_spec rfl) rfl ?_
    obtain ⟨n53, H⟩ := H
    refine l_X8_findsGains_L23 g _ _ _ _ (fun h10 H => ?_) _ _ _ H
    · skip
      refine wm_aload_n 0 43 (by decide +kernel) rfl rfl ?_
      refine wm_iload_n 1 44 (by decide +kernel) rfl rfl ?_
      refine wm_callVv mX8_measures 1 8 [_] [] _ _ 47 mo_X8_measures np_X8_measures ml_RX8_272 im_X8_measures se_X8_measures (by decide +kernel) (by decide +kernel) rfl rfl rfl (Nat.le_of_ble_eq_true rfl) (by decide +kernel) rfl (Nat.le_of_ble_eq_true rfl) _ (ent_pad 2 rfl) (l_X8_measures g _ _ _ H) (fun h11 H => ?_)
      obtain ⟨n52, H⟩ := H
      refine l_X8_findsGains_L47 g _ _ _  _ _ H
def f_X8_steadyBehind_L5 (x1 : Int64)  (Q : Int64 → HP → Prop) : Nat → Int64 → Int32 → HP → Prop
  | 0, _, _, _ => False
  | n + 1, x3, x5, h =>
    (((121 ≤ x5) →
      Q x3 h) ∧
     (¬ (121 ≤ x5) →
      (((0 < (lg_cmp (x5 : Int32).toInt64 x1)) →
        Q x3 h) ∧
       (¬ (0 < (lg_cmp (x5 : Int32).toInt64 x1)) →
        vp_in x5 121 ∧
        ∀ x3_5 : Int64, x3_5 = (x3 + (((gi h 137 (ix x5)) : Int32).toInt64 * ((x1 + (1 : Int64)) - (x5 : Int32).toInt64))) →
        ∀ x5_6 : Int32, x5_6 = (x5 + 1) →
        f_X8_steadyBehind_L5 x1 Q n x3_5 x5_6 h))))
def f_X8_steadyBehind (x1 : Int64) (h : HP) (Q : Int64 → HP → Prop) : Prop :=
  ∀ x3_1 : Int64, x3_1 = (0 : Int64) →
  ∃ n7, f_X8_steadyBehind_L5 x1
    Q n7 x3_1 0 h
set_option maxRecDepth 20000 in
theorem l_X8_steadyBehind_L5 (g : GE) (x1 : Int64)   (Q : Int64 → HP → Prop)  : ∀ (n : Nat) (x3 : Int64) (x5 : Int32) (h : HP), f_X8_steadyBehind_L5 x1 Q n x3 x5 h → Wm g mX8_steadyBehind 5 [some (.ref 117), some (.long x1), none, some (.long x3), none, some (.int x5)] [] h (ql Q) := by
  intro n
  induction n with
  | zero => intro x3 x5 h H; exact H.elim
  | succ n ih =>
    intro x3 x5 h H
    unfold f_X8_steadyBehind_L5 at H
    refine wm_iload 5 7 (by decide +kernel) rfl rfl ?_
    refine wm_bipush 121 9 (by decide +kernel : decode cX8_steadyBehind 7 = .ok (.bipush 121, 2)) rfl (by decide +kernel) ?_
    refine wm_icmp_ge 12 45 (by decide +kernel : decode cX8_steadyBehind 9 = .ok (.if_icmp .ge 36, 3)) (by decide) rfl (fun c2 => ?_) (fun c2 => ?_)
    · replace H := H.1 c2
      refine wm_lload_n 3 46 (by decide +kernel) rfl rfl ?_
      exact wm_lret (by decide +kernel) rfl H
    · replace H := H.2 c2
      refine wm_iload 5 14 (by decide +kernel) rfl rfl ?_
      refine wm_i2l 15 (by decide +kernel) rfl ?_
      refine wm_lload_n 1 16 (by decide +kernel) rfl rfl ?_
      refine wm_lcmp 17 (by decide +kernel) rfl ?_
      refine wm_if_gt 20 45 (by decide +kernel : decode cX8_steadyBehind 17 = .ok (.ifCond .gt 28, 3)) (by decide) rfl (fun c3 => ?_) (fun c3 => ?_)
      · replace H := H.1 c3
        refine wm_lload_n 3 46 (by decide +kernel) rfl rfl ?_
        exact wm_lret (by decide +kernel) rfl H
      · replace H := H.2 c3
        refine wm_lload_n 3 21 (by decide +kernel) rfl rfl ?_
        refine wm_aload_n 0 22 (by decide +kernel) rfl rfl ?_
        refine wm_getr 8 24 20 137 25 fl_RX8_67 (by decide +kernel) rfl (by decide +kernel) rfl rfl (by decide) ?_
        refine wm_iload 5 27 (by decide +kernel) rfl rfl ?_
        obtain ⟨o4, H⟩ := H
        refine wm_iald 121 28 (by decide +kernel) rfl (by decide +kernel) (by decide +kernel) o4 ?_
        refine wm_i2l 29 (by decide +kernel) rfl ?_
        refine wm_lload_n 1 30 (by decide +kernel) rfl rfl ?_
        refine wm_lconst 1 31 (by decide +kernel : decode cX8_steadyBehind 30 = .ok (.lconst 1, 1)) rfl (by decide +kernel) ?_
        refine wm_ladd 32 (by decide +kernel) rfl ?_
        refine wm_iload 5 34 (by decide +kernel) rfl rfl ?_
        refine wm_i2l 35 (by decide +kernel) rfl ?_
        refine wm_lsub 36 (by decide +kernel) rfl ?_
        refine wm_lmul 37 (by decide +kernel) rfl ?_
        refine wm_ladd 38 (by decide +kernel) rfl ?_
        replace H := H _ rfl
        refine wm_lstore_n 3 39 [some _, some _, none, some _, none, some _] (by decide +kernel) rfl (by decide +kernel) (okS_spec rfl) rfl ?_
        replace H := H _ rfl
        refine wm_iinc 5 (_ + 1) 42 [some _, some _, none, some _, none, some _] (by decide +kernel : decode cX8_steadyBehind 39 = .ok (.iinc 5 1, 3)) rfl (by decide +kernel) rfl (ofI_eq (by decide +kernel)) (okS_spec rfl) rfl ?_
        refine wm_goto 5 (by decide +kernel : decode cX8_steadyBehind 42 = .ok (.goto (-37), 3)) (by decide) ?_
        exact ih _ _ _ H
set_option maxRecDepth 20000 in
theorem l_X8_steadyBehind (g : GE) (x1 : Int64)  (h : HP) (Q : Int64 → HP → Prop) (H : f_X8_steadyBehind x1 h Q) : Wm g mX8_steadyBehind 0 [some (.ref 117), some (.long x1), none, none, none, none] [] h (ql Q) := by
  unfold f_X8_steadyBehind at H
  refine wm_lconst 0 1 (by decide +kernel : decode cX8_steadyBehind 0 = .ok (.lconst 0, 1)) rfl (by decide +kernel) ?_
  replace H := H _ rfl
  refine wm_lstore_n 3 2 [some _, some _, none, some _, none, none] (by decide +kernel) rfl (by decide +kernel) (okS_spec rfl) rfl ?_
  refine wm_iconst 0 3 (by decide +kernel : decode cX8_steadyBehind 2 = .ok (.iconst 0, 1)) rfl (by decide +kernel) ?_
  refine wm_istore 5 5 [some _, some _, none, some _, none, some _] (by decide +kernel) rfl (by decide +kernel) (okS_spec rfl) rfl ?_
  obtain ⟨n7, H⟩ := H
  refine l_X8_steadyBehind_L5 g _ _  _ _ _ _ H
def f_X8_areTwo (x1 : Int32) (x2 : Int32) (h : HP) (Q : Int32 → HP → Prop) : Prop :=
  f_X8_isStation x1 h (fun v2 h1 =>
  (((v2 = 0) →
    Q 0 h1) ∧
   (¬ (v2 = 0) →
    f_X8_isStation x2 h1 (fun v5 h4 =>
    (((v5 = 0) →
      Q 0 h4) ∧
     (¬ (v5 = 0) →
      (((x1 = x2) →
        Q 0 h4) ∧
       (¬ (x1 = x2) →
        Q 1 h4))))))))
set_option maxRecDepth 20000 in
theorem l_X8_areTwo (g : GE) (x1 : Int32) (x2 : Int32)  (h : HP) (Q : Int32 → HP → Prop) (H : f_X8_areTwo x1 x2 h Q) : Wm g mX8_areTwo 0 [some (.ref 117), some (.int x1), some (.int x2)] [] h (qi Q) := by
  unfold f_X8_areTwo at H
  refine wm_aload_n 0 1 (by decide +kernel) rfl rfl ?_
  refine wm_iload_n 1 2 (by decide +kernel) rfl rfl ?_
  refine wm_callVi mX8_isStation 1 8 [_] [] _ _ 5 mo_X8_isStation np_X8_isStation ml_RX8_140 im_X8_isStation se_X8_isStation (by decide +kernel) (by decide +kernel) rfl rfl rfl (Nat.le_of_ble_eq_true rfl) (by decide +kernel) rfl (Nat.le_of_ble_eq_true rfl) _ (ent_pad 0 rfl) (l_X8_isStation g _ _ _ H) (fun v2 h1 H hzv2 => ?_)
  refine wm_if_eq 8 25 (by decide +kernel : decode cX8_areTwo 5 = .ok (.ifCond .eq 20, 3)) (by decide) rfl (fun c3 => ?_) (fun c3 => ?_)
  · replace H := H.1 c3
    refine wm_iconst 0 26 (by decide +kernel : decode cX8_areTwo 25 = .ok (.iconst 0, 1)) rfl (by decide +kernel) ?_
    exact wm_iret (by decide +kernel) ⟨.boolean, rfl, (by decide +kernel)⟩ H
  · replace H := H.2 c3
    refine wm_aload_n 0 9 (by decide +kernel) rfl rfl ?_
    refine wm_iload_n 2 10 (by decide +kernel) rfl rfl ?_
    refine wm_callVi mX8_isStation 1 8 [_] [] _ _ 13 mo_X8_isStation np_X8_isStation ml_RX8_140 im_X8_isStation se_X8_isStation (by decide +kernel) (by decide +kernel) rfl rfl rfl (Nat.le_of_ble_eq_true rfl) (by decide +kernel) rfl (Nat.le_of_ble_eq_true rfl) _ (ent_pad 0 rfl) (l_X8_isStation g _ _ _ H) (fun v5 h4 H hzv5 => ?_)
    refine wm_if_eq 16 25 (by decide +kernel : decode cX8_areTwo 13 = .ok (.ifCond .eq 12, 3)) (by decide) rfl (fun c6 => ?_) (fun c6 => ?_)
    · replace H := H.1 c6
      refine wm_iconst 0 26 (by decide +kernel : decode cX8_areTwo 25 = .ok (.iconst 0, 1)) rfl (by decide +kernel) ?_
      exact wm_iret (by decide +kernel) ⟨.boolean, rfl, (by decide +kernel)⟩ H
    · replace H := H.2 c6
      refine wm_iload_n 1 17 (by decide +kernel) rfl rfl ?_
      refine wm_iload_n 2 18 (by decide +kernel) rfl rfl ?_
      refine wm_icmp_eq 21 25 (by decide +kernel : decode cX8_areTwo 18 = .ok (.if_icmp .eq 7, 3)) (by decide) rfl (fun c7 => ?_) (fun c7 => ?_)
      · replace H := H.1 c7
        refine wm_iconst 0 26 (by decide +kernel : decode cX8_areTwo 25 = .ok (.iconst 0, 1)) rfl (by decide +kernel) ?_
        exact wm_iret (by decide +kernel) ⟨.boolean, rfl, (by decide +kernel)⟩ H
      · replace H := H.2 c7
        refine wm_iconst 1 22 (by decide +kernel : decode cX8_areTwo 21 = .ok (.iconst 1, 1)) rfl (by decide +kernel) ?_
        refine wm_goto 26 (by decide +kernel : decode cX8_areTwo 22 = .ok (.goto 4, 3)) (by decide) ?_
        exact wm_iret (by decide +kernel) ⟨.boolean, rfl, (by decide +kernel)⟩ H
def f_X8_steady (x1 : Int32) (x2 : Int32) (x3 : Int32) (h : HP) (Q : Int32 → HP → Prop) : Prop :=
  f_X8_areTwo x1 x2 h (fun v2 h1 =>
  (((v2 = 0) →
    f_X8_finds (-1000000001 : Int32) h1 (fun v5 h4 =>
    Q v5 h4)) ∧
   (¬ (v2 = 0) →
    (((0 ≤ x3) →
      f_X8_findsGains x1 x2 h1 (fun h7 =>
      f_X8_steadyBehind ((x3 : Int32).toInt64) h7 (fun v9 h8 =>
      ((((lg_cmp v9 (2147483647 : Int64)) ≤ 0) →
        Q ((v9 : Int64).toInt32) h8) ∧
       (¬ ((lg_cmp v9 (2147483647 : Int64)) ≤ 0) →
        f_X8_finds (-1000000008 : Int32) h8 (fun v12 h11 =>
        Q v12 h11)))))) ∧
     (¬ (0 ≤ x3) →
      f_X8_finds (-1000000001 : Int32) h1 (fun v14 h13 =>
      Q v14 h13))))))
set_option maxRecDepth 20000 in
theorem l_X8_steady (g : GE) (x1 : Int32) (x2 : Int32) (x3 : Int32)  (h : HP) (Q : Int32 → HP → Prop) (H : f_X8_steady x1 x2 x3 h Q) : Wm g mX8_steady 0 [some (.ref 117), some (.int x1), some (.int x2), some (.int x3), none, none] [] h (qi Q) := by
  unfold f_X8_steady at H
  refine wm_aload_n 0 1 (by decide +kernel) rfl rfl ?_
  refine wm_iload_n 1 2 (by decide +kernel) rfl rfl ?_
  refine wm_iload_n 2 3 (by decide +kernel) rfl rfl ?_
  refine wm_callVi mX8_areTwo 2 8 [_, _] [] _ _ 6 mo_X8_areTwo np_X8_areTwo ml_RX8_279 im_X8_areTwo se_X8_areTwo (by decide +kernel) (by decide +kernel) rfl rfl rfl (Nat.le_of_ble_eq_true rfl) (by decide +kernel) rfl (Nat.le_of_ble_eq_true rfl) _ (ent_pad 0 rfl) (l_X8_areTwo g _ _ _ _ H) (fun v2 h1 H hzv2 => ?_)
  refine wm_if_eq 9 13 (by decide +kernel : decode cX8_steady 6 = .ok (.ifCond .eq 7, 3)) (by decide) rfl (fun c3 => ?_) (fun c3 => ?_)
  · replace H := H.1 c3
    refine wm_aload_n 0 14 (by decide +kernel) rfl rfl ?_
    refine wm_ldc (-1000000001) 16 co_RX8_96 (by decide +kernel) rfl ?_
    refine wm_callVi mX8_finds 1 8 [_] [] _ _ 19 mo_X8_finds np_X8_finds ml_RX8_129 im_X8_finds se_X8_finds (by decide +kernel) (by decide +kernel) rfl rfl rfl (Nat.le_of_ble_eq_true rfl) (by decide +kernel) rfl (Nat.le_of_ble_eq_true rfl) _ (ent_pad 0 rfl) (l_X8_finds g _ _ _ H) (fun v5 h4 H hzv5 => ?_)
    exact wm_iret (by decide +kernel) ⟨.int, rfl, rfl⟩ H
  · replace H := H.2 c3
    refine wm_iload_n 3 10 (by decide +kernel) rfl rfl ?_
    refine wm_if_ge 13 20 (by decide +kernel : decode cX8_steady 10 = .ok (.ifCond .ge 10, 3)) (by decide) rfl (fun c6 => ?_) (fun c6 => ?_)
    · replace H := H.1 c6
      refine wm_aload_n 0 21 (by decide +kernel) rfl rfl ?_
      refine wm_iload_n 1 22 (by decide +kernel) rfl rfl ?_
      refine wm_iload_n 2 23 (by decide +kernel) rfl rfl ?_
      refine wm_callVv mX8_findsGains 2 8 [_, _] [] _ _ 26 mo_X8_findsGains np_X8_findsGains ml_RX8_283 im_X8_findsGains se_X8_findsGains (by decide +kernel) (by decide +kernel) rfl rfl rfl (Nat.le_of_ble_eq_true rfl) (by decide +kernel) rfl (Nat.le_of_ble_eq_true rfl) _ (ent_pad 3 rfl) (l_X8_findsGains g _ _ _ _ H) (fun h7 H => ?_)
      refine wm_aload_n 0 27 (by decide +kernel) rfl rfl ?_
      refine wm_iload_n 3 28 (by decide +kernel) rfl rfl ?_
      refine wm_i2l 29 (by decide +kernel) rfl ?_
      refine wm_callVl mX8_steadyBehind 1 8 [_] [] _ _ 32 mo_X8_steadyBehind np_X8_steadyBehind ml_RX8_286 im_X8_steadyBehind se_X8_steadyBehind (by decide +kernel) (by decide +kernel) rfl rfl rfl (Nat.le_of_ble_eq_true rfl) (by decide +kernel) rfl (Nat.le_of_ble_eq_true rfl) _ (ent_pad 3 rfl) (l_X8_steadyBehind g _ _ _ H) (fun v9 h8 H hzv9 => ?_)
      refine wm_lstore 4 34 [some _, some _, some _, some _, some _, none] (by decide +kernel) rfl (by decide +kernel) (okS_spec rfl) rfl ?_
      refine wm_lload 4 36 (by decide +kernel) rfl rfl ?_
      refine wm_ldc2 2147483647 39 cl_RX8_290 (by decide +kernel) rfl ?_
      refine wm_lcmp 40 (by decide +kernel) rfl ?_
      refine wm_if_le 43 53 (by decide +kernel : decode cX8_steady 40 = .ok (.ifCond .le 13, 3)) (by decide) rfl (fun c10 => ?_) (fun c10 => ?_)
      · replace H := H.1 c10
        refine wm_lload 4 55 (by decide +kernel) rfl rfl ?_
        refine wm_l2i 56 (by decide +kernel) rfl ?_
        exact wm_iret (by decide +kernel) ⟨.int, rfl, rfl⟩ H
      · replace H := H.2 c10
        refine wm_aload_n 0 44 (by decide +kernel) rfl rfl ?_
        refine wm_ldcw (-1000000008) 47 co_RX8_292 (by decide +kernel) rfl ?_
        refine wm_callVi mX8_finds 1 8 [_] [] _ _ 50 mo_X8_finds np_X8_finds ml_RX8_129 im_X8_finds se_X8_finds (by decide +kernel) (by decide +kernel) rfl rfl rfl (Nat.le_of_ble_eq_true rfl) (by decide +kernel) rfl (Nat.le_of_ble_eq_true rfl) _ (ent_pad 0 rfl) (l_X8_finds g _ _ _ H) (fun v12 h11 H hzv12 => ?_)
        refine wm_goto 56 (by decide +kernel : decode cX8_steady 50 = .ok (.goto 6, 3)) (by decide) ?_
        exact wm_iret (by decide +kernel) ⟨.int, rfl, rfl⟩ H
    · replace H := H.2 c6
      refine wm_aload_n 0 14 (by decide +kernel) rfl rfl ?_
      refine wm_ldc (-1000000001) 16 co_RX8_96 (by decide +kernel) rfl ?_
      refine wm_callVi mX8_finds 1 8 [_] [] _ _ 19 mo_X8_finds np_X8_finds ml_RX8_129 im_X8_finds se_X8_finds (by decide +kernel) (by decide +kernel) rfl rfl rfl (Nat.le_of_ble_eq_true rfl) (by decide +kernel) rfl (Nat.le_of_ble_eq_true rfl) _ (ent_pad 0 rfl) (l_X8_finds g _ _ _ H) (fun v14 h13 H hzv14 => ?_)
      exact wm_iret (by decide +kernel) ⟨.int, rfl, rfl⟩ H
def f_X8_rate (x1 : Int32) (x2 : Int32) (h : HP) (Q : Int32 → HP → Prop) : Prop :=
  f_X8_areTwo x1 x2 h (fun v2 h1 =>
  (((v2 = 0) →
    f_X8_finds (-1000000001 : Int32) h1 (fun v8 h7 =>
    Q v8 h7)) ∧
   (¬ (v2 = 0) →
    f_X8_findsGains x1 x2 h1 (fun h4 =>
    f_X8_sumOf 137 121 h4 (fun v6 h5 =>
    Q v6 h5)))))
set_option maxRecDepth 20000 in
theorem l_X8_rate (g : GE) (x1 : Int32) (x2 : Int32)  (h : HP) (Q : Int32 → HP → Prop) (H : f_X8_rate x1 x2 h Q) : Wm g mX8_rate 0 [some (.ref 117), some (.int x1), some (.int x2)] [] h (qi Q) := by
  unfold f_X8_rate at H
  refine wm_aload_n 0 1 (by decide +kernel) rfl rfl ?_
  refine wm_iload_n 1 2 (by decide +kernel) rfl rfl ?_
  refine wm_iload_n 2 3 (by decide +kernel) rfl rfl ?_
  refine wm_callVi mX8_areTwo 2 8 [_, _] [] _ _ 6 mo_X8_areTwo np_X8_areTwo ml_RX8_279 im_X8_areTwo se_X8_areTwo (by decide +kernel) (by decide +kernel) rfl rfl rfl (Nat.le_of_ble_eq_true rfl) (by decide +kernel) rfl (Nat.le_of_ble_eq_true rfl) _ (ent_pad 0 rfl) (l_X8_areTwo g _ _ _ _ H) (fun v2 h1 H hzv2 => ?_)
  refine wm_if_ne 9 16 (by decide +kernel : decode cX8_rate 6 = .ok (.ifCond .ne 10, 3)) (by decide) rfl (fun c3 => ?_) (fun c3 => ?_)
  · replace H := H.2 c3
    refine wm_aload_n 0 17 (by decide +kernel) rfl rfl ?_
    refine wm_iload_n 1 18 (by decide +kernel) rfl rfl ?_
    refine wm_iload_n 2 19 (by decide +kernel) rfl rfl ?_
    refine wm_callVv mX8_findsGains 2 8 [_, _] [] _ _ 22 mo_X8_findsGains np_X8_findsGains ml_RX8_283 im_X8_findsGains se_X8_findsGains (by decide +kernel) (by decide +kernel) rfl rfl rfl (Nat.le_of_ble_eq_true rfl) (by decide +kernel) rfl (Nat.le_of_ble_eq_true rfl) _ (ent_pad 3 rfl) (l_X8_findsGains g _ _ _ _ H) (fun h4 H => ?_)
    refine wm_aload_n 0 23 (by decide +kernel) rfl rfl ?_
    refine wm_aload_n 0 24 (by decide +kernel) rfl rfl ?_
    refine wm_getr 8 24 20 137 27 fl_RX8_67 (by decide +kernel) rfl (by decide +kernel) rfl rfl (by decide) ?_
    refine wm_bipush 121 29 (by decide +kernel : decode cX8_rate 27 = .ok (.bipush 121, 2)) rfl (by decide +kernel) ?_
    refine wm_callVi mX8_sumOf 2 8 [_, _] [] _ _ 32 mo_X8_sumOf np_X8_sumOf ml_RX8_117 im_X8_sumOf se_X8_sumOf (by decide +kernel) (by decide +kernel) rfl rfl rfl (Nat.le_of_ble_eq_true rfl) (by decide +kernel) rfl (Nat.le_of_ble_eq_true rfl) _ (ent_pad 2 rfl) (l_X8_sumOf g _ _ (by decide +kernel) _ _ H) (fun v6 h5 H hzv6 => ?_)
    exact wm_iret (by decide +kernel) ⟨.int, rfl, rfl⟩ H
  · replace H := H.1 c3
    refine wm_aload_n 0 10 (by decide +kernel) rfl rfl ?_
    refine wm_ldc (-1000000001) 12 co_RX8_96 (by decide +kernel) rfl ?_
    refine wm_callVi mX8_finds 1 8 [_] [] _ _ 15 mo_X8_finds np_X8_finds ml_RX8_129 im_X8_finds se_X8_finds (by decide +kernel) (by decide +kernel) rfl rfl rfl (Nat.le_of_ble_eq_true rfl) (by decide +kernel) rfl (Nat.le_of_ble_eq_true rfl) _ (ent_pad 0 rfl) (l_X8_finds g _ _ _ H) (fun v8 h7 H hzv8 => ?_)
    exact wm_iret (by decide +kernel) ⟨.int, rfl, rfl⟩ H
def f_X8_gain (x1 : Int32) (x2 : Int32) (x3 : Int32) (h : HP) (Q : Int32 → HP → Prop) : Prop :=
  f_X8_areTwo x1 x2 h (fun v2 h1 =>
  (((v2 = 0) →
    f_X8_finds (-1000000001 : Int32) h1 (fun v5 h4 =>
    Q v5 h4)) ∧
   (¬ (v2 = 0) →
    f_X8_in ((x3 : Int32).toInt64) (0 : Int64) (120 : Int64) h1 (fun v7 h6 =>
    (((v7 = 0) →
      f_X8_finds (-1000000001 : Int32) h6 (fun v12 h11 =>
      Q v12 h11)) ∧
     (¬ (v7 = 0) →
      f_X8_findsGains x1 x2 h6 (fun h9 =>
      vp_in x3 121 ∧
      Q (gi h9 137 (ix x3)) h9)))))))
set_option maxRecDepth 20000 in
theorem l_X8_gain (g : GE) (x1 : Int32) (x2 : Int32) (x3 : Int32)  (h : HP) (Q : Int32 → HP → Prop) (H : f_X8_gain x1 x2 x3 h Q) : Wm g mX8_gain 0 [some (.ref 117), some (.int x1), some (.int x2), some (.int x3)] [] h (qi Q) := by
  unfold f_X8_gain at H
  refine wm_aload_n 0 1 (by decide +kernel) rfl rfl ?_
  refine wm_iload_n 1 2 (by decide +kernel) rfl rfl ?_
  refine wm_iload_n 2 3 (by decide +kernel) rfl rfl ?_
  refine wm_callVi mX8_areTwo 2 8 [_, _] [] _ _ 6 mo_X8_areTwo np_X8_areTwo ml_RX8_279 im_X8_areTwo se_X8_areTwo (by decide +kernel) (by decide +kernel) rfl rfl rfl (Nat.le_of_ble_eq_true rfl) (by decide +kernel) rfl (Nat.le_of_ble_eq_true rfl) _ (ent_pad 0 rfl) (l_X8_areTwo g _ _ _ _ H) (fun v2 h1 H hzv2 => ?_)
  refine wm_if_eq 9 21 (by decide +kernel : decode cX8_gain 6 = .ok (.ifCond .eq 15, 3)) (by decide) rfl (fun c3 => ?_) (fun c3 => ?_)
  · replace H := H.1 c3
    refine wm_aload_n 0 22 (by decide +kernel) rfl rfl ?_
    refine wm_ldc (-1000000001) 24 co_RX8_96 (by decide +kernel) rfl ?_
    refine wm_callVi mX8_finds 1 8 [_] [] _ _ 27 mo_X8_finds np_X8_finds ml_RX8_129 im_X8_finds se_X8_finds (by decide +kernel) (by decide +kernel) rfl rfl rfl (Nat.le_of_ble_eq_true rfl) (by decide +kernel) rfl (Nat.le_of_ble_eq_true rfl) _ (ent_pad 0 rfl) (l_X8_finds g _ _ _ H) (fun v5 h4 H hzv5 => ?_)
    exact wm_iret (by decide +kernel) ⟨.int, rfl, rfl⟩ H
  · replace H := H.2 c3
    refine wm_iload_n 3 10 (by decide +kernel) rfl rfl ?_
    refine wm_i2l 11 (by decide +kernel) rfl ?_
    refine wm_lconst 0 12 (by decide +kernel : decode cX8_gain 11 = .ok (.lconst 0, 1)) rfl (by decide +kernel) ?_
    refine wm_ldc2 120 15 cl_RX8_293 (by decide +kernel) rfl ?_
    refine wm_callSi mX8_in 3 [_, _, _] [] _ _ 18 mo_X8_in np_X8_in ml_RX8_101 sc_X8_in (by decide +kernel) (by decide +kernel) rfl rfl rfl (Nat.le_of_ble_eq_true rfl) (Nat.le_of_ble_eq_true rfl) _ (ent_pad 0 rfl) (l_X8_in g _ _ _ _ _ H) (fun v7 h6 H hzv7 => ?_)
    refine wm_if_ne 21 28 (by decide +kernel : decode cX8_gain 18 = .ok (.ifCond .ne 10, 3)) (by decide) rfl (fun c8 => ?_) (fun c8 => ?_)
    · replace H := H.2 c8
      refine wm_aload_n 0 29 (by decide +kernel) rfl rfl ?_
      refine wm_iload_n 1 30 (by decide +kernel) rfl rfl ?_
      refine wm_iload_n 2 31 (by decide +kernel) rfl rfl ?_
      refine wm_callVv mX8_findsGains 2 8 [_, _] [] _ _ 34 mo_X8_findsGains np_X8_findsGains ml_RX8_283 im_X8_findsGains se_X8_findsGains (by decide +kernel) (by decide +kernel) rfl rfl rfl (Nat.le_of_ble_eq_true rfl) (by decide +kernel) rfl (Nat.le_of_ble_eq_true rfl) _ (ent_pad 3 rfl) (l_X8_findsGains g _ _ _ _ H) (fun h9 H => ?_)
      refine wm_aload_n 0 35 (by decide +kernel) rfl rfl ?_
      refine wm_getr 8 24 20 137 38 fl_RX8_67 (by decide +kernel) rfl (by decide +kernel) rfl rfl (by decide) ?_
      refine wm_iload_n 3 39 (by decide +kernel) rfl rfl ?_
      obtain ⟨o10, H⟩ := H
      refine wm_iald 121 40 (by decide +kernel) rfl (by decide +kernel) (by decide +kernel) o10 ?_
      exact wm_iret (by decide +kernel) ⟨.int, rfl, rfl⟩ H
    · replace H := H.1 c8
      refine wm_aload_n 0 22 (by decide +kernel) rfl rfl ?_
      refine wm_ldc (-1000000001) 24 co_RX8_96 (by decide +kernel) rfl ?_
      refine wm_callVi mX8_finds 1 8 [_] [] _ _ 27 mo_X8_finds np_X8_finds ml_RX8_129 im_X8_finds se_X8_finds (by decide +kernel) (by decide +kernel) rfl rfl rfl (Nat.le_of_ble_eq_true rfl) (by decide +kernel) rfl (Nat.le_of_ble_eq_true rfl) _ (ent_pad 0 rfl) (l_X8_finds g _ _ _ H) (fun v12 h11 H hzv12 => ?_)
      exact wm_iret (by decide +kernel) ⟨.int, rfl, rfl⟩ H
def f_X8_reach_L59 (x3 : Int32) (k106 : Int64 → HP → Prop) (Q : Int32 → HP → Prop) : Nat → Int64 → Int64 → HP → Prop
  | 0, _, _, _ => False
  | n + 1, x4, x6, h =>
    (((0 ≤ (lg_cmp x4 x6)) →
      k106 x4 h) ∧
     (¬ (0 ≤ (lg_cmp x4 x6)) →
      ∀ x8_12 : Int64, x8_12 = ((x4 + x6) / (2 : Int64)) →
      f_X8_steadyBehind x8_12 h (fun v14 h13 =>
      ((((lg_cmp v14 (x3 : Int32).toInt64) < 0) →
        ∀ x4_16 : Int64, x4_16 = (x8_12 + (1 : Int64)) →
        f_X8_reach_L59 x3 k106 Q n x4_16 x6 h13) ∧
       (¬ ((lg_cmp v14 (x3 : Int32).toInt64) < 0) →
        f_X8_reach_L59 x3 k106 Q n x4 x8_12 h13)))))
def f_X8_reach_J51 (x3 : Int32)  (Q : Int32 → HP → Prop) (h : HP) : Prop :=
  ∀ x4_9 : Int64, x4_9 = (0 : Int64) →
  ∀ x6_10 : Int64, x6_10 = (3000000000 : Int64) →
  ∃ n22, f_X8_reach_L59 x3
    (fun x4_17 h18 =>
      ((((lg_cmp x4_17 (2147483647 : Int64)) ≤ 0) →
        Q ((x4_17 : Int64).toInt32) h18) ∧
       (¬ ((lg_cmp x4_17 (2147483647 : Int64)) ≤ 0) →
        f_X8_finds (-1000000008 : Int32) h18 (fun v21 h20 =>
        Q v21 h20))))
    Q n22 x4_9 x6_10 h
def f_X8_reach (x1 : Int32) (x2 : Int32) (x3 : Int32) (h : HP) (Q : Int32 → HP → Prop) : Prop :=
  f_X8_areTwo x1 x2 h (fun v2 h1 =>
  (((v2 = 0) →
    f_X8_finds (-1000000001 : Int32) h1 (fun v5 h4 =>
    Q v5 h4)) ∧
   (¬ (v2 = 0) →
    (((0 ≤ x3) →
      f_X8_findsGains x1 x2 h1 (fun h7 =>
      (((x3 ≤ 0) →
        f_X8_reach_J51 x3  Q h7) ∧
       (¬ (x3 ≤ 0) →
        f_X8_sumOf 137 121 h7 (fun v24 h23 =>
        (((v24 = 0) →
          f_X8_finds (-1000000004 : Int32) h23 (fun v27 h26 =>
          Q v27 h26)) ∧
         (¬ (v24 = 0) →
          f_X8_reach_J51 x3  Q h23))))))) ∧
     (¬ (0 ≤ x3) →
      f_X8_finds (-1000000001 : Int32) h1 (fun v29 h28 =>
      Q v29 h28))))))
set_option maxRecDepth 20000 in
theorem l_X8_reach_L59 (g : GE) (x3 : Int32)  (k106 : Int64 → HP → Prop) (Q : Int32 → HP → Prop) (hk106 : ∀ (x4 : Int64) (h : HP), k106 x4 h → Wm g mX8_reach 106 [some (.ref 117), none, none, none, some (.long x4), none, none, none, none, none] [] h (qi Q)) : ∀ (n : Nat) (x4 : Int64) (x6 : Int64) (h : HP), f_X8_reach_L59 x3 k106 Q n x4 x6 h → Wm g mX8_reach 59 [some (.ref 117), none, none, some (.int x3), some (.long x4), none, some (.long x6), none, none, none] [] h (qi Q) := by
  intro n
  induction n with
  | zero => intro x4 x6 h H; exact H.elim
  | succ n ih =>
    intro x4 x6 h H
    unfold f_X8_reach_L59 at H
    refine wm_lload 4 61 (by decide +kernel) rfl rfl ?_
    refine wm_lload 6 63 (by decide +kernel) rfl rfl ?_
    refine wm_lcmp 64 (by decide +kernel) rfl ?_
    refine wm_if_ge 67 106 (by decide +kernel : decode cX8_reach 64 = .ok (.ifCond .ge 42, 3)) (by decide) rfl (fun c11 => ?_) (fun c11 => ?_)
    · replace H := H.1 c11
      refine wm_mask [true, false, false, false, true, false, false, false, false, false] [some _, none, none, none, some _, none, none, none, none, none] rfl ?_
      exact hk106 _ _ H
    · replace H := H.2 c11
      refine wm_lload 4 69 (by decide +kernel) rfl rfl ?_
      refine wm_lload 6 71 (by decide +kernel) rfl rfl ?_
      refine wm_ladd 72 (by decide +kernel) rfl ?_
      refine wm_ldc2 2 75 cl_RX8_174 (by decide +kernel) rfl ?_
      refine wm_ldiv 76 (by decide +kernel) rfl (by decide +kernel) ?_
      replace H := H _ rfl
      refine wm_lstore 8 78 [some _, none, none, some _, some _, none, some _, none, some _, none] (by decide +kernel) rfl (by decide +kernel) (okS_spec rfl) rfl ?_
      refine wm_aload_n 0 79 (by decide +kernel) rfl rfl ?_
      refine wm_lload 8 81 (by decide +kernel) rfl rfl ?_
      refine wm_callVl mX8_steadyBehind 1 8 [_] [] _ _ 84 mo_X8_steadyBehind np_X8_steadyBehind ml_RX8_286 im_X8_steadyBehind se_X8_steadyBehind (by decide +kernel) (by decide +kernel) rfl rfl rfl (Nat.le_of_ble_eq_true rfl) (by decide +kernel) rfl (Nat.le_of_ble_eq_true rfl) _ (ent_pad 3 rfl) (l_X8_steadyBehind g _ _ _ H) (fun v14 h13 H hzv14 => ?_)
      refine wm_iload_n 3 85 (by decide +kernel) rfl rfl ?_
      refine wm_i2l 86 (by decide +kernel) rfl ?_
      refine wm_lcmp 87 (by decide +kernel) rfl ?_
      refine wm_if_lt 90 97 (by decide +kernel : decode cX8_reach 87 = .ok (.ifCond .lt 10, 3)) (by decide) rfl (fun c15 => ?_) (fun c15 => ?_)
      · replace H := H.1 c15
        refine wm_lload 8 99 (by decide +kernel) rfl rfl ?_
        refine wm_lconst 1 100 (by decide +kernel : decode cX8_reach 99 = .ok (.lconst 1, 1)) rfl (by decide +kernel) ?_
        refine wm_ladd 101 (by decide +kernel) rfl ?_
        replace H := H _ rfl
        refine wm_lstore 4 103 [some _, none, none, some _, some _, none, some _, none, some _, none] (by decide +kernel) rfl (by decide +kernel) (okS_spec rfl) rfl ?_
        refine wm_goto 59 (by decide +kernel : decode cX8_reach 103 = .ok (.goto (-44), 3)) (by decide) ?_
        refine wm_mask [true, false, false, true, true, false, true, false, false, false] [some _, none, none, some _, some _, none, some _, none, none, none] rfl ?_
        exact ih _ _ _ H
      · replace H := H.2 c15
        refine wm_lload 8 92 (by decide +kernel) rfl rfl ?_
        refine wm_lstore 6 94 [some _, none, none, some _, some _, none, some _, none, some _, none] (by decide +kernel) rfl (by decide +kernel) (okS_spec rfl) rfl ?_
        refine wm_goto 103 (by decide +kernel : decode cX8_reach 94 = .ok (.goto 9, 3)) (by decide) ?_
        refine wm_goto 59 (by decide +kernel : decode cX8_reach 103 = .ok (.goto (-44), 3)) (by decide) ?_
        refine wm_mask [true, false, false, true, true, false, true, false, false, false] [some _, none, none, some _, some _, none, some _, none, none, none] rfl ?_
        exact ih _ _ _ H
set_option maxRecDepth 20000 in
theorem l_X8_reach_J51 (g : GE) (x3 : Int32)   (Q : Int32 → HP → Prop)  (h : HP) (H : f_X8_reach_J51 x3  Q h) : Wm g mX8_reach 51 [some (.ref 117), none, none, some (.int x3), none, none, none, none, none, none] [] h (qi Q) := by
  unfold f_X8_reach_J51 at H
  refine wm_lconst 0 52 (by decide +kernel : decode cX8_reach 51 = .ok (.lconst 0, 1)) rfl (by decide +kernel) ?_
  replace H := H _ rfl
  refine wm_lstore 4 54 [some _, none, none, some _, some _, none, none, none, none, none] (by decide +kernel) rfl (by decide +kernel) (okS_spec rfl) rfl ?_
  refine wm_ldc2 3000000000 57 cl_RX8_295 (by decide +kernel) rfl ?_
  replace H := H _ rfl
  refine wm_lstore 6 59 [some _, none, none, some _, some _, none, some _, none, none, none] (by decide +kernel) rfl (by decide +kernel) (okS_spec rfl) rfl ?_
  obtain ⟨n22, H⟩ := H
  refine l_X8_reach_L59 g _ _ _ (fun x4_17 h18 H => ?_) _ _ _ _ H
  · skip
    refine wm_lload 4 108 (by decide +kernel) rfl rfl ?_
    refine wm_ldc2 2147483647 111 cl_RX8_290 (by decide +kernel) rfl ?_
    refine wm_lcmp 112 (by decide +kernel) rfl ?_
    refine wm_if_le 115 125 (by decide +kernel : decode cX8_reach 112 = .ok (.ifCond .le 13, 3)) (by decide) rfl (fun c19 => ?_) (fun c19 => ?_)
    · replace H := H.1 c19
      refine wm_lload 4 127 (by decide +kernel) rfl rfl ?_
      refine wm_l2i 128 (by decide +kernel) rfl ?_
      exact wm_iret (by decide +kernel) ⟨.int, rfl, rfl⟩ H
    · replace H := H.2 c19
      refine wm_aload_n 0 116 (by decide +kernel) rfl rfl ?_
      refine wm_ldcw (-1000000008) 119 co_RX8_292 (by decide +kernel) rfl ?_
      refine wm_callVi mX8_finds 1 8 [_] [] _ _ 122 mo_X8_finds np_X8_finds ml_RX8_129 im_X8_finds se_X8_finds (by decide +kernel) (by decide +kernel) rfl rfl rfl (Nat.le_of_ble_eq_true rfl) (by decide +kernel) rfl (Nat.le_of_ble_eq_true rfl) _ (ent_pad 0 rfl) (l_X8_finds g _ _ _ H) (fun v21 h20 H hzv21 => ?_)
      refine wm_goto 128 (by decide +kernel : decode cX8_reach 122 = .ok (.goto 6, 3)) (by decide) ?_
      exact wm_iret (by decide +kernel) ⟨.int, rfl, rfl⟩ H
set_option maxRecDepth 20000 in
theorem l_X8_reach (g : GE) (x1 : Int32) (x2 : Int32) (x3 : Int32)  (h : HP) (Q : Int32 → HP → Prop) (H : f_X8_reach x1 x2 x3 h Q) : Wm g mX8_reach 0 [some (.ref 117), some (.int x1), some (.int x2), some (.int x3), none, none, none, none, none, none] [] h (qi Q) := by
  unfold f_X8_reach at H
  refine wm_aload_n 0 1 (by decide +kernel) rfl rfl ?_
  refine wm_iload_n 1 2 (by decide +kernel) rfl rfl ?_
  refine wm_iload_n 2 3 (by decide +kernel) rfl rfl ?_
  refine wm_callVi mX8_areTwo 2 8 [_, _] [] _ _ 6 mo_X8_areTwo np_X8_areTwo ml_RX8_279 im_X8_areTwo se_X8_areTwo (by decide +kernel) (by decide +kernel) rfl rfl rfl (Nat.le_of_ble_eq_true rfl) (by decide +kernel) rfl (Nat.le_of_ble_eq_true rfl) _ (ent_pad 0 rfl) (l_X8_areTwo g _ _ _ _ H) (fun v2 h1 H hzv2 => ?_)
  refine wm_if_eq 9 13 (by decide +kernel : decode cX8_reach 6 = .ok (.ifCond .eq 7, 3)) (by decide) rfl (fun c3 => ?_) (fun c3 => ?_)
  · replace H := H.1 c3
    refine wm_aload_n 0 14 (by decide +kernel) rfl rfl ?_
    refine wm_ldc (-1000000001) 16 co_RX8_96 (by decide +kernel) rfl ?_
    refine wm_callVi mX8_finds 1 8 [_] [] _ _ 19 mo_X8_finds np_X8_finds ml_RX8_129 im_X8_finds se_X8_finds (by decide +kernel) (by decide +kernel) rfl rfl rfl (Nat.le_of_ble_eq_true rfl) (by decide +kernel) rfl (Nat.le_of_ble_eq_true rfl) _ (ent_pad 0 rfl) (l_X8_finds g _ _ _ H) (fun v5 h4 H hzv5 => ?_)
    exact wm_iret (by decide +kernel) ⟨.int, rfl, rfl⟩ H
  · replace H := H.2 c3
    refine wm_iload_n 3 10 (by decide +kernel) rfl rfl ?_
    refine wm_if_ge 13 20 (by decide +kernel : decode cX8_reach 10 = .ok (.ifCond .ge 10, 3)) (by decide) rfl (fun c6 => ?_) (fun c6 => ?_)
    · replace H := H.1 c6
      refine wm_aload_n 0 21 (by decide +kernel) rfl rfl ?_
      refine wm_iload_n 1 22 (by decide +kernel) rfl rfl ?_
      refine wm_iload_n 2 23 (by decide +kernel) rfl rfl ?_
      refine wm_callVv mX8_findsGains 2 8 [_, _] [] _ _ 26 mo_X8_findsGains np_X8_findsGains ml_RX8_283 im_X8_findsGains se_X8_findsGains (by decide +kernel) (by decide +kernel) rfl rfl rfl (Nat.le_of_ble_eq_true rfl) (by decide +kernel) rfl (Nat.le_of_ble_eq_true rfl) _ (ent_pad 3 rfl) (l_X8_findsGains g _ _ _ _ H) (fun h7 H => ?_)
      refine wm_iload_n 3 27 (by decide +kernel) rfl rfl ?_
      refine wm_if_le 30 51 (by decide +kernel : decode cX8_reach 27 = .ok (.ifCond .le 24, 3)) (by decide) rfl (fun c8 => ?_) (fun c8 => ?_)
      · replace H := H.1 c8
        refine wm_mask [true, false, false, true, false, false, false, false, false, false] [some _, none, none, some _, none, none, none, none, none, none] rfl ?_
        exact l_X8_reach_J51 g _ _  _ H
      · replace H := H.2 c8
        refine wm_aload_n 0 31 (by decide +kernel) rfl rfl ?_
        refine wm_aload_n 0 32 (by decide +kernel) rfl rfl ?_
        refine wm_getr 8 24 20 137 35 fl_RX8_67 (by decide +kernel) rfl (by decide +kernel) rfl rfl (by decide) ?_
        refine wm_bipush 121 37 (by decide +kernel : decode cX8_reach 35 = .ok (.bipush 121, 2)) rfl (by decide +kernel) ?_
        refine wm_callVi mX8_sumOf 2 8 [_, _] [] _ _ 40 mo_X8_sumOf np_X8_sumOf ml_RX8_117 im_X8_sumOf se_X8_sumOf (by decide +kernel) (by decide +kernel) rfl rfl rfl (Nat.le_of_ble_eq_true rfl) (by decide +kernel) rfl (Nat.le_of_ble_eq_true rfl) _ (ent_pad 2 rfl) (l_X8_sumOf g _ _ (by decide +kernel) _ _ H) (fun v24 h23 H hzv24 => ?_)
        refine wm_if_ne 43 51 (by decide +kernel : decode cX8_reach 40 = .ok (.ifCond .ne 11, 3)) (by decide) rfl (fun c25 => ?_) (fun c25 => ?_)
        · replace H := H.2 c25
          refine wm_mask [true, false, false, true, false, false, false, false, false, false] [some _, none, none, some _, none, none, none, none, none, none] rfl ?_
          exact l_X8_reach_J51 g _ _  _ H
        · replace H := H.1 c25
          refine wm_aload_n 0 44 (by decide +kernel) rfl rfl ?_
          refine wm_ldcw (-1000000004) 47 co_RX8_257 (by decide +kernel) rfl ?_
          refine wm_callVi mX8_finds 1 8 [_] [] _ _ 50 mo_X8_finds np_X8_finds ml_RX8_129 im_X8_finds se_X8_finds (by decide +kernel) (by decide +kernel) rfl rfl rfl (Nat.le_of_ble_eq_true rfl) (by decide +kernel) rfl (Nat.le_of_ble_eq_true rfl) _ (ent_pad 0 rfl) (l_X8_finds g _ _ _ H) (fun v27 h26 H hzv27 => ?_)
          exact wm_iret (by decide +kernel) ⟨.int, rfl, rfl⟩ H
    · replace H := H.2 c6
      refine wm_aload_n 0 14 (by decide +kernel) rfl rfl ?_
      refine wm_ldc (-1000000001) 16 co_RX8_96 (by decide +kernel) rfl ?_
      refine wm_callVi mX8_finds 1 8 [_] [] _ _ 19 mo_X8_finds np_X8_finds ml_RX8_129 im_X8_finds se_X8_finds (by decide +kernel) (by decide +kernel) rfl rfl rfl (Nat.le_of_ble_eq_true rfl) (by decide +kernel) rfl (Nat.le_of_ble_eq_true rfl) _ (ent_pad 0 rfl) (l_X8_finds g _ _ _ H) (fun v29 h28 H hzv29 => ?_)
      exact wm_iret (by decide +kernel) ⟨.int, rfl, rfl⟩ H
def f_X8_feed_L41 (x1 : Int32)  (Q : Int32 → HP → Prop) : Nat → Int32 → HP → Prop
  | 0, _, _ => False
  | n + 1, x3, h =>
    (((x3 < 0) →
      Q (gi h 117 26) h) ∧
     (¬ (x3 < 0) →
      vp_in (gi h 117 26) 120 ∧
      ∀ h8 : HP, h8 = si h 138 (ix (gi h 117 26)) ((x1 >>> ((8 * x3) &&& 31)) &&& 255) →
      ∀ h9 : HP, h9 = si h8 117 26 ((gi h8 117 26) + 1) →
      ∀ x3_10 : Int32, x3_10 = (x3 + (-1)) →
      f_X8_feed_L41 x1 Q n x3_10 h9))
def f_X8_feed (x1 : Int32) (x2 : Int32) (h : HP) (Q : Int32 → HP → Prop) : Prop :=
  f_X8_in ((x2 : Int32).toInt64) (1 : Int64) (4 : Int64) h (fun v2 h1 =>
  (((v2 = 0) →
    f_X8_finds (-1000000001 : Int32) h1 (fun v15 h14 =>
    Q v15 h14)) ∧
   (¬ (v2 = 0) →
    (((((gi h1 117 26) + x2) ≤ 120) →
      ∀ x3_5 : Int32, x3_5 = (x2 - 1) →
      ∃ n11, f_X8_feed_L41 x1
        Q n11 x3_5 h1) ∧
     (¬ (((gi h1 117 26) + x2) ≤ 120) →
      f_X8_finds (-1000000002 : Int32) h1 (fun v13 h12 =>
      Q v13 h12))))))
set_option maxRecDepth 20000 in
theorem l_X8_feed_L41 (g : GE) (x1 : Int32)   (Q : Int32 → HP → Prop)  : ∀ (n : Nat) (x3 : Int32) (h : HP), f_X8_feed_L41 x1 Q n x3 h → Wm g mX8_feed 41 [some (.ref 117), some (.int x1), none, some (.int x3)] [] h (qi Q) := by
  intro n
  induction n with
  | zero => intro x3 h H; exact H.elim
  | succ n ih =>
    intro x3 h H
    unfold f_X8_feed_L41 at H
    refine wm_iload_n 3 42 (by decide +kernel) rfl rfl ?_
    refine wm_if_lt 45 80 (by decide +kernel : decode cX8_feed 42 = .ok (.ifCond .lt 38, 3)) (by decide) rfl (fun c6 => ?_) (fun c6 => ?_)
    · replace H := H.1 c6
      refine wm_aload_n 0 81 (by decide +kernel) rfl rfl ?_
      refine wm_geti 8 26 84 fl_RX8_299 (by decide +kernel) rfl (by decide +kernel) rfl ?_
      exact wm_iret (by decide +kernel) ⟨.int, rfl, rfl⟩ H
    · replace H := H.2 c6
      refine wm_aload_n 0 46 (by decide +kernel) rfl rfl ?_
      refine wm_getr 8 25 21 138 49 fl_RX8_70 (by decide +kernel) rfl (by decide +kernel) rfl rfl (by decide) ?_
      refine wm_aload_n 0 50 (by decide +kernel) rfl rfl ?_
      refine wm_geti 8 26 53 fl_RX8_299 (by decide +kernel) rfl (by decide +kernel) rfl ?_
      refine wm_iload_n 1 54 (by decide +kernel) rfl rfl ?_
      refine wm_bipush 8 56 (by decide +kernel : decode cX8_feed 54 = .ok (.bipush 8, 2)) rfl (by decide +kernel) ?_
      refine wm_iload_n 3 57 (by decide +kernel) rfl rfl ?_
      refine wm_imul 58 (by decide +kernel) rfl ?_
      refine wm_ishr 59 (by decide +kernel) rfl ?_
      refine wm_sipush 255 62 (by decide +kernel : decode cX8_feed 59 = .ok (.sipush 255, 3)) rfl (by decide +kernel) ?_
      refine wm_iand 63 (by decide +kernel) rfl ?_
      obtain ⟨o7, H⟩ := H
      replace H := H _ rfl
      refine wm_iast 120 64 (by decide +kernel) rfl (by decide +kernel) (by decide +kernel) o7 ?_
      refine wm_aload_n 0 65 (by decide +kernel) rfl rfl ?_
      refine wm_dup 66 (by decide +kernel) rfl rfl ?_
      refine wm_geti 8 26 69 fl_RX8_299 (by decide +kernel) rfl (by decide +kernel) rfl ?_
      refine wm_iconst 1 70 (by decide +kernel : decode cX8_feed 69 = .ok (.iconst 1, 1)) rfl (by decide +kernel) ?_
      refine wm_iadd 71 (by decide +kernel) rfl ?_
      replace H := H _ rfl
      refine wm_puti 8 26 74 fl_RX8_299 (by decide +kernel) rfl (by decide +kernel) rfl rfl ⟨rfl, rfl⟩ ?_
      replace H := H _ rfl
      refine wm_iinc 3 (_ + (-1)) 77 [some _, some _, none, some _] (by decide +kernel : decode cX8_feed 74 = .ok (.iinc 3 (-1), 3)) rfl (by decide +kernel) rfl (ofI_eq (by decide +kernel)) (okS_spec rfl) rfl ?_
      refine wm_goto 41 (by decide +kernel : decode cX8_feed 77 = .ok (.goto (-36), 3)) (by decide) ?_
      exact ih _ _ H
set_option maxRecDepth 20000 in
theorem l_X8_feed (g : GE) (x1 : Int32) (x2 : Int32)  (h : HP) (Q : Int32 → HP → Prop) (H : f_X8_feed x1 x2 h Q) : Wm g mX8_feed 0 [some (.ref 117), some (.int x1), some (.int x2), none] [] h (qi Q) := by
  unfold f_X8_feed at H
  refine wm_iload_n 2 1 (by decide +kernel) rfl rfl ?_
  refine wm_i2l 2 (by decide +kernel) rfl ?_
  refine wm_lconst 1 3 (by decide +kernel : decode cX8_feed 2 = .ok (.lconst 1, 1)) rfl (by decide +kernel) ?_
  refine wm_ldc2 4 6 cl_RX8_297 (by decide +kernel) rfl ?_
  refine wm_callSi mX8_in 3 [_, _, _] [] _ _ 9 mo_X8_in np_X8_in ml_RX8_101 sc_X8_in (by decide +kernel) (by decide +kernel) rfl rfl rfl (Nat.le_of_ble_eq_true rfl) (Nat.le_of_ble_eq_true rfl) _ (ent_pad 0 rfl) (l_X8_in g _ _ _ _ _ H) (fun v2 h1 H hzv2 => ?_)
  refine wm_if_ne 12 19 (by decide +kernel : decode cX8_feed 9 = .ok (.ifCond .ne 10, 3)) (by decide) rfl (fun c3 => ?_) (fun c3 => ?_)
  · replace H := H.2 c3
    refine wm_aload_n 0 20 (by decide +kernel) rfl rfl ?_
    refine wm_geti 8 26 23 fl_RX8_299 (by decide +kernel) rfl (by decide +kernel) rfl ?_
    refine wm_iload_n 2 24 (by decide +kernel) rfl rfl ?_
    refine wm_iadd 25 (by decide +kernel) rfl ?_
    refine wm_bipush 120 27 (by decide +kernel : decode cX8_feed 25 = .ok (.bipush 120, 2)) rfl (by decide +kernel) ?_
    refine wm_icmp_le 30 37 (by decide +kernel : decode cX8_feed 27 = .ok (.if_icmp .le 10, 3)) (by decide) rfl (fun c4 => ?_) (fun c4 => ?_)
    · replace H := H.1 c4
      refine wm_iload_n 2 38 (by decide +kernel) rfl rfl ?_
      refine wm_iconst 1 39 (by decide +kernel : decode cX8_feed 38 = .ok (.iconst 1, 1)) rfl (by decide +kernel) ?_
      refine wm_isub 40 (by decide +kernel) rfl ?_
      replace H := H _ rfl
      refine wm_istore_n 3 41 [some _, some _, some _, some _] (by decide +kernel) rfl (by decide +kernel) (okS_spec rfl) rfl ?_
      obtain ⟨n11, H⟩ := H
      refine wm_mask [true, true, false, true] [some _, some _, none, some _] rfl ?_
      refine l_X8_feed_L41 g _ _  _ _ _ H
    · replace H := H.2 c4
      refine wm_aload_n 0 31 (by decide +kernel) rfl rfl ?_
      refine wm_ldc (-1000000002) 33 co_RX8_133 (by decide +kernel) rfl ?_
      refine wm_callVi mX8_finds 1 8 [_] [] _ _ 36 mo_X8_finds np_X8_finds ml_RX8_129 im_X8_finds se_X8_finds (by decide +kernel) (by decide +kernel) rfl rfl rfl (Nat.le_of_ble_eq_true rfl) (by decide +kernel) rfl (Nat.le_of_ble_eq_true rfl) _ (ent_pad 0 rfl) (l_X8_finds g _ _ _ H) (fun v13 h12 H hzv13 => ?_)
      exact wm_iret (by decide +kernel) ⟨.int, rfl, rfl⟩ H
  · replace H := H.1 c3
    refine wm_aload_n 0 13 (by decide +kernel) rfl rfl ?_
    refine wm_ldc (-1000000001) 15 co_RX8_96 (by decide +kernel) rfl ?_
    refine wm_callVi mX8_finds 1 8 [_] [] _ _ 18 mo_X8_finds np_X8_finds ml_RX8_129 im_X8_finds se_X8_finds (by decide +kernel) (by decide +kernel) rfl rfl rfl (Nat.le_of_ble_eq_true rfl) (by decide +kernel) rfl (Nat.le_of_ble_eq_true rfl) _ (ent_pad 0 rfl) (l_X8_finds g _ _ _ H) (fun v15 h14 H hzv15 => ?_)
    exact wm_iret (by decide +kernel) ⟨.int, rfl, rfl⟩ H
def f_X8_wipe  (h : HP) (Q : Int32 → HP → Prop) : Prop :=
  ∀ x1_1 : Int32, x1_1 = (gi h 117 26) →
  ∀ h2 : HP, h2 = si h 117 26 0 →
  Q x1_1 h2
set_option maxRecDepth 20000 in
theorem l_X8_wipe (g : GE)   (h : HP) (Q : Int32 → HP → Prop) (H : f_X8_wipe  h Q) : Wm g mX8_wipe 0 [some (.ref 117), none] [] h (qi Q) := by
  unfold f_X8_wipe at H
  refine wm_aload_n 0 1 (by decide +kernel) rfl rfl ?_
  refine wm_geti 8 26 4 fl_RX8_299 (by decide +kernel) rfl (by decide +kernel) rfl ?_
  replace H := H _ rfl
  refine wm_istore_n 1 5 [some _, some _] (by decide +kernel) rfl (by decide +kernel) (okS_spec rfl) rfl ?_
  refine wm_aload_n 0 6 (by decide +kernel) rfl rfl ?_
  refine wm_iconst 0 7 (by decide +kernel : decode cX8_wipe 6 = .ok (.iconst 0, 1)) rfl (by decide +kernel) ?_
  replace H := H _ rfl
  refine wm_puti 8 26 10 fl_RX8_299 (by decide +kernel) rfl (by decide +kernel) rfl rfl ⟨rfl, rfl⟩ ?_
  refine wm_iload_n 1 11 (by decide +kernel) rfl rfl ?_
  exact wm_iret (by decide +kernel) ⟨.int, rfl, rfl⟩ H
def f_X8_byteAt (x1 : Int32) (h : HP) (Q : Int32 → HP → Prop) : Prop :=
  (¬ ((gi h 117 26) ≤ x1) → vp_in x1 120) ∧
  Q (if (gi h 117 26) ≤ x1 then ((-1 : Int32) : Int32) else (gi h 138 (ix x1))) h
set_option maxRecDepth 20000 in
theorem l_X8_byteAt (g : GE) (x1 : Int32)  (h : HP) (Q : Int32 → HP → Prop) (H : f_X8_byteAt x1 h Q) : Wm g mX8_byteAt 0 [some (.ref 117), some (.int x1)] [] h (qi Q) := by
  unfold f_X8_byteAt at H
  refine wm_iload_n 1 1 (by decide +kernel) rfl rfl ?_
  refine wm_aload_n 0 2 (by decide +kernel) rfl rfl ?_
  refine wm_geti 8 26 5 fl_RX8_299 (by decide +kernel) rfl (by decide +kernel) rfl ?_
  obtain ⟨D3b, H⟩ := H
  refine' wm_dia (pcJ := 18) (fun kt kf => wm_icmp_ge 8 17 (by decide +kernel : decode cX8_byteAt 5 = .ok (.if_icmp .ge 12, 3)) (by decide) rfl kt kf) ?D3k (fun kj c1 => ?D3t) (fun kj c1 => ?D3f)
  case D3t =>
    refine wm_iconst (-1) 18 (by decide +kernel : decode cX8_byteAt 17 = .ok (.iconst (-1), 1)) rfl (by decide +kernel) ?_
    exact kj
  case D3f =>
    have H := D3b c1
    refine wm_aload_n 0 9 (by decide +kernel) rfl rfl ?_
    refine wm_getr 8 25 21 138 12 fl_RX8_70 (by decide +kernel) rfl (by decide +kernel) rfl rfl (by decide) ?_
    refine wm_iload_n 1 13 (by decide +kernel) rfl rfl ?_
    have o2 := H
    refine wm_iald 120 14 (by decide +kernel) rfl (by decide +kernel) (by decide +kernel) o2 ?_
    refine wm_goto 18 (by decide +kernel : decode cX8_byteAt 14 = .ok (.goto 4, 3)) (by decide) ?_
    exact kj
  case D3k =>
    exact wm_iret (by decide +kernel) ⟨.int, rfl, rfl⟩ H
def f_X8_isWordFrom_J71 (x1 : Int32) (x3 : Int32) (xs0 : Int32) (xs1 : Int32) (k22 : Int32 → Int32 → HP → Prop) (Q : Int32 → HP → Prop) (h : HP) : Prop :=
  ∀ x2_10 : Int32, x2_10 = (if xs1 = xs0 then (1 : Int32) else 0) →
  ∀ x3_11 : Int32, x3_11 = (x3 + 1) →
  k22 x2_10 x3_11 h
def f_X8_isWordFrom_L22 (x1 : Int32)  (Q : Int32 → HP → Prop) : Nat → Int32 → Int32 → HP → Prop
  | 0, _, _, _ => False
  | n + 1, x2, x3, h =>
    (((8 ≤ x3) →
      Q x2 h) ∧
     (¬ (8 ≤ x3) →
      (((x2 = 0) →
        Q x2 h) ∧
       (¬ (x2 = 0) →
        vp_in ((8 * x1) + x3) 128 ∧
        ((((gi h 117 27) ≤ ((gi h 117 28) + x3)) →
          f_X8_isWordFrom_J71 x1 x3 32 (gi h 139 (ix ((8 * x1) + x3))) (f_X8_isWordFrom_L22 x1 Q n) Q h) ∧
         (¬ ((gi h 117 27) ≤ ((gi h 117 28) + x3)) →
          f_X8_byteAt ((gi h 117 28) + x3) h (fun v13 h12 =>
          f_X8_isWordFrom_J71 x1 x3 v13 (gi h 139 (ix ((8 * x1) + x3))) (f_X8_isWordFrom_L22 x1 Q n) Q h12)))))))
def f_X8_isWordFrom (x1 : Int32) (h : HP) (Q : Int32 → HP → Prop) : Prop :=
  ∀ x2_3 : Int32, x2_3 = (if 8 < ((gi h 117 27) - (gi h 117 28)) then (0 : Int32) else 1) →
  ∃ n14, f_X8_isWordFrom_L22 x1
    Q n14 x2_3 0 h
set_option maxRecDepth 20000 in
theorem l_X8_isWordFrom_J71 (g : GE) (x1 : Int32) (x3 : Int32) (xs0 : Int32) (xs1 : Int32)  (k22 : Int32 → Int32 → HP → Prop) (Q : Int32 → HP → Prop) (hk22 : ∀ (x2 : Int32) (x3 : Int32) (hzx2 : narrow .boolean (.int x2) = .int x2) (h : HP), k22 x2 x3 h → Wm g mX8_isWordFrom 22 [some (.ref 117), some (.int x1), some (.int x2), some (.int x3)] [] h (qi Q)) (h : HP) (H : f_X8_isWordFrom_J71 x1 x3 xs0 xs1 k22 Q h) : Wm g mX8_isWordFrom 71 [some (.ref 117), some (.int x1), none, some (.int x3)] [(.int xs0), (.int xs1)] h (qi Q) := by
  unfold f_X8_isWordFrom_J71 at H
  refine' wm_dia (pcJ := 79) (fun kt kf => wm_icmp_ne 74 78 (by decide +kernel : decode cX8_isWordFrom 71 = .ok (.if_icmp .ne 7, 3)) (by decide) rfl kf kt) ?D9k (fun kj c1 => ?D9t) (fun kj c1 => ?D9f)
  case D9t =>
    refine wm_iconst 1 75 (by decide +kernel : decode cX8_isWordFrom 74 = .ok (.iconst 1, 1)) rfl (by decide +kernel) ?_
    refine wm_goto 79 (by decide +kernel : decode cX8_isWordFrom 75 = .ok (.goto 4, 3)) (by decide) ?_
    exact kj
  case D9f =>
    refine wm_iconst 0 79 (by decide +kernel : decode cX8_isWordFrom 78 = .ok (.iconst 0, 1)) rfl (by decide +kernel) ?_
    exact kj
  case D9k =>
    replace H := H _ rfl
    refine wm_istore_n 2 80 [some _, some _, some _, some _] (by decide +kernel) rfl (by decide +kernel) (okS_spec rfl) rfl ?_
    replace H := H _ rfl
    refine wm_iinc 3 (_ + 1) 83 [some _, some _, some _, some _] (by decide +kernel : decode cX8_isWordFrom 80 = .ok (.iinc 3 1, 3)) rfl (by decide +kernel) rfl (ofI_eq (by decide +kernel)) (okS_spec rfl) rfl ?_
    refine wm_goto 22 (by decide +kernel : decode cX8_isWordFrom 83 = .ok (.goto (-61), 3)) (by decide) ?_
    exact hk22 _ _ (nb_ite (by decide +kernel) (by decide +kernel)) _ H
set_option maxRecDepth 20000 in
theorem l_X8_isWordFrom_L22 (g : GE) (x1 : Int32)   (Q : Int32 → HP → Prop)  : ∀ (n : Nat) (x2 : Int32) (x3 : Int32) (hzx2 : narrow .boolean (.int x2) = .int x2) (h : HP), f_X8_isWordFrom_L22 x1 Q n x2 x3 h → Wm g mX8_isWordFrom 22 [some (.ref 117), some (.int x1), some (.int x2), some (.int x3)] [] h (qi Q) := by
  intro n
  induction n with
  | zero => intro x2 x3 hzx2 h H; exact H.elim
  | succ n ih =>
    intro x2 x3 hzx2 h H
    unfold f_X8_isWordFrom_L22 at H
    refine wm_iload_n 3 23 (by decide +kernel) rfl rfl ?_
    refine wm_bipush 8 25 (by decide +kernel : decode cX8_isWordFrom 23 = .ok (.bipush 8, 2)) rfl (by decide +kernel) ?_
    refine wm_icmp_ge 28 86 (by decide +kernel : decode cX8_isWordFrom 25 = .ok (.if_icmp .ge 61, 3)) (by decide) rfl (fun c4 => ?_) (fun c4 => ?_)
    · replace H := H.1 c4
      refine wm_iload_n 2 87 (by decide +kernel) rfl rfl ?_
      exact wm_iret (by decide +kernel) ⟨.boolean, rfl, hzx2⟩ H
    · replace H := H.2 c4
      refine wm_iload_n 2 29 (by decide +kernel) rfl rfl ?_
      refine wm_if_eq 32 86 (by decide +kernel : decode cX8_isWordFrom 29 = .ok (.ifCond .eq 57, 3)) (by decide) rfl (fun c5 => ?_) (fun c5 => ?_)
      · replace H := H.1 c5
        refine wm_iload_n 2 87 (by decide +kernel) rfl rfl ?_
        exact wm_iret (by decide +kernel) ⟨.boolean, rfl, hzx2⟩ H
      · replace H := H.2 c5
        refine wm_aload_n 0 33 (by decide +kernel) rfl rfl ?_
        refine wm_getr 8 31 22 139 36 fl_RX8_73 (by decide +kernel) rfl (by decide +kernel) rfl rfl (by decide) ?_
        refine wm_bipush 8 38 (by decide +kernel : decode cX8_isWordFrom 36 = .ok (.bipush 8, 2)) rfl (by decide +kernel) ?_
        refine wm_iload_n 1 39 (by decide +kernel) rfl rfl ?_
        refine wm_imul 40 (by decide +kernel) rfl ?_
        refine wm_iload_n 3 41 (by decide +kernel) rfl rfl ?_
        refine wm_iadd 42 (by decide +kernel) rfl ?_
        obtain ⟨o6, H⟩ := H
        refine wm_cald 128 43 (by decide +kernel) rfl (by decide +kernel) (by decide +kernel) o6 ?_
        refine wm_aload_n 0 44 (by decide +kernel) rfl rfl ?_
        refine wm_geti 8 28 47 fl_RX8_305 (by decide +kernel) rfl (by decide +kernel) rfl ?_
        refine wm_iload_n 3 48 (by decide +kernel) rfl rfl ?_
        refine wm_iadd 49 (by decide +kernel) rfl ?_
        refine wm_aload_n 0 50 (by decide +kernel) rfl rfl ?_
        refine wm_geti 8 27 53 fl_RX8_302 (by decide +kernel) rfl (by decide +kernel) rfl ?_
        refine wm_icmp_ge 56 69 (by decide +kernel : decode cX8_isWordFrom 53 = .ok (.if_icmp .ge 16, 3)) (by decide) rfl (fun c7 => ?_) (fun c7 => ?_)
        · replace H := H.1 c7
          refine wm_bipush 32 71 (by decide +kernel : decode cX8_isWordFrom 69 = .ok (.bipush 32, 2)) rfl (by decide +kernel) ?_
          refine wm_mask [true, true, false, true] [some _, some _, none, some _] rfl ?_
          exact l_X8_isWordFrom_J71 g _ _ _ _ _ _ (ih) _ H
        · replace H := H.2 c7
          refine wm_aload_n 0 57 (by decide +kernel) rfl rfl ?_
          refine wm_aload_n 0 58 (by decide +kernel) rfl rfl ?_
          refine wm_geti 8 28 61 fl_RX8_305 (by decide +kernel) rfl (by decide +kernel) rfl ?_
          refine wm_iload_n 3 62 (by decide +kernel) rfl rfl ?_
          refine wm_iadd 63 (by decide +kernel) rfl ?_
          refine wm_callVi mX8_byteAt 1 8 [_] [_] _ _ 66 mo_X8_byteAt np_X8_byteAt ml_RX8_308 im_X8_byteAt se_X8_byteAt (by decide +kernel) (by decide +kernel) rfl rfl rfl (Nat.le_of_ble_eq_true rfl) (by decide +kernel) rfl (Nat.le_of_ble_eq_true rfl) _ (ent_pad 0 rfl) (l_X8_byteAt g _ _ _ H) (fun v13 h12 H hzv13 => ?_)
          refine wm_goto 71 (by decide +kernel : decode cX8_isWordFrom 66 = .ok (.goto 5, 3)) (by decide) ?_
          refine wm_mask [true, true, false, true] [some _, some _, none, some _] rfl ?_
          exact l_X8_isWordFrom_J71 g _ _ _ _ _ _ (ih) _ H
set_option maxRecDepth 20000 in
theorem l_X8_isWordFrom (g : GE) (x1 : Int32)  (h : HP) (Q : Int32 → HP → Prop) (H : f_X8_isWordFrom x1 h Q) : Wm g mX8_isWordFrom 0 [some (.ref 117), some (.int x1), none, none] [] h (qi Q) := by
  unfold f_X8_isWordFrom at H
  refine wm_aload_n 0 1 (by decide +kernel) rfl rfl ?_
  refine wm_geti 8 27 4 fl_RX8_302 (by decide +kernel) rfl (by decide +kernel) rfl ?_
  refine wm_aload_n 0 5 (by decide +kernel) rfl rfl ?_
  refine wm_geti 8 28 8 fl_RX8_305 (by decide +kernel) rfl (by decide +kernel) rfl ?_
  refine wm_isub 9 (by decide +kernel) rfl ?_
  refine wm_bipush 8 11 (by decide +kernel : decode cX8_isWordFrom 9 = .ok (.bipush 8, 2)) rfl (by decide +kernel) ?_
  refine' wm_dia (pcJ := 19) (fun kt kf => wm_icmp_gt 14 18 (by decide +kernel : decode cX8_isWordFrom 11 = .ok (.if_icmp .gt 7, 3)) (by decide) rfl kt kf) ?D2k (fun kj c1 => ?D2t) (fun kj c1 => ?D2f)
  case D2t =>
    refine wm_iconst 0 19 (by decide +kernel : decode cX8_isWordFrom 18 = .ok (.iconst 0, 1)) rfl (by decide +kernel) ?_
    exact kj
  case D2f =>
    refine wm_iconst 1 15 (by decide +kernel : decode cX8_isWordFrom 14 = .ok (.iconst 1, 1)) rfl (by decide +kernel) ?_
    refine wm_goto 19 (by decide +kernel : decode cX8_isWordFrom 15 = .ok (.goto 4, 3)) (by decide) ?_
    exact kj
  case D2k =>
    replace H := H _ rfl
    refine wm_istore_n 2 20 [some _, some _, some _, none] (by decide +kernel) rfl (by decide +kernel) (okS_spec rfl) rfl ?_
    refine wm_iconst 0 21 (by decide +kernel : decode cX8_isWordFrom 20 = .ok (.iconst 0, 1)) rfl (by decide +kernel) ?_
    refine wm_istore_n 3 22 [some _, some _, some _, some _] (by decide +kernel) rfl (by decide +kernel) (okS_spec rfl) rfl ?_
    obtain ⟨n14, H⟩ := H
    refine l_X8_isWordFrom_L22 g _ _  _ _ _ (nb_ite (by decide +kernel) (by decide +kernel)) _ H
def f_X8_next_L0  (k26 : HP → Prop) (Q : HP → Prop) : Nat → HP → Prop
  | 0, _ => False
  | n + 1, h =>
    f_X8_byteAt (gi h 117 27) h (fun v2 h1 =>
    (((v2 = 32) →
      ∀ h4 : HP, h4 = si h1 117 27 ((gi h1 117 27) + 1) →
      f_X8_next_L0 k26 Q n h4) ∧
     (¬ (v2 = 32) →
      k26 h1)))
def f_X8_next_J271 (xs0 : Int32) (k213 : HP → Prop) (Q : HP → Prop) (h : HP) : Prop :=
  ∀ h28 : HP, h28 = si h 117 30 xs0 →
  ∀ h29 : HP, h29 = si h28 117 27 ((gi h28 117 27) + 1) →
  k213 h29
def f_X8_next_L213  (k287 : HP → Prop) (Q : HP → Prop) : Nat → HP → Prop
  | 0, _ => False
  | n + 1, h =>
    f_X8_byteAt (gi h 117 27) h (fun v21 h20 =>
    f_X8_in ((v21 : Int32).toInt64) (48 : Int64) (57 : Int64) h20 (fun v23 h22 =>
    (((v23 = 0) →
      k287 h22) ∧
     (¬ (v23 = 0) →
      ((((gi h22 117 30) ≤ 999) →
        f_X8_byteAt (gi h22 117 27) h22 (fun v27 h26 =>
        f_X8_next_J271 (((10 * (gi h22 117 30)) + v27) - 48) (f_X8_next_L213 k287 Q n) Q h26)) ∧
       (¬ ((gi h22 117 30) ≤ 999) →
        f_X8_next_J271 (gi h22 117 30) (f_X8_next_L213 k287 Q n) Q h22))))))
def f_X8_next_J194 (x1 : Int32)  (Q : HP → Prop) (h : HP) : Prop :=
  f_X8_in ((x1 : Int32).toInt64) (48 : Int64) (57 : Int64) h (fun v17 h16 =>
  (((v17 = 0) →
    Q h16) ∧
   (¬ (v17 = 0) →
    ∀ h19 : HP, h19 = si h16 117 30 0 →
    ∃ n34, f_X8_next_L213 
      (fun h30 =>
        ∀ h33 : HP, h33 = si h30 117 29 (if (gi h30 117 30) ≤ 999 then (1 : Int32) else (-2 : Int32)) →
        Q h33)
      Q n34  h19)))
def f_X8_next_L123 (x1 : Int32) (k157 : HP → Prop) (Q : HP → Prop) : Nat → HP → Prop
  | 0, _ => False
  | n + 1, h =>
    f_X8_byteAt (gi h 117 27) h (fun v36 h35 =>
    f_X8_in ((v36 : Int32).toInt64) (97 : Int64) (122 : Int64) h35 (fun v38 h37 =>
    (((v38 = 0) →
      k157 h37) ∧
     (¬ (v38 = 0) →
      ∀ h40 : HP, h40 = si h37 117 27 ((gi h37 117 27) + 1) →
      f_X8_next_L123 x1 k157 Q n h40))))
def f_X8_next_L159 (x1 : Int32) (k194 : HP → Prop) (Q : HP → Prop) : Nat → Int32 → HP → Prop
  | 0, _, _ => False
  | n + 1, x2, h =>
    (((16 ≤ x2) →
      k194 h) ∧
     (¬ (16 ≤ x2) →
      f_X8_isWordFrom x2 h (fun v44 h43 =>
      ∀ h47 : HP, h47 = si h43 117 29 (if v44 = 0 then ((gi h43 117 29) : Int32) else (10 + x2)) →
      ∀ x2_48 : Int32, x2_48 = (x2 + 1) →
      f_X8_next_L159 x1 k194 Q n x2_48 h47)))
def f_X8_next_J109 (x1 : Int32)  (Q : HP → Prop) (h : HP) : Prop :=
  f_X8_in ((x1 : Int32).toInt64) (97 : Int64) (122 : Int64) h (fun v14 h13 =>
  (((v14 = 0) →
    f_X8_next_J194 x1  Q h13) ∧
   (¬ (v14 = 0) →
    ∃ n51, f_X8_next_L123 x1
      (fun h41 =>
        ∃ n50, f_X8_next_L159 x1
          (fun h49 =>
            f_X8_next_J194 x1  Q h49)
          Q n50 0 h41)
      Q n51  h13)))
def f_X8_next_J64 (x1 : Int32) (xs0 : Int32)  (Q : HP → Prop) (h : HP) : Prop :=
  ∀ h11 : HP, h11 = si h 117 29 xs0 →
  (((x1 < 0) →
    f_X8_next_J109 x1  Q h11) ∧
   (¬ (x1 < 0) →
    f_X8_in ((x1 : Int32).toInt64) (97 : Int64) (122 : Int64) h11 (fun v53 h52 =>
    (((v53 = 0) →
      f_X8_in ((x1 : Int32).toInt64) (48 : Int64) (57 : Int64) h52 (fun v56 h55 =>
      (((v56 = 0) →
        ∀ h58 : HP, h58 = si h55 117 27 ((gi h55 117 27) + 1) →
        f_X8_next_J109 x1  Q h58) ∧
       (¬ (v56 = 0) →
        f_X8_next_J109 x1  Q h55)))) ∧
     (¬ (v53 = 0) →
      f_X8_next_J109 x1  Q h52)))))
def f_X8_next  (h : HP) (Q : HP → Prop) : Prop :=
  ∃ n59, f_X8_next_L0 
    (fun h5 =>
      ∀ h6 : HP, h6 = si h5 117 28 (gi h5 117 27) →
      f_X8_byteAt (gi h6 117 27) h6 (fun v8 h7 =>
      (((0 ≤ v8) →
        (((v8 = 59) →
          f_X8_next_J64 v8 0  Q h7) ∧
         (¬ (v8 = 59) →
          f_X8_next_J64 v8 (-2 : Int32)  Q h7))) ∧
       (¬ (0 ≤ v8) →
        f_X8_next_J64 v8 (-1 : Int32)  Q h7))))
    Q n59  h
set_option maxRecDepth 20000 in
theorem l_X8_next_L0 (g : GE)   (k26 : HP → Prop) (Q : HP → Prop) (hk26 : ∀  (h : HP), k26  h → Wm g mX8_next 26 [some (.ref 117), none, none] [] h (qv Q)) : ∀ (n : Nat)  (h : HP), f_X8_next_L0 k26 Q n  h → Wm g mX8_next 0 [some (.ref 117), none, none] [] h (qv Q) := by
  intro n
  induction n with
  | zero => intro  h H; exact H.elim
  | succ n ih =>
    intro  h H
    unfold f_X8_next_L0 at H
    refine wm_aload_n 0 1 (by decide +kernel) rfl rfl ?_
    refine wm_aload_n 0 2 (by decide +kernel) rfl rfl ?_
    refine wm_geti 8 27 5 fl_RX8_302 (by decide +kernel) rfl (by decide +kernel) rfl ?_
    refine wm_callVi mX8_byteAt 1 8 [_] [] _ _ 8 mo_X8_byteAt np_X8_byteAt ml_RX8_308 im_X8_byteAt se_X8_byteAt (by decide +kernel) (by decide +kernel) rfl rfl rfl (Nat.le_of_ble_eq_true rfl) (by decide +kernel) rfl (Nat.le_of_ble_eq_true rfl) _ (ent_pad 0 rfl) (l_X8_byteAt g _ _ _ H) (fun v2 h1 H hzv2 => ?_)
    refine wm_bipush 32 10 (by decide +kernel : decode cX8_next 8 = .ok (.bipush 32, 2)) rfl (by decide +kernel) ?_
    refine wm_icmp_ne 13 26 (by decide +kernel : decode cX8_next 10 = .ok (.if_icmp .ne 16, 3)) (by decide) rfl (fun c3 => ?_) (fun c3 => ?_)
    · replace H := H.2 c3
      exact hk26 _ H
    · replace H := H.1 c3
      refine wm_aload_n 0 14 (by decide +kernel) rfl rfl ?_
      refine wm_dup 15 (by decide +kernel) rfl rfl ?_
      refine wm_geti 8 27 18 fl_RX8_302 (by decide +kernel) rfl (by decide +kernel) rfl ?_
      refine wm_iconst 1 19 (by decide +kernel : decode cX8_next 18 = .ok (.iconst 1, 1)) rfl (by decide +kernel) ?_
      refine wm_iadd 20 (by decide +kernel) rfl ?_
      replace H := H _ rfl
      refine wm_puti 8 27 23 fl_RX8_302 (by decide +kernel) rfl (by decide +kernel) rfl rfl ⟨rfl, rfl⟩ ?_
      refine wm_goto 0 (by decide +kernel : decode cX8_next 23 = .ok (.goto (-23), 3)) (by decide) ?_
      exact ih _ H
set_option maxRecDepth 20000 in
theorem l_X8_next_J271 (g : GE) (xs0 : Int32)  (k213 : HP → Prop) (Q : HP → Prop) (hk213 : ∀  (h : HP), k213  h → Wm g mX8_next 213 [some (.ref 117), none, none] [] h (qv Q)) (h : HP) (H : f_X8_next_J271 xs0 k213 Q h) : Wm g mX8_next 271 [some (.ref 117), none, none] [(.int xs0), (.ref 117)] h (qv Q) := by
  unfold f_X8_next_J271 at H
  replace H := H _ rfl
  refine wm_puti 8 30 274 fl_RX8_325 (by decide +kernel) rfl (by decide +kernel) rfl rfl ⟨rfl, rfl⟩ ?_
  refine wm_aload_n 0 275 (by decide +kernel) rfl rfl ?_
  refine wm_dup 276 (by decide +kernel) rfl rfl ?_
  refine wm_geti 8 27 279 fl_RX8_302 (by decide +kernel) rfl (by decide +kernel) rfl ?_
  refine wm_iconst 1 280 (by decide +kernel : decode cX8_next 279 = .ok (.iconst 1, 1)) rfl (by decide +kernel) ?_
  refine wm_iadd 281 (by decide +kernel) rfl ?_
  replace H := H _ rfl
  refine wm_puti 8 27 284 fl_RX8_302 (by decide +kernel) rfl (by decide +kernel) rfl rfl ⟨rfl, rfl⟩ ?_
  refine wm_goto 213 (by decide +kernel : decode cX8_next 284 = .ok (.goto (-71), 3)) (by decide) ?_
  exact hk213 _ H
set_option maxRecDepth 20000 in
theorem l_X8_next_L213 (g : GE)   (k287 : HP → Prop) (Q : HP → Prop) (hk287 : ∀  (h : HP), k287  h → Wm g mX8_next 287 [some (.ref 117), none, none] [] h (qv Q)) : ∀ (n : Nat)  (h : HP), f_X8_next_L213 k287 Q n  h → Wm g mX8_next 213 [some (.ref 117), none, none] [] h (qv Q) := by
  intro n
  induction n with
  | zero => intro  h H; exact H.elim
  | succ n ih =>
    intro  h H
    unfold f_X8_next_L213 at H
    refine wm_aload_n 0 214 (by decide +kernel) rfl rfl ?_
    refine wm_aload_n 0 215 (by decide +kernel) rfl rfl ?_
    refine wm_geti 8 27 218 fl_RX8_302 (by decide +kernel) rfl (by decide +kernel) rfl ?_
    refine wm_callVi mX8_byteAt 1 8 [_] [] _ _ 221 mo_X8_byteAt np_X8_byteAt ml_RX8_308 im_X8_byteAt se_X8_byteAt (by decide +kernel) (by decide +kernel) rfl rfl rfl (Nat.le_of_ble_eq_true rfl) (by decide +kernel) rfl (Nat.le_of_ble_eq_true rfl) _ (ent_pad 0 rfl) (l_X8_byteAt g _ _ _ H) (fun v21 h20 H hzv21 => ?_)
    refine wm_i2l 222 (by decide +kernel) rfl ?_
    refine wm_ldc2 48 225 cl_RX8_318 (by decide +kernel) rfl ?_
    refine wm_ldc2 57 228 cl_RX8_320 (by decide +kernel) rfl ?_
    refine wm_callSi mX8_in 3 [_, _, _] [] _ _ 231 mo_X8_in np_X8_in ml_RX8_101 sc_X8_in (by decide +kernel) (by decide +kernel) rfl rfl rfl (Nat.le_of_ble_eq_true rfl) (Nat.le_of_ble_eq_true rfl) _ (ent_pad 0 rfl) (l_X8_in g _ _ _ _ _ H) (fun v23 h22 H hzv23 => ?_)
    refine wm_if_eq 234 287 (by decide +kernel : decode cX8_next 231 = .ok (.ifCond .eq 56, 3)) (by decide) rfl (fun c24 => ?_) (fun c24 => ?_)
    · replace H := H.1 c24
      exact hk287 _ H
    · replace H := H.2 c24
      refine wm_aload_n 0 235 (by decide +kernel) rfl rfl ?_
      refine wm_aload_n 0 236 (by decide +kernel) rfl rfl ?_
      refine wm_geti 8 30 239 fl_RX8_325 (by decide +kernel) rfl (by decide +kernel) rfl ?_
      refine wm_sipush 999 242 (by decide +kernel : decode cX8_next 239 = .ok (.sipush 999, 3)) rfl (by decide +kernel) ?_
      refine wm_icmp_le 245 252 (by decide +kernel : decode cX8_next 242 = .ok (.if_icmp .le 10, 3)) (by decide) rfl (fun c25 => ?_) (fun c25 => ?_)
      · replace H := H.1 c25
        refine wm_bipush 10 254 (by decide +kernel : decode cX8_next 252 = .ok (.bipush 10, 2)) rfl (by decide +kernel) ?_
        refine wm_aload_n 0 255 (by decide +kernel) rfl rfl ?_
        refine wm_geti 8 30 258 fl_RX8_325 (by decide +kernel) rfl (by decide +kernel) rfl ?_
        refine wm_imul 259 (by decide +kernel) rfl ?_
        refine wm_aload_n 0 260 (by decide +kernel) rfl rfl ?_
        refine wm_aload_n 0 261 (by decide +kernel) rfl rfl ?_
        refine wm_geti 8 27 264 fl_RX8_302 (by decide +kernel) rfl (by decide +kernel) rfl ?_
        refine wm_callVi mX8_byteAt 1 8 [_] [_, _] _ _ 267 mo_X8_byteAt np_X8_byteAt ml_RX8_308 im_X8_byteAt se_X8_byteAt (by decide +kernel) (by decide +kernel) rfl rfl rfl (Nat.le_of_ble_eq_true rfl) (by decide +kernel) rfl (Nat.le_of_ble_eq_true rfl) _ (ent_pad 0 rfl) (l_X8_byteAt g _ _ _ H) (fun v27 h26 H hzv27 => ?_)
        refine wm_iadd 268 (by decide +kernel) rfl ?_
        refine wm_bipush 48 270 (by decide +kernel : decode cX8_next 268 = .ok (.bipush 48, 2)) rfl (by decide +kernel) ?_
        refine wm_isub 271 (by decide +kernel) rfl ?_
        exact l_X8_next_J271 g _ _ _ (ih) _ H
      · replace H := H.2 c25
        refine wm_aload_n 0 246 (by decide +kernel) rfl rfl ?_
        refine wm_geti 8 30 249 fl_RX8_325 (by decide +kernel) rfl (by decide +kernel) rfl ?_
        refine wm_goto 271 (by decide +kernel : decode cX8_next 249 = .ok (.goto 22, 3)) (by decide) ?_
        exact l_X8_next_J271 g _ _ _ (ih) _ H
set_option maxRecDepth 20000 in
theorem l_X8_next_J194 (g : GE) (x1 : Int32)   (Q : HP → Prop)  (h : HP) (H : f_X8_next_J194 x1  Q h) : Wm g mX8_next 194 [some (.ref 117), some (.int x1), none] [] h (qv Q) := by
  unfold f_X8_next_J194 at H
  refine wm_iload_n 1 195 (by decide +kernel) rfl rfl ?_
  refine wm_i2l 196 (by decide +kernel) rfl ?_
  refine wm_ldc2 48 199 cl_RX8_318 (by decide +kernel) rfl ?_
  refine wm_ldc2 57 202 cl_RX8_320 (by decide +kernel) rfl ?_
  refine wm_callSi mX8_in 3 [_, _, _] [] _ _ 205 mo_X8_in np_X8_in ml_RX8_101 sc_X8_in (by decide +kernel) (by decide +kernel) rfl rfl rfl (Nat.le_of_ble_eq_true rfl) (Nat.le_of_ble_eq_true rfl) _ (ent_pad 0 rfl) (l_X8_in g _ _ _ _ _ H) (fun v17 h16 H hzv17 => ?_)
  refine wm_if_eq 208 307 (by decide +kernel : decode cX8_next 205 = .ok (.ifCond .eq 102, 3)) (by decide) rfl (fun c18 => ?_) (fun c18 => ?_)
  · replace H := H.1 c18
    exact wm_vret (by decide +kernel) rfl H
  · replace H := H.2 c18
    refine wm_aload_n 0 209 (by decide +kernel) rfl rfl ?_
    refine wm_iconst 0 210 (by decide +kernel : decode cX8_next 209 = .ok (.iconst 0, 1)) rfl (by decide +kernel) ?_
    replace H := H _ rfl
    refine wm_puti 8 30 213 fl_RX8_325 (by decide +kernel) rfl (by decide +kernel) rfl rfl ⟨rfl, rfl⟩ ?_
    obtain ⟨n34, H⟩ := H
    refine wm_mask [true, false, false] [some _, none, none] rfl ?_
    refine l_X8_next_L213 g _ _ (fun h30 H => ?_) _ _ H
    · skip
      refine wm_aload_n 0 288 (by decide +kernel) rfl rfl ?_
      refine wm_aload_n 0 289 (by decide +kernel) rfl rfl ?_
      refine wm_geti 8 30 292 fl_RX8_325 (by decide +kernel) rfl (by decide +kernel) rfl ?_
      refine wm_sipush 999 295 (by decide +kernel : decode cX8_next 292 = .ok (.sipush 999, 3)) rfl (by decide +kernel) ?_
      refine' wm_dia (pcJ := 304) (fun kt kf => wm_icmp_le 298 303 (by decide +kernel : decode cX8_next 295 = .ok (.if_icmp .le 8, 3)) (by decide) rfl kt kf) ?D32k (fun kj c1 => ?D32t) (fun kj c1 => ?D32f)
      case D32t =>
        refine wm_iconst 1 304 (by decide +kernel : decode cX8_next 303 = .ok (.iconst 1, 1)) rfl (by decide +kernel) ?_
        exact kj
      case D32f =>
        refine wm_bipush (-2) 300 (by decide +kernel : decode cX8_next 298 = .ok (.bipush (-2), 2)) rfl (by decide +kernel) ?_
        refine wm_goto 304 (by decide +kernel : decode cX8_next 300 = .ok (.goto 4, 3)) (by decide) ?_
        exact kj
      case D32k =>
        replace H := H _ rfl
        refine wm_puti 8 29 307 fl_RX8_311 (by decide +kernel) rfl (by decide +kernel) rfl rfl ⟨rfl, rfl⟩ ?_
        exact wm_vret (by decide +kernel) rfl H
set_option maxRecDepth 20000 in
theorem l_X8_next_L123 (g : GE) (x1 : Int32)  (k157 : HP → Prop) (Q : HP → Prop) (hk157 : ∀  (h : HP), k157  h → Wm g mX8_next 157 [some (.ref 117), some (.int x1), none] [] h (qv Q)) : ∀ (n : Nat)  (h : HP), f_X8_next_L123 x1 k157 Q n  h → Wm g mX8_next 123 [some (.ref 117), some (.int x1), none] [] h (qv Q) := by
  intro n
  induction n with
  | zero => intro  h H; exact H.elim
  | succ n ih =>
    intro  h H
    unfold f_X8_next_L123 at H
    refine wm_aload_n 0 124 (by decide +kernel) rfl rfl ?_
    refine wm_aload_n 0 125 (by decide +kernel) rfl rfl ?_
    refine wm_geti 8 27 128 fl_RX8_302 (by decide +kernel) rfl (by decide +kernel) rfl ?_
    refine wm_callVi mX8_byteAt 1 8 [_] [] _ _ 131 mo_X8_byteAt np_X8_byteAt ml_RX8_308 im_X8_byteAt se_X8_byteAt (by decide +kernel) (by decide +kernel) rfl rfl rfl (Nat.le_of_ble_eq_true rfl) (by decide +kernel) rfl (Nat.le_of_ble_eq_true rfl) _ (ent_pad 0 rfl) (l_X8_byteAt g _ _ _ H) (fun v36 h35 H hzv36 => ?_)
    refine wm_i2l 132 (by decide +kernel) rfl ?_
    refine wm_ldc2 97 135 cl_RX8_314 (by decide +kernel) rfl ?_
    refine wm_ldc2 122 138 cl_RX8_316 (by decide +kernel) rfl ?_
    refine wm_callSi mX8_in 3 [_, _, _] [] _ _ 141 mo_X8_in np_X8_in ml_RX8_101 sc_X8_in (by decide +kernel) (by decide +kernel) rfl rfl rfl (Nat.le_of_ble_eq_true rfl) (Nat.le_of_ble_eq_true rfl) _ (ent_pad 0 rfl) (l_X8_in g _ _ _ _ _ H) (fun v38 h37 H hzv38 => ?_)
    refine wm_if_eq 144 157 (by decide +kernel : decode cX8_next 141 = .ok (.ifCond .eq 16, 3)) (by decide) rfl (fun c39 => ?_) (fun c39 => ?_)
    · replace H := H.1 c39
      exact hk157 _ H
    · replace H := H.2 c39
      refine wm_aload_n 0 145 (by decide +kernel) rfl rfl ?_
      refine wm_dup 146 (by decide +kernel) rfl rfl ?_
      refine wm_geti 8 27 149 fl_RX8_302 (by decide +kernel) rfl (by decide +kernel) rfl ?_
      refine wm_iconst 1 150 (by decide +kernel : decode cX8_next 149 = .ok (.iconst 1, 1)) rfl (by decide +kernel) ?_
      refine wm_iadd 151 (by decide +kernel) rfl ?_
      replace H := H _ rfl
      refine wm_puti 8 27 154 fl_RX8_302 (by decide +kernel) rfl (by decide +kernel) rfl rfl ⟨rfl, rfl⟩ ?_
      refine wm_goto 123 (by decide +kernel : decode cX8_next 154 = .ok (.goto (-31), 3)) (by decide) ?_
      exact ih _ H
set_option maxRecDepth 20000 in
theorem l_X8_next_L159 (g : GE) (x1 : Int32)  (k194 : HP → Prop) (Q : HP → Prop) (hk194 : ∀  (h : HP), k194  h → Wm g mX8_next 194 [some (.ref 117), some (.int x1), none] [] h (qv Q)) : ∀ (n : Nat) (x2 : Int32) (h : HP), f_X8_next_L159 x1 k194 Q n x2 h → Wm g mX8_next 159 [some (.ref 117), some (.int x1), some (.int x2)] [] h (qv Q) := by
  intro n
  induction n with
  | zero => intro x2 h H; exact H.elim
  | succ n ih =>
    intro x2 h H
    unfold f_X8_next_L159 at H
    refine wm_iload_n 2 160 (by decide +kernel) rfl rfl ?_
    refine wm_bipush 16 162 (by decide +kernel : decode cX8_next 160 = .ok (.bipush 16, 2)) rfl (by decide +kernel) ?_
    refine wm_icmp_ge 165 194 (by decide +kernel : decode cX8_next 162 = .ok (.if_icmp .ge 32, 3)) (by decide) rfl (fun c42 => ?_) (fun c42 => ?_)
    · replace H := H.1 c42
      refine wm_mask [true, true, false] [some _, some _, none] rfl ?_
      exact hk194 _ H
    · replace H := H.2 c42
      refine wm_aload_n 0 166 (by decide +kernel) rfl rfl ?_
      refine wm_aload_n 0 167 (by decide +kernel) rfl rfl ?_
      refine wm_iload_n 2 168 (by decide +kernel) rfl rfl ?_
      refine wm_callVi mX8_isWordFrom 1 8 [_] [_] _ _ 171 mo_X8_isWordFrom np_X8_isWordFrom ml_RX8_322 im_X8_isWordFrom se_X8_isWordFrom (by decide +kernel) (by decide +kernel) rfl rfl rfl (Nat.le_of_ble_eq_true rfl) (by decide +kernel) rfl (Nat.le_of_ble_eq_true rfl) _ (ent_pad 2 rfl) (l_X8_isWordFrom g _ _ _ H) (fun v44 h43 H hzv44 => ?_)
      refine' wm_dia (pcJ := 185) (fun kt kf => wm_if_eq 174 181 (by decide +kernel : decode cX8_next 171 = .ok (.ifCond .eq 10, 3)) (by decide) rfl kt kf) ?D46k (fun kj c1 => ?D46t) (fun kj c1 => ?D46f)
      case D46t =>
        refine wm_aload_n 0 182 (by decide +kernel) rfl rfl ?_
        refine wm_geti 8 29 185 fl_RX8_311 (by decide +kernel) rfl (by decide +kernel) rfl ?_
        exact kj
      case D46f =>
        refine wm_bipush 10 176 (by decide +kernel : decode cX8_next 174 = .ok (.bipush 10, 2)) rfl (by decide +kernel) ?_
        refine wm_iload_n 2 177 (by decide +kernel) rfl rfl ?_
        refine wm_iadd 178 (by decide +kernel) rfl ?_
        refine wm_goto 185 (by decide +kernel : decode cX8_next 178 = .ok (.goto 7, 3)) (by decide) ?_
        exact kj
      case D46k =>
        replace H := H _ rfl
        refine wm_puti 8 29 188 fl_RX8_311 (by decide +kernel) rfl (by decide +kernel) rfl rfl ⟨rfl, rfl⟩ ?_
        replace H := H _ rfl
        refine wm_iinc 2 (_ + 1) 191 [some _, some _, some _] (by decide +kernel : decode cX8_next 188 = .ok (.iinc 2 1, 3)) rfl (by decide +kernel) rfl (ofI_eq (by decide +kernel)) (okS_spec rfl) rfl ?_
        refine wm_goto 159 (by decide +kernel : decode cX8_next 191 = .ok (.goto (-32), 3)) (by decide) ?_
        exact ih _ _ H
set_option maxRecDepth 20000 in
theorem l_X8_next_J109 (g : GE) (x1 : Int32)   (Q : HP → Prop)  (h : HP) (H : f_X8_next_J109 x1  Q h) : Wm g mX8_next 109 [some (.ref 117), some (.int x1), none] [] h (qv Q) := by
  unfold f_X8_next_J109 at H
  refine wm_iload_n 1 110 (by decide +kernel) rfl rfl ?_
  refine wm_i2l 111 (by decide +kernel) rfl ?_
  refine wm_ldc2 97 114 cl_RX8_314 (by decide +kernel) rfl ?_
  refine wm_ldc2 122 117 cl_RX8_316 (by decide +kernel) rfl ?_
  refine wm_callSi mX8_in 3 [_, _, _] [] _ _ 120 mo_X8_in np_X8_in ml_RX8_101 sc_X8_in (by decide +kernel) (by decide +kernel) rfl rfl rfl (Nat.le_of_ble_eq_true rfl) (Nat.le_of_ble_eq_true rfl) _ (ent_pad 0 rfl) (l_X8_in g _ _ _ _ _ H) (fun v14 h13 H hzv14 => ?_)
  refine wm_if_eq 123 194 (by decide +kernel : decode cX8_next 120 = .ok (.ifCond .eq 74, 3)) (by decide) rfl (fun c15 => ?_) (fun c15 => ?_)
  · replace H := H.1 c15
    exact l_X8_next_J194 g _ _  _ H
  · replace H := H.2 c15
    obtain ⟨n51, H⟩ := H
    refine l_X8_next_L123 g _ _ _ (fun h41 H => ?_) _ _ H
    · skip
      refine wm_iconst 0 158 (by decide +kernel : decode cX8_next 157 = .ok (.iconst 0, 1)) rfl (by decide +kernel) ?_
      refine wm_istore_n 2 159 [some _, some _, some _] (by decide +kernel) rfl (by decide +kernel) (okS_spec rfl) rfl ?_
      obtain ⟨n50, H⟩ := H
      refine l_X8_next_L159 g _ _ _ (fun h49 H => ?_) _ _ _ H
      · skip
        exact l_X8_next_J194 g _ _  _ H
set_option maxRecDepth 20000 in
theorem l_X8_next_J64 (g : GE) (x1 : Int32) (xs0 : Int32)   (Q : HP → Prop)  (h : HP) (H : f_X8_next_J64 x1 xs0  Q h) : Wm g mX8_next 64 [some (.ref 117), some (.int x1), none] [(.int xs0), (.ref 117)] h (qv Q) := by
  unfold f_X8_next_J64 at H
  replace H := H _ rfl
  refine wm_puti 8 29 67 fl_RX8_311 (by decide +kernel) rfl (by decide +kernel) rfl rfl ⟨rfl, rfl⟩ ?_
  refine wm_iload_n 1 68 (by decide +kernel) rfl rfl ?_
  refine wm_if_lt 71 109 (by decide +kernel : decode cX8_next 68 = .ok (.ifCond .lt 41, 3)) (by decide) rfl (fun c12 => ?_) (fun c12 => ?_)
  · replace H := H.1 c12
    exact l_X8_next_J109 g _ _  _ H
  · replace H := H.2 c12
    refine wm_iload_n 1 72 (by decide +kernel) rfl rfl ?_
    refine wm_i2l 73 (by decide +kernel) rfl ?_
    refine wm_ldc2 97 76 cl_RX8_314 (by decide +kernel) rfl ?_
    refine wm_ldc2 122 79 cl_RX8_316 (by decide +kernel) rfl ?_
    refine wm_callSi mX8_in 3 [_, _, _] [] _ _ 82 mo_X8_in np_X8_in ml_RX8_101 sc_X8_in (by decide +kernel) (by decide +kernel) rfl rfl rfl (Nat.le_of_ble_eq_true rfl) (Nat.le_of_ble_eq_true rfl) _ (ent_pad 0 rfl) (l_X8_in g _ _ _ _ _ H) (fun v53 h52 H hzv53 => ?_)
    refine wm_if_ne 85 109 (by decide +kernel : decode cX8_next 82 = .ok (.ifCond .ne 27, 3)) (by decide) rfl (fun c54 => ?_) (fun c54 => ?_)
    · replace H := H.2 c54
      exact l_X8_next_J109 g _ _  _ H
    · replace H := H.1 c54
      refine wm_iload_n 1 86 (by decide +kernel) rfl rfl ?_
      refine wm_i2l 87 (by decide +kernel) rfl ?_
      refine wm_ldc2 48 90 cl_RX8_318 (by decide +kernel) rfl ?_
      refine wm_ldc2 57 93 cl_RX8_320 (by decide +kernel) rfl ?_
      refine wm_callSi mX8_in 3 [_, _, _] [] _ _ 96 mo_X8_in np_X8_in ml_RX8_101 sc_X8_in (by decide +kernel) (by decide +kernel) rfl rfl rfl (Nat.le_of_ble_eq_true rfl) (Nat.le_of_ble_eq_true rfl) _ (ent_pad 0 rfl) (l_X8_in g _ _ _ _ _ H) (fun v56 h55 H hzv56 => ?_)
      refine wm_if_ne 99 109 (by decide +kernel : decode cX8_next 96 = .ok (.ifCond .ne 13, 3)) (by decide) rfl (fun c57 => ?_) (fun c57 => ?_)
      · replace H := H.2 c57
        exact l_X8_next_J109 g _ _  _ H
      · replace H := H.1 c57
        refine wm_aload_n 0 100 (by decide +kernel) rfl rfl ?_
        refine wm_dup 101 (by decide +kernel) rfl rfl ?_
        refine wm_geti 8 27 104 fl_RX8_302 (by decide +kernel) rfl (by decide +kernel) rfl ?_
        refine wm_iconst 1 105 (by decide +kernel : decode cX8_next 104 = .ok (.iconst 1, 1)) rfl (by decide +kernel) ?_
        refine wm_iadd 106 (by decide +kernel) rfl ?_
        replace H := H _ rfl
        refine wm_puti 8 27 109 fl_RX8_302 (by decide +kernel) rfl (by decide +kernel) rfl rfl ⟨rfl, rfl⟩ ?_
        exact l_X8_next_J109 g _ _  _ H
set_option maxRecDepth 20000 in
theorem l_X8_next (g : GE)   (h : HP) (Q : HP → Prop) (H : f_X8_next  h Q) : Wm g mX8_next 0 [some (.ref 117), none, none] [] h (qv Q) := by
  unfold f_X8_next at H
  obtain ⟨n59, H⟩ := H
  refine l_X8_next_L0 g _ _ (fun h5 H => ?_) _ _ H
  · skip
    refine wm_aload_n 0 27 (by decide +kernel) rfl rfl ?_
    refine wm_aload_n 0 28 (by decide +kernel) rfl rfl ?_
    refine wm_geti 8 27 31 fl_RX8_302 (by decide +kernel) rfl (by decide +kernel) rfl ?_
    replace H := H _ rfl
    refine wm_puti 8 28 34 fl_RX8_305 (by decide +kernel) rfl (by decide +kernel) rfl rfl ⟨rfl, rfl⟩ ?_
    refine wm_aload_n 0 35 (by decide +kernel) rfl rfl ?_
    refine wm_aload_n 0 36 (by decide +kernel) rfl rfl ?_
    refine wm_geti 8 27 39 fl_RX8_302 (by decide +kernel) rfl (by decide +kernel) rfl ?_
    refine wm_callVi mX8_byteAt 1 8 [_] [] _ _ 42 mo_X8_byteAt np_X8_byteAt ml_RX8_308 im_X8_byteAt se_X8_byteAt (by decide +kernel) (by decide +kernel) rfl rfl rfl (Nat.le_of_ble_eq_true rfl) (by decide +kernel) rfl (Nat.le_of_ble_eq_true rfl) _ (ent_pad 0 rfl) (l_X8_byteAt g _ _ _ H) (fun v8 h7 H hzv8 => ?_)
    refine wm_istore_n 1 43 [some _, some _, none] (by decide +kernel) rfl (by decide +kernel) (okS_spec rfl) rfl ?_
    refine wm_aload_n 0 44 (by decide +kernel) rfl rfl ?_
    refine wm_iload_n 1 45 (by decide +kernel) rfl rfl ?_
    refine wm_if_ge 48 52 (by decide +kernel : decode cX8_next 45 = .ok (.ifCond .ge 7, 3)) (by decide) rfl (fun c9 => ?_) (fun c9 => ?_)
    · replace H := H.1 c9
      refine wm_iload_n 1 53 (by decide +kernel) rfl rfl ?_
      refine wm_bipush 59 55 (by decide +kernel : decode cX8_next 53 = .ok (.bipush 59, 2)) rfl (by decide +kernel) ?_
      refine wm_icmp_ne 58 62 (by decide +kernel : decode cX8_next 55 = .ok (.if_icmp .ne 7, 3)) (by decide) rfl (fun c10 => ?_) (fun c10 => ?_)
      · replace H := H.2 c10
        refine wm_bipush (-2) 64 (by decide +kernel : decode cX8_next 62 = .ok (.bipush (-2), 2)) rfl (by decide +kernel) ?_
        exact l_X8_next_J64 g _ _ _  _ H
      · replace H := H.1 c10
        refine wm_iconst 0 59 (by decide +kernel : decode cX8_next 58 = .ok (.iconst 0, 1)) rfl (by decide +kernel) ?_
        refine wm_goto 64 (by decide +kernel : decode cX8_next 59 = .ok (.goto 5, 3)) (by decide) ?_
        exact l_X8_next_J64 g _ _ _  _ H
    · replace H := H.2 c9
      refine wm_iconst (-1) 49 (by decide +kernel : decode cX8_next 48 = .ok (.iconst (-1), 1)) rfl (by decide +kernel) ?_
      refine wm_goto 64 (by decide +kernel : decode cX8_next 49 = .ok (.goto 15, 3)) (by decide) ?_
      exact l_X8_next_J64 g _ _ _  _ H
def f_X8_isWord (x1 : Int32) (h : HP) (Q : Int32 → HP → Prop) : Prop :=
  Q (if (gi h 117 29) = (10 + x1) then (1 : Int32) else 0) h
set_option maxRecDepth 20000 in
theorem l_X8_isWord (g : GE) (x1 : Int32)  (h : HP) (Q : Int32 → HP → Prop) (H : f_X8_isWord x1 h Q) : Wm g mX8_isWord 0 [some (.ref 117), some (.int x1)] [] h (qi Q) := by
  unfold f_X8_isWord at H
  refine wm_aload_n 0 1 (by decide +kernel) rfl rfl ?_
  refine wm_geti 8 29 4 fl_RX8_311 (by decide +kernel) rfl (by decide +kernel) rfl ?_
  refine wm_bipush 10 6 (by decide +kernel : decode cX8_isWord 4 = .ok (.bipush 10, 2)) rfl (by decide +kernel) ?_
  refine wm_iload_n 1 7 (by decide +kernel) rfl rfl ?_
  refine wm_iadd 8 (by decide +kernel) rfl ?_
  refine' wm_dia (pcJ := 16) (fun kt kf => wm_icmp_ne 11 15 (by decide +kernel : decode cX8_isWord 8 = .ok (.if_icmp .ne 7, 3)) (by decide) rfl kf kt) ?D2k (fun kj c1 => ?D2t) (fun kj c1 => ?D2f)
  case D2t =>
    refine wm_iconst 1 12 (by decide +kernel : decode cX8_isWord 11 = .ok (.iconst 1, 1)) rfl (by decide +kernel) ?_
    refine wm_goto 16 (by decide +kernel : decode cX8_isWord 12 = .ok (.goto 4, 3)) (by decide) ?_
    exact kj
  case D2f =>
    refine wm_iconst 0 16 (by decide +kernel : decode cX8_isWord 15 = .ok (.iconst 0, 1)) rfl (by decide +kernel) ?_
    exact kj
  case D2k =>
    exact wm_iret (by decide +kernel) ⟨.boolean, rfl, (nb_ite (by decide +kernel) (by decide +kernel))⟩ H
def f_X8_takesNumber (x1 : Int32) (x2 : Int32) (h : HP) (Q : Int32 → HP → Prop) : Prop :=
  ((((gi h 117 29) = 1) →
    f_X8_in (((gi h 117 30) : Int32).toInt64) ((x1 : Int32).toInt64) ((x2 : Int32).toInt64) h (fun v3 h2 =>
    (((v3 = 0) →
      Q 0 h2) ∧
     (¬ (v3 = 0) →
      ∀ h5 : HP, h5 = si h2 117 32 (gi h2 117 30) →
      f_X8_next h5 (fun h6 =>
      Q 1 h6))))) ∧
   (¬ ((gi h 117 29) = 1) →
    Q 0 h))
set_option maxRecDepth 20000 in
theorem l_X8_takesNumber (g : GE) (x1 : Int32) (x2 : Int32)  (h : HP) (Q : Int32 → HP → Prop) (H : f_X8_takesNumber x1 x2 h Q) : Wm g mX8_takesNumber 0 [some (.ref 117), some (.int x1), some (.int x2)] [] h (qi Q) := by
  unfold f_X8_takesNumber at H
  refine wm_aload_n 0 1 (by decide +kernel) rfl rfl ?_
  refine wm_geti 8 29 4 fl_RX8_311 (by decide +kernel) rfl (by decide +kernel) rfl ?_
  refine wm_iconst 1 5 (by decide +kernel : decode cX8_takesNumber 4 = .ok (.iconst 1, 1)) rfl (by decide +kernel) ?_
  refine wm_icmp_ne 8 23 (by decide +kernel : decode cX8_takesNumber 5 = .ok (.if_icmp .ne 18, 3)) (by decide) rfl (fun c1 => ?_) (fun c1 => ?_)
  · replace H := H.2 c1
    refine wm_iconst 0 24 (by decide +kernel : decode cX8_takesNumber 23 = .ok (.iconst 0, 1)) rfl (by decide +kernel) ?_
    exact wm_iret (by decide +kernel) ⟨.boolean, rfl, (by decide +kernel)⟩ H
  · replace H := H.1 c1
    refine wm_aload_n 0 9 (by decide +kernel) rfl rfl ?_
    refine wm_geti 8 30 12 fl_RX8_325 (by decide +kernel) rfl (by decide +kernel) rfl ?_
    refine wm_i2l 13 (by decide +kernel) rfl ?_
    refine wm_iload_n 1 14 (by decide +kernel) rfl rfl ?_
    refine wm_i2l 15 (by decide +kernel) rfl ?_
    refine wm_iload_n 2 16 (by decide +kernel) rfl rfl ?_
    refine wm_i2l 17 (by decide +kernel) rfl ?_
    refine wm_callSi mX8_in 3 [_, _, _] [] _ _ 20 mo_X8_in np_X8_in ml_RX8_101 sc_X8_in (by decide +kernel) (by decide +kernel) rfl rfl rfl (Nat.le_of_ble_eq_true rfl) (Nat.le_of_ble_eq_true rfl) _ (ent_pad 0 rfl) (l_X8_in g _ _ _ _ _ H) (fun v3 h2 H hzv3 => ?_)
    refine wm_if_ne 23 25 (by decide +kernel : decode cX8_takesNumber 20 = .ok (.ifCond .ne 5, 3)) (by decide) rfl (fun c4 => ?_) (fun c4 => ?_)
    · replace H := H.2 c4
      refine wm_aload_n 0 26 (by decide +kernel) rfl rfl ?_
      refine wm_aload_n 0 27 (by decide +kernel) rfl rfl ?_
      refine wm_geti 8 30 30 fl_RX8_325 (by decide +kernel) rfl (by decide +kernel) rfl ?_
      replace H := H _ rfl
      refine wm_puti 8 32 33 fl_RX8_328 (by decide +kernel) rfl (by decide +kernel) rfl rfl ⟨rfl, rfl⟩ ?_
      refine wm_aload_n 0 34 (by decide +kernel) rfl rfl ?_
      refine wm_callVv mX8_next 0 8 [] [] _ _ 37 mo_X8_next np_X8_next ml_RX8_331 im_X8_next se_X8_next (by decide +kernel) (by decide +kernel) rfl rfl rfl (Nat.le_of_ble_eq_true rfl) (by decide +kernel) rfl (Nat.le_of_ble_eq_true rfl) _ (ent_pad 2 rfl) (l_X8_next g _ _ H) (fun h6 H => ?_)
      refine wm_iconst 1 38 (by decide +kernel : decode cX8_takesNumber 37 = .ok (.iconst 1, 1)) rfl (by decide +kernel) ?_
      exact wm_iret (by decide +kernel) ⟨.boolean, rfl, (by decide +kernel)⟩ H
    · replace H := H.1 c4
      refine wm_iconst 0 24 (by decide +kernel : decode cX8_takesNumber 23 = .ok (.iconst 0, 1)) rfl (by decide +kernel) ?_
      exact wm_iret (by decide +kernel) ⟨.boolean, rfl, (by decide +kernel)⟩ H
def f_X8_perhaps (x1 : Int32) (x2 : Int32) (x3 : Int32) (x4 : Int32) (h : HP) (Q : Int32 → HP → Prop) : Prop :=
  ∀ h1 : HP, h1 = si h 117 32 x4 →
  f_X8_isWord x1 h1 (fun v3 h2 =>
  (((v3 = 0) →
    Q 1 h2) ∧
   (¬ (v3 = 0) →
    f_X8_next h2 (fun h5 =>
    f_X8_takesNumber x2 x3 h5 (fun v7 h6 =>
    Q v7 h6)))))
set_option maxRecDepth 20000 in
theorem l_X8_perhaps (g : GE) (x1 : Int32) (x2 : Int32) (x3 : Int32) (x4 : Int32)  (h : HP) (Q : Int32 → HP → Prop) (H : f_X8_perhaps x1 x2 x3 x4 h Q) : Wm g mX8_perhaps 0 [some (.ref 117), some (.int x1), some (.int x2), some (.int x3), some (.int x4)] [] h (qi Q) := by
  unfold f_X8_perhaps at H
  refine wm_aload_n 0 1 (by decide +kernel) rfl rfl ?_
  refine wm_iload 4 3 (by decide +kernel) rfl rfl ?_
  replace H := H _ rfl
  refine wm_puti 8 32 6 fl_RX8_328 (by decide +kernel) rfl (by decide +kernel) rfl rfl ⟨rfl, rfl⟩ ?_
  refine wm_aload_n 0 7 (by decide +kernel) rfl rfl ?_
  refine wm_iload_n 1 8 (by decide +kernel) rfl rfl ?_
  refine wm_callVi mX8_isWord 1 8 [_] [] _ _ 11 mo_X8_isWord np_X8_isWord ml_RX8_334 im_X8_isWord se_X8_isWord (by decide +kernel) (by decide +kernel) rfl rfl rfl (Nat.le_of_ble_eq_true rfl) (by decide +kernel) rfl (Nat.le_of_ble_eq_true rfl) _ (ent_pad 0 rfl) (l_X8_isWord g _ _ _ H) (fun v3 h2 H hzv3 => ?_)
  refine wm_if_ne 14 16 (by decide +kernel : decode cX8_perhaps 11 = .ok (.ifCond .ne 5, 3)) (by decide) rfl (fun c4 => ?_) (fun c4 => ?_)
  · replace H := H.2 c4
    refine wm_aload_n 0 17 (by decide +kernel) rfl rfl ?_
    refine wm_callVv mX8_next 0 8 [] [] _ _ 20 mo_X8_next np_X8_next ml_RX8_331 im_X8_next se_X8_next (by decide +kernel) (by decide +kernel) rfl rfl rfl (Nat.le_of_ble_eq_true rfl) (by decide +kernel) rfl (Nat.le_of_ble_eq_true rfl) _ (ent_pad 2 rfl) (l_X8_next g _ _ H) (fun h5 H => ?_)
    refine wm_aload_n 0 21 (by decide +kernel) rfl rfl ?_
    refine wm_iload_n 2 22 (by decide +kernel) rfl rfl ?_
    refine wm_iload_n 3 23 (by decide +kernel) rfl rfl ?_
    refine wm_callVi mX8_takesNumber 2 8 [_, _] [] _ _ 26 mo_X8_takesNumber np_X8_takesNumber ml_RX8_337 im_X8_takesNumber se_X8_takesNumber (by decide +kernel) (by decide +kernel) rfl rfl rfl (Nat.le_of_ble_eq_true rfl) (by decide +kernel) rfl (Nat.le_of_ble_eq_true rfl) _ (ent_pad 0 rfl) (l_X8_takesNumber g _ _ _ _ H) (fun v7 h6 H hzv7 => ?_)
    exact wm_iret (by decide +kernel) ⟨.boolean, rfl, (rv_bool hzv7 rfl)⟩ H
  · replace H := H.1 c4
    refine wm_iconst 1 15 (by decide +kernel : decode cX8_perhaps 14 = .ok (.iconst 1, 1)) rfl (by decide +kernel) ?_
    exact wm_iret (by decide +kernel) ⟨.boolean, rfl, (by decide +kernel)⟩ H
def f_X8_readsStation_J66 (x2 : Int32)  (Q : Int32 → HP → Prop) (h : HP) : Prop :=
  (((x2 = 0) →
    Q x2 h) ∧
   (¬ (x2 = 0) →
    vp_in ((gi h 117 3) - 1) 6 ∧
    ∀ h9 : HP, h9 = si h 121 (ix ((gi h 117 3) - 1)) (gi h 117 32) →
    Q x2 h9))
def f_X8_readsStation (x1 : Int32) (h : HP) (Q : Int32 → HP → Prop) : Prop :=
  ((((gi h 117 3) = 6) →
    Q 0 h) ∧
   (¬ ((gi h 117 3) = 6) →
    f_X8_next h (fun h2 =>
    f_X8_addStation x1 0 20 h2 (fun h3 =>
    f_X8_perhaps 10 0 999 0 h3 (fun v5 h4 =>
    (((v5 = 0) →
      f_X8_readsStation_J66 v5  Q h4) ∧
     (¬ (v5 = 0) →
      vp_in ((gi h4 117 3) - 1) 6 ∧
      ∀ h11 : HP, h11 = si h4 120 (ix ((gi h4 117 3) - 1)) (gi h4 117 32) →
      f_X8_perhaps 11 0 99 20 h11 (fun v13 h12 =>
      f_X8_readsStation_J66 v13  Q h12))))))))
set_option maxRecDepth 20000 in
theorem l_X8_readsStation_J66 (g : GE) (x2 : Int32) (hzx2 : narrow .boolean (.int x2) = .int x2)  (Q : Int32 → HP → Prop)  (h : HP) (H : f_X8_readsStation_J66 x2  Q h) : Wm g mX8_readsStation 66 [some (.ref 117), none, some (.int x2)] [] h (qi Q) := by
  unfold f_X8_readsStation_J66 at H
  refine wm_iload_n 2 67 (by decide +kernel) rfl rfl ?_
  refine wm_if_eq 70 85 (by decide +kernel : decode cX8_readsStation 67 = .ok (.ifCond .eq 18, 3)) (by decide) rfl (fun c7 => ?_) (fun c7 => ?_)
  · replace H := H.1 c7
    refine wm_iload_n 2 86 (by decide +kernel) rfl rfl ?_
    exact wm_iret (by decide +kernel) ⟨.boolean, rfl, hzx2⟩ H
  · replace H := H.2 c7
    refine wm_aload_n 0 71 (by decide +kernel) rfl rfl ?_
    refine wm_getr 8 6 4 121 74 fl_RX8_19 (by decide +kernel) rfl (by decide +kernel) rfl rfl (by decide) ?_
    refine wm_aload_n 0 75 (by decide +kernel) rfl rfl ?_
    refine wm_geti 8 3 78 fl_RX8_97 (by decide +kernel) rfl (by decide +kernel) rfl ?_
    refine wm_iconst 1 79 (by decide +kernel : decode cX8_readsStation 78 = .ok (.iconst 1, 1)) rfl (by decide +kernel) ?_
    refine wm_isub 80 (by decide +kernel) rfl ?_
    refine wm_aload_n 0 81 (by decide +kernel) rfl rfl ?_
    refine wm_geti 8 32 84 fl_RX8_328 (by decide +kernel) rfl (by decide +kernel) rfl ?_
    obtain ⟨o8, H⟩ := H
    replace H := H _ rfl
    refine wm_iast 6 85 (by decide +kernel) rfl (by decide +kernel) (by decide +kernel) o8 ?_
    refine wm_iload_n 2 86 (by decide +kernel) rfl rfl ?_
    exact wm_iret (by decide +kernel) ⟨.boolean, rfl, hzx2⟩ H
set_option maxRecDepth 20000 in
theorem l_X8_readsStation (g : GE) (x1 : Int32)  (h : HP) (Q : Int32 → HP → Prop) (H : f_X8_readsStation x1 h Q) : Wm g mX8_readsStation 0 [some (.ref 117), some (.int x1), none] [] h (qi Q) := by
  unfold f_X8_readsStation at H
  refine wm_aload_n 0 1 (by decide +kernel) rfl rfl ?_
  refine wm_geti 8 3 4 fl_RX8_97 (by decide +kernel) rfl (by decide +kernel) rfl ?_
  refine wm_bipush 6 6 (by decide +kernel : decode cX8_readsStation 4 = .ok (.bipush 6, 2)) rfl (by decide +kernel) ?_
  refine wm_icmp_ne 9 11 (by decide +kernel : decode cX8_readsStation 6 = .ok (.if_icmp .ne 5, 3)) (by decide) rfl (fun c1 => ?_) (fun c1 => ?_)
  · replace H := H.2 c1
    refine wm_aload_n 0 12 (by decide +kernel) rfl rfl ?_
    refine wm_callVv mX8_next 0 8 [] [] _ _ 15 mo_X8_next np_X8_next ml_RX8_331 im_X8_next se_X8_next (by decide +kernel) (by decide +kernel) rfl rfl rfl (Nat.le_of_ble_eq_true rfl) (by decide +kernel) rfl (Nat.le_of_ble_eq_true rfl) _ (ent_pad 2 rfl) (l_X8_next g _ _ H) (fun h2 H => ?_)
    refine wm_aload_n 0 16 (by decide +kernel) rfl rfl ?_
    refine wm_iload_n 1 17 (by decide +kernel) rfl rfl ?_
    refine wm_iconst 0 18 (by decide +kernel : decode cX8_readsStation 17 = .ok (.iconst 0, 1)) rfl (by decide +kernel) ?_
    refine wm_bipush 20 20 (by decide +kernel : decode cX8_readsStation 18 = .ok (.bipush 20, 2)) rfl (by decide +kernel) ?_
    refine wm_callVv mX8_addStation 3 8 [_, _, _] [] _ _ 23 mo_X8_addStation np_X8_addStation ml_RX8_134 im_X8_addStation se_X8_addStation (by decide +kernel) (by decide +kernel) rfl rfl rfl (Nat.le_of_ble_eq_true rfl) (by decide +kernel) rfl (Nat.le_of_ble_eq_true rfl) _ (ent_pad 0 rfl) (l_X8_addStation g _ _ _ _ _ H) (fun h3 H => ?_)
    refine wm_aload_n 0 24 (by decide +kernel) rfl rfl ?_
    refine wm_bipush 10 26 (by decide +kernel : decode cX8_readsStation 24 = .ok (.bipush 10, 2)) rfl (by decide +kernel) ?_
    refine wm_iconst 0 27 (by decide +kernel : decode cX8_readsStation 26 = .ok (.iconst 0, 1)) rfl (by decide +kernel) ?_
    refine wm_sipush 999 30 (by decide +kernel : decode cX8_readsStation 27 = .ok (.sipush 999, 3)) rfl (by decide +kernel) ?_
    refine wm_iconst 0 31 (by decide +kernel : decode cX8_readsStation 30 = .ok (.iconst 0, 1)) rfl (by decide +kernel) ?_
    refine wm_callVi mX8_perhaps 4 8 [_, _, _, _] [] _ _ 34 mo_X8_perhaps np_X8_perhaps ml_RX8_340 im_X8_perhaps se_X8_perhaps (by decide +kernel) (by decide +kernel) rfl rfl rfl (Nat.le_of_ble_eq_true rfl) (by decide +kernel) rfl (Nat.le_of_ble_eq_true rfl) _ (ent_pad 0 rfl) (l_X8_perhaps g _ _ _ _ _ _ H) (fun v5 h4 H hzv5 => ?_)
    refine wm_istore_n 2 35 [some _, some _, some _] (by decide +kernel) rfl (by decide +kernel) (okS_spec rfl) rfl ?_
    refine wm_iload_n 2 36 (by decide +kernel) rfl rfl ?_
    refine wm_if_eq 39 66 (by decide +kernel : decode cX8_readsStation 36 = .ok (.ifCond .eq 30, 3)) (by decide) rfl (fun c6 => ?_) (fun c6 => ?_)
    · replace H := H.1 c6
      refine wm_mask [true, false, true] [some _, none, some _] rfl ?_
      exact l_X8_readsStation_J66 g _ (rv_bool hzv5 rfl) _  _ H
    · replace H := H.2 c6
      refine wm_aload_n 0 40 (by decide +kernel) rfl rfl ?_
      refine wm_getr 8 5 3 120 43 fl_RX8_16 (by decide +kernel) rfl (by decide +kernel) rfl rfl (by decide) ?_
      refine wm_aload_n 0 44 (by decide +kernel) rfl rfl ?_
      refine wm_geti 8 3 47 fl_RX8_97 (by decide +kernel) rfl (by decide +kernel) rfl ?_
      refine wm_iconst 1 48 (by decide +kernel : decode cX8_readsStation 47 = .ok (.iconst 1, 1)) rfl (by decide +kernel) ?_
      refine wm_isub 49 (by decide +kernel) rfl ?_
      refine wm_aload_n 0 50 (by decide +kernel) rfl rfl ?_
      refine wm_geti 8 32 53 fl_RX8_328 (by decide +kernel) rfl (by decide +kernel) rfl ?_
      obtain ⟨o10, H⟩ := H
      replace H := H _ rfl
      refine wm_iast 6 54 (by decide +kernel) rfl (by decide +kernel) (by decide +kernel) o10 ?_
      refine wm_aload_n 0 55 (by decide +kernel) rfl rfl ?_
      refine wm_bipush 11 57 (by decide +kernel : decode cX8_readsStation 55 = .ok (.bipush 11, 2)) rfl (by decide +kernel) ?_
      refine wm_iconst 0 58 (by decide +kernel : decode cX8_readsStation 57 = .ok (.iconst 0, 1)) rfl (by decide +kernel) ?_
      refine wm_bipush 99 60 (by decide +kernel : decode cX8_readsStation 58 = .ok (.bipush 99, 2)) rfl (by decide +kernel) ?_
      refine wm_bipush 20 62 (by decide +kernel : decode cX8_readsStation 60 = .ok (.bipush 20, 2)) rfl (by decide +kernel) ?_
      refine wm_callVi mX8_perhaps 4 8 [_, _, _, _] [] _ _ 65 mo_X8_perhaps np_X8_perhaps ml_RX8_340 im_X8_perhaps se_X8_perhaps (by decide +kernel) (by decide +kernel) rfl rfl rfl (Nat.le_of_ble_eq_true rfl) (by decide +kernel) rfl (Nat.le_of_ble_eq_true rfl) _ (ent_pad 0 rfl) (l_X8_perhaps g _ _ _ _ _ _ H) (fun v13 h12 H hzv13 => ?_)
      refine wm_istore_n 2 66 [some _, some _, some _] (by decide +kernel) rfl (by decide +kernel) (okS_spec rfl) rfl ?_
      refine wm_mask [true, false, true] [some _, none, some _] rfl ?_
      exact l_X8_readsStation_J66 g _ (rv_bool hzv13 rfl) _  _ H
  · replace H := H.1 c1
    refine wm_iconst 0 10 (by decide +kernel : decode cX8_readsStation 9 = .ok (.iconst 0, 1)) rfl (by decide +kernel) ?_
    exact wm_iret (by decide +kernel) ⟨.boolean, rfl, (by decide +kernel)⟩ H
def f_X8_readsLine_J52 (x1 : Int32) (x2 : Int32)  (Q : Int32 → HP → Prop) (h : HP) : Prop :=
  f_X8_takesNumber 0 ((gi h 117 3) - 1) h (fun v9 h8 =>
  (((v9 = 0) →
    Q 0 h8) ∧
   (¬ (v9 = 0) →
    f_X8_addLine x1 x2 (gi h8 117 32) h8 (fun h11 =>
    ∀ x3_12 : Int32, x3_12 = (8 * ((gi h11 117 7) - 1)) →
    f_X8_perhaps 12 0 99 10 h11 (fun v14 h13 =>
    (((v14 = 0) →
      Q 0 h13) ∧
     (¬ (v14 = 0) →
      vp_in (x3_12 + 3) 80 ∧
      ∀ h17 : HP, h17 = si h13 122 (ix (x3_12 + 3)) (gi h13 117 32) →
      f_X8_perhaps 13 1 9 1 h17 (fun v19 h18 =>
      (((v19 = 0) →
        Q 0 h18) ∧
       (¬ (v19 = 0) →
        vp_in (x3_12 + 4) 80 ∧
        ∀ h22 : HP, h22 = si h18 122 (ix (x3_12 + 4)) (gi h18 117 32) →
        f_X8_perhaps 14 0 5 0 h22 (fun v24 h23 =>
        (((v24 = 0) →
          Q 0 h23) ∧
         (¬ (v24 = 0) →
          vp_in (x3_12 + 5) 80 ∧
          ∀ h27 : HP, h27 = si h23 122 (ix (x3_12 + 5)) (gi h23 117 32) →
          f_X8_isWord 15 h27 (fun v29 h28 =>
          (((v29 = 0) →
            Q 1 h28) ∧
           (¬ (v29 = 0) →
            f_X8_perhaps 15 0 99 0 h28 (fun v32 h31 =>
            (((v32 = 0) →
              Q 0 h31) ∧
             (¬ (v32 = 0) →
              vp_in (x3_12 + 6) 80 ∧
              ∀ h35 : HP, h35 = si h31 122 (ix (x3_12 + 6)) (gi h31 117 32) →
              f_X8_takesNumber 0 999 h35 (fun v37 h36 =>
              (((v37 = 0) →
                Q 0 h36) ∧
               (¬ (v37 = 0) →
                vp_in (x3_12 + 7) 80 ∧
                ∀ h40 : HP, h40 = si h36 122 (ix (x3_12 + 7)) (gi h36 117 32) →
                Q 1 h40))))))))))))))))))))))
def f_X8_readsLine (x1 : Int32) (h : HP) (Q : Int32 → HP → Prop) : Prop :=
  ((((gi h 117 7) = 10) →
    Q 0 h) ∧
   (¬ ((gi h 117 7) = 10) →
    f_X8_next h (fun h2 =>
    f_X8_takesNumber 0 ((gi h2 117 3) - 1) h2 (fun v4 h3 =>
    (((v4 = 0) →
      Q 0 h3) ∧
     (¬ (v4 = 0) →
      ∀ x2_6 : Int32, x2_6 = (gi h3 117 32) →
      ((((gi h3 117 29) = 1) →
        ((((gi h3 117 30) = x2_6) →
          Q 0 h3) ∧
         (¬ ((gi h3 117 30) = x2_6) →
          f_X8_readsLine_J52 x1 x2_6  Q h3))) ∧
       (¬ ((gi h3 117 29) = 1) →
        f_X8_readsLine_J52 x1 x2_6  Q h3))))))))
set_option maxRecDepth 20000 in
theorem l_X8_readsLine_J52 (g : GE) (x1 : Int32) (x2 : Int32)   (Q : Int32 → HP → Prop)  (h : HP) (H : f_X8_readsLine_J52 x1 x2  Q h) : Wm g mX8_readsLine 52 [some (.ref 117), some (.int x1), some (.int x2), none] [] h (qi Q) := by
  unfold f_X8_readsLine_J52 at H
  refine wm_aload_n 0 53 (by decide +kernel) rfl rfl ?_
  refine wm_iconst 0 54 (by decide +kernel : decode cX8_readsLine 53 = .ok (.iconst 0, 1)) rfl (by decide +kernel) ?_
  refine wm_aload_n 0 55 (by decide +kernel) rfl rfl ?_
  refine wm_geti 8 3 58 fl_RX8_97 (by decide +kernel) rfl (by decide +kernel) rfl ?_
  refine wm_iconst 1 59 (by decide +kernel : decode cX8_readsLine 58 = .ok (.iconst 1, 1)) rfl (by decide +kernel) ?_
  refine wm_isub 60 (by decide +kernel) rfl ?_
  refine wm_callVi mX8_takesNumber 2 8 [_, _] [] _ _ 63 mo_X8_takesNumber np_X8_takesNumber ml_RX8_337 im_X8_takesNumber se_X8_takesNumber (by decide +kernel) (by decide +kernel) rfl rfl rfl (Nat.le_of_ble_eq_true rfl) (by decide +kernel) rfl (Nat.le_of_ble_eq_true rfl) _ (ent_pad 0 rfl) (l_X8_takesNumber g _ _ _ _ H) (fun v9 h8 H hzv9 => ?_)
  refine wm_if_ne 66 68 (by decide +kernel : decode cX8_readsLine 63 = .ok (.ifCond .ne 5, 3)) (by decide) rfl (fun c10 => ?_) (fun c10 => ?_)
  · replace H := H.2 c10
    refine wm_aload_n 0 69 (by decide +kernel) rfl rfl ?_
    refine wm_iload_n 1 70 (by decide +kernel) rfl rfl ?_
    refine wm_iload_n 2 71 (by decide +kernel) rfl rfl ?_
    refine wm_aload_n 0 72 (by decide +kernel) rfl rfl ?_
    refine wm_geti 8 32 75 fl_RX8_328 (by decide +kernel) rfl (by decide +kernel) rfl ?_
    refine wm_callVv mX8_addLine 3 8 [_, _, _] [] _ _ 78 mo_X8_addLine np_X8_addLine ml_RX8_148 im_X8_addLine se_X8_addLine (by decide +kernel) (by decide +kernel) rfl rfl rfl (Nat.le_of_ble_eq_true rfl) (by decide +kernel) rfl (Nat.le_of_ble_eq_true rfl) _ (ent_pad 2 rfl) (l_X8_addLine g _ _ _ _ _ H) (fun h11 H => ?_)
    refine wm_bipush 8 80 (by decide +kernel : decode cX8_readsLine 78 = .ok (.bipush 8, 2)) rfl (by decide +kernel) ?_
    refine wm_aload_n 0 81 (by decide +kernel) rfl rfl ?_
    refine wm_geti 8 7 84 fl_RX8_105 (by decide +kernel) rfl (by decide +kernel) rfl ?_
    refine wm_iconst 1 85 (by decide +kernel : decode cX8_readsLine 84 = .ok (.iconst 1, 1)) rfl (by decide +kernel) ?_
    refine wm_isub 86 (by decide +kernel) rfl ?_
    refine wm_imul 87 (by decide +kernel) rfl ?_
    replace H := H _ rfl
    refine wm_istore_n 3 88 [some _, some _, some _, some _] (by decide +kernel) rfl (by decide +kernel) (okS_spec rfl) rfl ?_
    refine wm_aload_n 0 89 (by decide +kernel) rfl rfl ?_
    refine wm_bipush 12 91 (by decide +kernel : decode cX8_readsLine 89 = .ok (.bipush 12, 2)) rfl (by decide +kernel) ?_
    refine wm_iconst 0 92 (by decide +kernel : decode cX8_readsLine 91 = .ok (.iconst 0, 1)) rfl (by decide +kernel) ?_
    refine wm_bipush 99 94 (by decide +kernel : decode cX8_readsLine 92 = .ok (.bipush 99, 2)) rfl (by decide +kernel) ?_
    refine wm_bipush 10 96 (by decide +kernel : decode cX8_readsLine 94 = .ok (.bipush 10, 2)) rfl (by decide +kernel) ?_
    refine wm_callVi mX8_perhaps 4 8 [_, _, _, _] [] _ _ 99 mo_X8_perhaps np_X8_perhaps ml_RX8_340 im_X8_perhaps se_X8_perhaps (by decide +kernel) (by decide +kernel) rfl rfl rfl (Nat.le_of_ble_eq_true rfl) (by decide +kernel) rfl (Nat.le_of_ble_eq_true rfl) _ (ent_pad 0 rfl) (l_X8_perhaps g _ _ _ _ _ _ H) (fun v14 h13 H hzv14 => ?_)
    refine wm_if_ne 102 104 (by decide +kernel : decode cX8_readsLine 99 = .ok (.ifCond .ne 5, 3)) (by decide) rfl (fun c15 => ?_) (fun c15 => ?_)
    · replace H := H.2 c15
      refine wm_aload_n 0 105 (by decide +kernel) rfl rfl ?_
      refine wm_getr 8 8 5 122 108 fl_RX8_22 (by decide +kernel) rfl (by decide +kernel) rfl rfl (by decide) ?_
      refine wm_iload_n 3 109 (by decide +kernel) rfl rfl ?_
      refine wm_iconst 3 110 (by decide +kernel : decode cX8_readsLine 109 = .ok (.iconst 3, 1)) rfl (by decide +kernel) ?_
      refine wm_iadd 111 (by decide +kernel) rfl ?_
      refine wm_aload_n 0 112 (by decide +kernel) rfl rfl ?_
      refine wm_geti 8 32 115 fl_RX8_328 (by decide +kernel) rfl (by decide +kernel) rfl ?_
      obtain ⟨o16, H⟩ := H
      replace H := H _ rfl
      refine wm_iast 80 116 (by decide +kernel) rfl (by decide +kernel) (by decide +kernel) o16 ?_
      refine wm_aload_n 0 117 (by decide +kernel) rfl rfl ?_
      refine wm_bipush 13 119 (by decide +kernel : decode cX8_readsLine 117 = .ok (.bipush 13, 2)) rfl (by decide +kernel) ?_
      refine wm_iconst 1 120 (by decide +kernel : decode cX8_readsLine 119 = .ok (.iconst 1, 1)) rfl (by decide +kernel) ?_
      refine wm_bipush 9 122 (by decide +kernel : decode cX8_readsLine 120 = .ok (.bipush 9, 2)) rfl (by decide +kernel) ?_
      refine wm_iconst 1 123 (by decide +kernel : decode cX8_readsLine 122 = .ok (.iconst 1, 1)) rfl (by decide +kernel) ?_
      refine wm_callVi mX8_perhaps 4 8 [_, _, _, _] [] _ _ 126 mo_X8_perhaps np_X8_perhaps ml_RX8_340 im_X8_perhaps se_X8_perhaps (by decide +kernel) (by decide +kernel) rfl rfl rfl (Nat.le_of_ble_eq_true rfl) (by decide +kernel) rfl (Nat.le_of_ble_eq_true rfl) _ (ent_pad 0 rfl) (l_X8_perhaps g _ _ _ _ _ _ H) (fun v19 h18 H hzv19 => ?_)
      refine wm_if_ne 129 131 (by decide +kernel : decode cX8_readsLine 126 = .ok (.ifCond .ne 5, 3)) (by decide) rfl (fun c20 => ?_) (fun c20 => ?_)
      · replace H := H.2 c20
        refine wm_aload_n 0 132 (by decide +kernel) rfl rfl ?_
        refine wm_getr 8 8 5 122 135 fl_RX8_22 (by decide +kernel) rfl (by decide +kernel) rfl rfl (by decide) ?_
        refine wm_iload_n 3 136 (by decide +kernel) rfl rfl ?_
        refine wm_iconst 4 137 (by decide +kernel : decode cX8_readsLine 136 = .ok (.iconst 4, 1)) rfl (by decide +kernel) ?_
        refine wm_iadd 138 (by decide +kernel) rfl ?_
        refine wm_aload_n 0 139 (by decide +kernel) rfl rfl ?_
        refine wm_geti 8 32 142 fl_RX8_328 (by decide +kernel) rfl (by decide +kernel) rfl ?_
        obtain ⟨o21, H⟩ := H
        replace H := H _ rfl
        refine wm_iast 80 143 (by decide +kernel) rfl (by decide +kernel) (by decide +kernel) o21 ?_
        refine wm_aload_n 0 144 (by decide +kernel) rfl rfl ?_
        refine wm_bipush 14 146 (by decide +kernel : decode cX8_readsLine 144 = .ok (.bipush 14, 2)) rfl (by decide +kernel) ?_
        refine wm_iconst 0 147 (by decide +kernel : decode cX8_readsLine 146 = .ok (.iconst 0, 1)) rfl (by decide +kernel) ?_
        refine wm_iconst 5 148 (by decide +kernel : decode cX8_readsLine 147 = .ok (.iconst 5, 1)) rfl (by decide +kernel) ?_
        refine wm_iconst 0 149 (by decide +kernel : decode cX8_readsLine 148 = .ok (.iconst 0, 1)) rfl (by decide +kernel) ?_
        refine wm_callVi mX8_perhaps 4 8 [_, _, _, _] [] _ _ 152 mo_X8_perhaps np_X8_perhaps ml_RX8_340 im_X8_perhaps se_X8_perhaps (by decide +kernel) (by decide +kernel) rfl rfl rfl (Nat.le_of_ble_eq_true rfl) (by decide +kernel) rfl (Nat.le_of_ble_eq_true rfl) _ (ent_pad 0 rfl) (l_X8_perhaps g _ _ _ _ _ _ H) (fun v24 h23 H hzv24 => ?_)
        refine wm_if_ne 155 157 (by decide +kernel : decode cX8_readsLine 152 = .ok (.ifCond .ne 5, 3)) (by decide) rfl (fun c25 => ?_) (fun c25 => ?_)
        · replace H := H.2 c25
          refine wm_aload_n 0 158 (by decide +kernel) rfl rfl ?_
          refine wm_getr 8 8 5 122 161 fl_RX8_22 (by decide +kernel) rfl (by decide +kernel) rfl rfl (by decide) ?_
          refine wm_iload_n 3 162 (by decide +kernel) rfl rfl ?_
          refine wm_iconst 5 163 (by decide +kernel : decode cX8_readsLine 162 = .ok (.iconst 5, 1)) rfl (by decide +kernel) ?_
          refine wm_iadd 164 (by decide +kernel) rfl ?_
          refine wm_aload_n 0 165 (by decide +kernel) rfl rfl ?_
          refine wm_geti 8 32 168 fl_RX8_328 (by decide +kernel) rfl (by decide +kernel) rfl ?_
          obtain ⟨o26, H⟩ := H
          replace H := H _ rfl
          refine wm_iast 80 169 (by decide +kernel) rfl (by decide +kernel) (by decide +kernel) o26 ?_
          refine wm_aload_n 0 170 (by decide +kernel) rfl rfl ?_
          refine wm_bipush 15 172 (by decide +kernel : decode cX8_readsLine 170 = .ok (.bipush 15, 2)) rfl (by decide +kernel) ?_
          refine wm_callVi mX8_isWord 1 8 [_] [] _ _ 175 mo_X8_isWord np_X8_isWord ml_RX8_334 im_X8_isWord se_X8_isWord (by decide +kernel) (by decide +kernel) rfl rfl rfl (Nat.le_of_ble_eq_true rfl) (by decide +kernel) rfl (Nat.le_of_ble_eq_true rfl) _ (ent_pad 0 rfl) (l_X8_isWord g _ _ _ H) (fun v29 h28 H hzv29 => ?_)
          refine wm_if_ne 178 180 (by decide +kernel : decode cX8_readsLine 175 = .ok (.ifCond .ne 5, 3)) (by decide) rfl (fun c30 => ?_) (fun c30 => ?_)
          · replace H := H.2 c30
            refine wm_aload_n 0 181 (by decide +kernel) rfl rfl ?_
            refine wm_bipush 15 183 (by decide +kernel : decode cX8_readsLine 181 = .ok (.bipush 15, 2)) rfl (by decide +kernel) ?_
            refine wm_iconst 0 184 (by decide +kernel : decode cX8_readsLine 183 = .ok (.iconst 0, 1)) rfl (by decide +kernel) ?_
            refine wm_bipush 99 186 (by decide +kernel : decode cX8_readsLine 184 = .ok (.bipush 99, 2)) rfl (by decide +kernel) ?_
            refine wm_iconst 0 187 (by decide +kernel : decode cX8_readsLine 186 = .ok (.iconst 0, 1)) rfl (by decide +kernel) ?_
            refine wm_callVi mX8_perhaps 4 8 [_, _, _, _] [] _ _ 190 mo_X8_perhaps np_X8_perhaps ml_RX8_340 im_X8_perhaps se_X8_perhaps (by decide +kernel) (by decide +kernel) rfl rfl rfl (Nat.le_of_ble_eq_true rfl) (by decide +kernel) rfl (Nat.le_of_ble_eq_true rfl) _ (ent_pad 0 rfl) (l_X8_perhaps g _ _ _ _ _ _ H) (fun v32 h31 H hzv32 => ?_)
            refine wm_if_ne 193 195 (by decide +kernel : decode cX8_readsLine 190 = .ok (.ifCond .ne 5, 3)) (by decide) rfl (fun c33 => ?_) (fun c33 => ?_)
            · replace H := H.2 c33
              refine wm_aload_n 0 196 (by decide +kernel) rfl rfl ?_
              refine wm_getr 8 8 5 122 199 fl_RX8_22 (by decide +kernel) rfl (by decide +kernel) rfl rfl (by decide) ?_
              refine wm_iload_n 3 200 (by decide +kernel) rfl rfl ?_
              refine wm_bipush 6 202 (by decide +kernel : decode cX8_readsLine 200 = .ok (.bipush 6, 2)) rfl (by decide +kernel) ?_
              refine wm_iadd 203 (by decide +kernel) rfl ?_
              refine wm_aload_n 0 204 (by decide +kernel) rfl rfl ?_
              refine wm_geti 8 32 207 fl_RX8_328 (by decide +kernel) rfl (by decide +kernel) rfl ?_
              obtain ⟨o34, H⟩ := H
              replace H := H _ rfl
              refine wm_iast 80 208 (by decide +kernel) rfl (by decide +kernel) (by decide +kernel) o34 ?_
              refine wm_aload_n 0 209 (by decide +kernel) rfl rfl ?_
              refine wm_iconst 0 210 (by decide +kernel : decode cX8_readsLine 209 = .ok (.iconst 0, 1)) rfl (by decide +kernel) ?_
              refine wm_sipush 999 213 (by decide +kernel : decode cX8_readsLine 210 = .ok (.sipush 999, 3)) rfl (by decide +kernel) ?_
              refine wm_callVi mX8_takesNumber 2 8 [_, _] [] _ _ 216 mo_X8_takesNumber np_X8_takesNumber ml_RX8_337 im_X8_takesNumber se_X8_takesNumber (by decide +kernel) (by decide +kernel) rfl rfl rfl (Nat.le_of_ble_eq_true rfl) (by decide +kernel) rfl (Nat.le_of_ble_eq_true rfl) _ (ent_pad 0 rfl) (l_X8_takesNumber g _ _ _ _ H) (fun v37 h36 H hzv37 => ?_)
              refine wm_if_ne 219 221 (by decide +kernel : decode cX8_readsLine 216 = .ok (.ifCond .ne 5, 3)) (by decide) rfl (fun c38 => ?_) (fun c38 => ?_)
              · replace H := H.2 c38
                refine wm_aload_n 0 222 (by decide +kernel) rfl rfl ?_
                refine wm_getr 8 8 5 122 225 fl_RX8_22 (by decide +kernel) rfl (by decide +kernel) rfl rfl (by decide) ?_
                refine wm_iload_n 3 226 (by decide +kernel) rfl rfl ?_
                refine wm_bipush 7 228 (by decide +kernel : decode cX8_readsLine 226 = .ok (.bipush 7, 2)) rfl (by decide +kernel) ?_
                refine wm_iadd 229 (by decide +kernel) rfl ?_
                refine wm_aload_n 0 230 (by decide +kernel) rfl rfl ?_
                refine wm_geti 8 32 233 fl_RX8_328 (by decide +kernel) rfl (by decide +kernel) rfl ?_
                obtain ⟨o39, H⟩ := H
                replace H := H _ rfl
                refine wm_iast 80 234 (by decide +kernel) rfl (by decide +kernel) (by decide +kernel) o39 ?_
                refine wm_iconst 1 235 (by decide +kernel : decode cX8_readsLine 234 = .ok (.iconst 1, 1)) rfl (by decide +kernel) ?_
                exact wm_iret (by decide +kernel) ⟨.boolean, rfl, (by decide +kernel)⟩ H
              · replace H := H.1 c38
                refine wm_iconst 0 220 (by decide +kernel : decode cX8_readsLine 219 = .ok (.iconst 0, 1)) rfl (by decide +kernel) ?_
                exact wm_iret (by decide +kernel) ⟨.boolean, rfl, (by decide +kernel)⟩ H
            · replace H := H.1 c33
              refine wm_iconst 0 194 (by decide +kernel : decode cX8_readsLine 193 = .ok (.iconst 0, 1)) rfl (by decide +kernel) ?_
              exact wm_iret (by decide +kernel) ⟨.boolean, rfl, (by decide +kernel)⟩ H
          · replace H := H.1 c30
            refine wm_iconst 1 179 (by decide +kernel : decode cX8_readsLine 178 = .ok (.iconst 1, 1)) rfl (by decide +kernel) ?_
            exact wm_iret (by decide +kernel) ⟨.boolean, rfl, (by decide +kernel)⟩ H
        · replace H := H.1 c25
          refine wm_iconst 0 156 (by decide +kernel : decode cX8_readsLine 155 = .ok (.iconst 0, 1)) rfl (by decide +kernel) ?_
          exact wm_iret (by decide +kernel) ⟨.boolean, rfl, (by decide +kernel)⟩ H
      · replace H := H.1 c20
        refine wm_iconst 0 130 (by decide +kernel : decode cX8_readsLine 129 = .ok (.iconst 0, 1)) rfl (by decide +kernel) ?_
        exact wm_iret (by decide +kernel) ⟨.boolean, rfl, (by decide +kernel)⟩ H
    · replace H := H.1 c15
      refine wm_iconst 0 103 (by decide +kernel : decode cX8_readsLine 102 = .ok (.iconst 0, 1)) rfl (by decide +kernel) ?_
      exact wm_iret (by decide +kernel) ⟨.boolean, rfl, (by decide +kernel)⟩ H
  · replace H := H.1 c10
    refine wm_iconst 0 67 (by decide +kernel : decode cX8_readsLine 66 = .ok (.iconst 0, 1)) rfl (by decide +kernel) ?_
    exact wm_iret (by decide +kernel) ⟨.boolean, rfl, (by decide +kernel)⟩ H
set_option maxRecDepth 20000 in
theorem l_X8_readsLine (g : GE) (x1 : Int32)  (h : HP) (Q : Int32 → HP → Prop) (H : f_X8_readsLine x1 h Q) : Wm g mX8_readsLine 0 [some (.ref 117), some (.int x1), none, none] [] h (qi Q) := by
  unfold f_X8_readsLine at H
  refine wm_aload_n 0 1 (by decide +kernel) rfl rfl ?_
  refine wm_geti 8 7 4 fl_RX8_105 (by decide +kernel) rfl (by decide +kernel) rfl ?_
  refine wm_bipush 10 6 (by decide +kernel : decode cX8_readsLine 4 = .ok (.bipush 10, 2)) rfl (by decide +kernel) ?_
  refine wm_icmp_ne 9 11 (by decide +kernel : decode cX8_readsLine 6 = .ok (.if_icmp .ne 5, 3)) (by decide) rfl (fun c1 => ?_) (fun c1 => ?_)
  · replace H := H.2 c1
    refine wm_aload_n 0 12 (by decide +kernel) rfl rfl ?_
    refine wm_callVv mX8_next 0 8 [] [] _ _ 15 mo_X8_next np_X8_next ml_RX8_331 im_X8_next se_X8_next (by decide +kernel) (by decide +kernel) rfl rfl rfl (Nat.le_of_ble_eq_true rfl) (by decide +kernel) rfl (Nat.le_of_ble_eq_true rfl) _ (ent_pad 2 rfl) (l_X8_next g _ _ H) (fun h2 H => ?_)
    refine wm_aload_n 0 16 (by decide +kernel) rfl rfl ?_
    refine wm_iconst 0 17 (by decide +kernel : decode cX8_readsLine 16 = .ok (.iconst 0, 1)) rfl (by decide +kernel) ?_
    refine wm_aload_n 0 18 (by decide +kernel) rfl rfl ?_
    refine wm_geti 8 3 21 fl_RX8_97 (by decide +kernel) rfl (by decide +kernel) rfl ?_
    refine wm_iconst 1 22 (by decide +kernel : decode cX8_readsLine 21 = .ok (.iconst 1, 1)) rfl (by decide +kernel) ?_
    refine wm_isub 23 (by decide +kernel) rfl ?_
    refine wm_callVi mX8_takesNumber 2 8 [_, _] [] _ _ 26 mo_X8_takesNumber np_X8_takesNumber ml_RX8_337 im_X8_takesNumber se_X8_takesNumber (by decide +kernel) (by decide +kernel) rfl rfl rfl (Nat.le_of_ble_eq_true rfl) (by decide +kernel) rfl (Nat.le_of_ble_eq_true rfl) _ (ent_pad 0 rfl) (l_X8_takesNumber g _ _ _ _ H) (fun v4 h3 H hzv4 => ?_)
    refine wm_if_ne 29 31 (by decide +kernel : decode cX8_readsLine 26 = .ok (.ifCond .ne 5, 3)) (by decide) rfl (fun c5 => ?_) (fun c5 => ?_)
    · replace H := H.2 c5
      refine wm_aload_n 0 32 (by decide +kernel) rfl rfl ?_
      refine wm_geti 8 32 35 fl_RX8_328 (by decide +kernel) rfl (by decide +kernel) rfl ?_
      replace H := H _ rfl
      refine wm_istore_n 2 36 [some _, some _, some _, none] (by decide +kernel) rfl (by decide +kernel) (okS_spec rfl) rfl ?_
      refine wm_aload_n 0 37 (by decide +kernel) rfl rfl ?_
      refine wm_geti 8 29 40 fl_RX8_311 (by decide +kernel) rfl (by decide +kernel) rfl ?_
      refine wm_iconst 1 41 (by decide +kernel : decode cX8_readsLine 40 = .ok (.iconst 1, 1)) rfl (by decide +kernel) ?_
      refine wm_icmp_ne 44 52 (by decide +kernel : decode cX8_readsLine 41 = .ok (.if_icmp .ne 11, 3)) (by decide) rfl (fun c7 => ?_) (fun c7 => ?_)
      · replace H := H.2 c7
        exact l_X8_readsLine_J52 g _ _ _  _ H
      · replace H := H.1 c7
        refine wm_aload_n 0 45 (by decide +kernel) rfl rfl ?_
        refine wm_geti 8 30 48 fl_RX8_325 (by decide +kernel) rfl (by decide +kernel) rfl ?_
        refine wm_iload_n 2 49 (by decide +kernel) rfl rfl ?_
        refine wm_icmp_eq 52 66 (by decide +kernel : decode cX8_readsLine 49 = .ok (.if_icmp .eq 17, 3)) (by decide) rfl (fun c41 => ?_) (fun c41 => ?_)
        · replace H := H.1 c41
          refine wm_iconst 0 67 (by decide +kernel : decode cX8_readsLine 66 = .ok (.iconst 0, 1)) rfl (by decide +kernel) ?_
          exact wm_iret (by decide +kernel) ⟨.boolean, rfl, (by decide +kernel)⟩ H
        · replace H := H.2 c41
          exact l_X8_readsLine_J52 g _ _ _  _ H
    · replace H := H.1 c5
      refine wm_iconst 0 30 (by decide +kernel : decode cX8_readsLine 29 = .ok (.iconst 0, 1)) rfl (by decide +kernel) ?_
      exact wm_iret (by decide +kernel) ⟨.boolean, rfl, (by decide +kernel)⟩ H
  · replace H := H.1 c1
    refine wm_iconst 0 10 (by decide +kernel : decode cX8_readsLine 9 = .ok (.iconst 0, 1)) rfl (by decide +kernel) ?_
    exact wm_iret (by decide +kernel) ⟨.boolean, rfl, (by decide +kernel)⟩ H
def f_X8_readsItem  (h : HP) (Q : Int32 → HP → Prop) : Prop :=
  ∀ x1_1 : Int32, x1_1 = ((gi h 117 29) - 10) →
  f_X8_in ((x1_1 : Int32).toInt64) (0 : Int64) (3 : Int64) h (fun v3 h2 =>
  (((v3 = 0) →
    f_X8_in ((x1_1 : Int32).toInt64) (4 : Int64) (9 : Int64) h2 (fun v6 h5 =>
    (((v6 = 0) →
      Q 0 h5) ∧
     (¬ (v6 = 0) →
      f_X8_readsLine (x1_1 - 4) h5 (fun v9 h8 =>
      (((v9 = 0) →
        Q 0 h8) ∧
       (¬ (v9 = 0) →
        Q 1 h8))))))) ∧
   (¬ (v3 = 0) →
    f_X8_readsStation x1_1 h2 (fun v12 h11 =>
    Q v12 h11))))
set_option maxRecDepth 20000 in
theorem l_X8_readsItem (g : GE)   (h : HP) (Q : Int32 → HP → Prop) (H : f_X8_readsItem  h Q) : Wm g mX8_readsItem 0 [some (.ref 117), none] [] h (qi Q) := by
  unfold f_X8_readsItem at H
  refine wm_aload_n 0 1 (by decide +kernel) rfl rfl ?_
  refine wm_geti 8 29 4 fl_RX8_311 (by decide +kernel) rfl (by decide +kernel) rfl ?_
  refine wm_bipush 10 6 (by decide +kernel : decode cX8_readsItem 4 = .ok (.bipush 10, 2)) rfl (by decide +kernel) ?_
  refine wm_isub 7 (by decide +kernel) rfl ?_
  replace H := H _ rfl
  refine wm_istore_n 1 8 [some _, some _] (by decide +kernel) rfl (by decide +kernel) (okS_spec rfl) rfl ?_
  refine wm_iload_n 1 9 (by decide +kernel) rfl rfl ?_
  refine wm_i2l 10 (by decide +kernel) rfl ?_
  refine wm_lconst 0 11 (by decide +kernel : decode cX8_readsItem 10 = .ok (.lconst 0, 1)) rfl (by decide +kernel) ?_
  refine wm_ldc2 3 14 cl_RX8_125 (by decide +kernel) rfl ?_
  refine wm_callSi mX8_in 3 [_, _, _] [] _ _ 17 mo_X8_in np_X8_in ml_RX8_101 sc_X8_in (by decide +kernel) (by decide +kernel) rfl rfl rfl (Nat.le_of_ble_eq_true rfl) (Nat.le_of_ble_eq_true rfl) _ (ent_pad 0 rfl) (l_X8_in g _ _ _ _ _ H) (fun v3 h2 H hzv3 => ?_)
  refine wm_if_eq 20 28 (by decide +kernel : decode cX8_readsItem 17 = .ok (.ifCond .eq 11, 3)) (by decide) rfl (fun c4 => ?_) (fun c4 => ?_)
  · replace H := H.1 c4
    refine wm_iload_n 1 29 (by decide +kernel) rfl rfl ?_
    refine wm_i2l 30 (by decide +kernel) rfl ?_
    refine wm_ldc2 4 33 cl_RX8_297 (by decide +kernel) rfl ?_
    refine wm_ldc2 9 36 cl_RX8_146 (by decide +kernel) rfl ?_
    refine wm_callSi mX8_in 3 [_, _, _] [] _ _ 39 mo_X8_in np_X8_in ml_RX8_101 sc_X8_in (by decide +kernel) (by decide +kernel) rfl rfl rfl (Nat.le_of_ble_eq_true rfl) (Nat.le_of_ble_eq_true rfl) _ (ent_pad 0 rfl) (l_X8_in g _ _ _ _ _ H) (fun v6 h5 H hzv6 => ?_)
    refine wm_if_eq 42 56 (by decide +kernel : decode cX8_readsItem 39 = .ok (.ifCond .eq 17, 3)) (by decide) rfl (fun c7 => ?_) (fun c7 => ?_)
    · replace H := H.1 c7
      refine wm_iconst 0 57 (by decide +kernel : decode cX8_readsItem 56 = .ok (.iconst 0, 1)) rfl (by decide +kernel) ?_
      exact wm_iret (by decide +kernel) ⟨.boolean, rfl, (by decide +kernel)⟩ H
    · replace H := H.2 c7
      refine wm_aload_n 0 43 (by decide +kernel) rfl rfl ?_
      refine wm_iload_n 1 44 (by decide +kernel) rfl rfl ?_
      refine wm_iconst 4 45 (by decide +kernel : decode cX8_readsItem 44 = .ok (.iconst 4, 1)) rfl (by decide +kernel) ?_
      refine wm_isub 46 (by decide +kernel) rfl ?_
      refine wm_callVi mX8_readsLine 1 8 [_] [] _ _ 49 mo_X8_readsLine np_X8_readsLine ml_RX8_346 im_X8_readsLine se_X8_readsLine (by decide +kernel) (by decide +kernel) rfl rfl rfl (Nat.le_of_ble_eq_true rfl) (by decide +kernel) rfl (Nat.le_of_ble_eq_true rfl) _ (ent_pad 2 rfl) (l_X8_readsLine g _ _ _ H) (fun v9 h8 H hzv9 => ?_)
      refine wm_if_eq 52 56 (by decide +kernel : decode cX8_readsItem 49 = .ok (.ifCond .eq 7, 3)) (by decide) rfl (fun c10 => ?_) (fun c10 => ?_)
      · replace H := H.1 c10
        refine wm_iconst 0 57 (by decide +kernel : decode cX8_readsItem 56 = .ok (.iconst 0, 1)) rfl (by decide +kernel) ?_
        exact wm_iret (by decide +kernel) ⟨.boolean, rfl, (by decide +kernel)⟩ H
      · replace H := H.2 c10
        refine wm_iconst 1 53 (by decide +kernel : decode cX8_readsItem 52 = .ok (.iconst 1, 1)) rfl (by decide +kernel) ?_
        refine wm_goto 57 (by decide +kernel : decode cX8_readsItem 53 = .ok (.goto 4, 3)) (by decide) ?_
        exact wm_iret (by decide +kernel) ⟨.boolean, rfl, (by decide +kernel)⟩ H
  · replace H := H.2 c4
    refine wm_aload_n 0 21 (by decide +kernel) rfl rfl ?_
    refine wm_iload_n 1 22 (by decide +kernel) rfl rfl ?_
    refine wm_callVi mX8_readsStation 1 8 [_] [] _ _ 25 mo_X8_readsStation np_X8_readsStation ml_RX8_343 im_X8_readsStation se_X8_readsStation (by decide +kernel) (by decide +kernel) rfl rfl rfl (Nat.le_of_ble_eq_true rfl) (by decide +kernel) rfl (Nat.le_of_ble_eq_true rfl) _ (ent_pad 1 rfl) (l_X8_readsStation g _ _ _ H) (fun v12 h11 H hzv12 => ?_)
    refine wm_goto 57 (by decide +kernel : decode cX8_readsItem 25 = .ok (.goto 32, 3)) (by decide) ?_
    exact wm_iret (by decide +kernel) ⟨.boolean, rfl, (rv_bool hzv12 rfl)⟩ H
def f_X8_text_L27 (x1 : Int32) (x2 : Int32) (k55 : Int32 → Int32 → HP → Prop) (Q : Int32 → HP → Prop) : Nat → Int32 → Int32 → HP → Prop
  | 0, _, _, _ => False
  | n + 1, x3, x4, h =>
    (((x4 = 0) →
      k55 x3 x4 h) ∧
     (¬ (x4 = 0) →
      ((((gi h 117 29) = 0) →
        f_X8_next h (fun h9 =>
        f_X8_readsItem h9 (fun v11 h10 =>
        ∀ x3_12 : Int32, x3_12 = (x3 + 1) →
        f_X8_text_L27 x1 x2 k55 Q n x3_12 v11 h10))) ∧
       (¬ ((gi h 117 29) = 0) →
        k55 x3 x4 h))))
def f_X8_text_J73 (x1 : Int32) (x2 : Int32) (x3 : Int32) (xs0 : Int32)  (Q : Int32 → HP → Prop) (h : HP) : Prop :=
  ∀ h17 : HP, h17 = si h 117 26 0 →
  (((xs0 = 0) →
    ∀ h19 : HP, h19 = si h17 117 3 x1 →
    ∀ h20 : HP, h20 = si h19 117 7 x2 →
    Q ((-1 : Int32) - (gi h20 117 28)) h20) ∧
   (¬ (xs0 = 0) →
    Q x3 h17))
def f_X8_text_J55 (x1 : Int32) (x2 : Int32) (x3 : Int32) (x4 : Int32)  (Q : Int32 → HP → Prop) (h : HP) : Prop :=
  (((x4 = 0) →
    f_X8_text_J73 x1 x2 x3 0  Q h) ∧
   (¬ (x4 = 0) →
    ((((gi h 117 29) = (-1 : Int32)) →
      f_X8_text_J73 x1 x2 x3 1  Q h) ∧
     (¬ ((gi h 117 29) = (-1 : Int32)) →
      f_X8_text_J73 x1 x2 x3 0  Q h))))
def f_X8_text  (h : HP) (Q : Int32 → HP → Prop) : Prop :=
  ∀ x1_1 : Int32, x1_1 = (gi h 117 3) →
  ∀ x2_2 : Int32, x2_2 = (gi h 117 7) →
  ∀ h3 : HP, h3 = si h 117 27 0 →
  f_X8_next h3 (fun h4 =>
  f_X8_readsItem h4 (fun v6 h5 =>
  ∃ n22, f_X8_text_L27 x1_1 x2_2
    (fun x3_13 x4_14 h15 =>
      f_X8_text_J55 x1_1 x2_2 x3_13 x4_14  Q h15)
    Q n22 1 v6 h5))
set_option maxRecDepth 20000 in
theorem l_X8_text_L27 (g : GE) (x1 : Int32) (x2 : Int32)  (k55 : Int32 → Int32 → HP → Prop) (Q : Int32 → HP → Prop) (hk55 : ∀ (x3 : Int32) (x4 : Int32) (hzx4 : narrow .boolean (.int x4) = .int x4) (h : HP), k55 x3 x4 h → Wm g mX8_text 55 [some (.ref 117), some (.int x1), some (.int x2), some (.int x3), some (.int x4)] [] h (qi Q)) : ∀ (n : Nat) (x3 : Int32) (x4 : Int32) (hzx4 : narrow .boolean (.int x4) = .int x4) (h : HP), f_X8_text_L27 x1 x2 k55 Q n x3 x4 h → Wm g mX8_text 27 [some (.ref 117), some (.int x1), some (.int x2), some (.int x3), some (.int x4)] [] h (qi Q) := by
  intro n
  induction n with
  | zero => intro x3 x4 hzx4 h H; exact H.elim
  | succ n ih =>
    intro x3 x4 hzx4 h H
    unfold f_X8_text_L27 at H
    refine wm_iload 4 29 (by decide +kernel) rfl rfl ?_
    refine wm_if_eq 32 55 (by decide +kernel : decode cX8_text 29 = .ok (.ifCond .eq 26, 3)) (by decide) rfl (fun c7 => ?_) (fun c7 => ?_)
    · replace H := H.1 c7
      exact hk55 _ _ hzx4 _ H
    · replace H := H.2 c7
      refine wm_aload_n 0 33 (by decide +kernel) rfl rfl ?_
      refine wm_geti 8 29 36 fl_RX8_311 (by decide +kernel) rfl (by decide +kernel) rfl ?_
      refine wm_if_ne 39 55 (by decide +kernel : decode cX8_text 36 = .ok (.ifCond .ne 19, 3)) (by decide) rfl (fun c8 => ?_) (fun c8 => ?_)
      · replace H := H.2 c8
        exact hk55 _ _ hzx4 _ H
      · replace H := H.1 c8
        refine wm_aload_n 0 40 (by decide +kernel) rfl rfl ?_
        refine wm_callVv mX8_next 0 8 [] [] _ _ 43 mo_X8_next np_X8_next ml_RX8_331 im_X8_next se_X8_next (by decide +kernel) (by decide +kernel) rfl rfl rfl (Nat.le_of_ble_eq_true rfl) (by decide +kernel) rfl (Nat.le_of_ble_eq_true rfl) _ (ent_pad 2 rfl) (l_X8_next g _ _ H) (fun h9 H => ?_)
        refine wm_aload_n 0 44 (by decide +kernel) rfl rfl ?_
        refine wm_callVi mX8_readsItem 0 8 [] [] _ _ 47 mo_X8_readsItem np_X8_readsItem ml_RX8_349 im_X8_readsItem se_X8_readsItem (by decide +kernel) (by decide +kernel) rfl rfl rfl (Nat.le_of_ble_eq_true rfl) (by decide +kernel) rfl (Nat.le_of_ble_eq_true rfl) _ (ent_pad 1 rfl) (l_X8_readsItem g _ _ H) (fun v11 h10 H hzv11 => ?_)
        refine wm_istore 4 49 [some _, some _, some _, some _, some _] (by decide +kernel) rfl (by decide +kernel) (okS_spec rfl) rfl ?_
        replace H := H _ rfl
        refine wm_iinc 3 (_ + 1) 52 [some _, some _, some _, some _, some _] (by decide +kernel : decode cX8_text 49 = .ok (.iinc 3 1, 3)) rfl (by decide +kernel) rfl (ofI_eq (by decide +kernel)) (okS_spec rfl) rfl ?_
        refine wm_goto 27 (by decide +kernel : decode cX8_text 52 = .ok (.goto (-25), 3)) (by decide) ?_
        exact ih _ _ (rv_bool hzv11 rfl) _ H
set_option maxRecDepth 20000 in
theorem l_X8_text_J73 (g : GE) (x1 : Int32) (x2 : Int32) (x3 : Int32) (xs0 : Int32) (hzxs0 : narrow .boolean (.int xs0) = .int xs0)  (Q : Int32 → HP → Prop)  (h : HP) (H : f_X8_text_J73 x1 x2 x3 xs0  Q h) : Wm g mX8_text 73 [some (.ref 117), some (.int x1), some (.int x2), some (.int x3), none] [(.int xs0)] h (qi Q) := by
  unfold f_X8_text_J73 at H
  refine wm_istore 4 75 [some _, some _, some _, some _, some _] (by decide +kernel) rfl (by decide +kernel) (okS_spec rfl) rfl ?_
  refine wm_aload_n 0 76 (by decide +kernel) rfl rfl ?_
  refine wm_iconst 0 77 (by decide +kernel : decode cX8_text 76 = .ok (.iconst 0, 1)) rfl (by decide +kernel) ?_
  replace H := H _ rfl
  refine wm_puti 8 26 80 fl_RX8_299 (by decide +kernel) rfl (by decide +kernel) rfl rfl ⟨rfl, rfl⟩ ?_
  refine wm_iload 4 82 (by decide +kernel) rfl rfl ?_
  refine wm_if_eq 85 87 (by decide +kernel : decode cX8_text 82 = .ok (.ifCond .eq 5, 3)) (by decide) rfl (fun c18 => ?_) (fun c18 => ?_)
  · replace H := H.1 c18
    refine wm_aload_n 0 88 (by decide +kernel) rfl rfl ?_
    refine wm_iload_n 1 89 (by decide +kernel) rfl rfl ?_
    replace H := H _ rfl
    refine wm_puti 8 3 92 fl_RX8_97 (by decide +kernel) rfl (by decide +kernel) rfl rfl ⟨rfl, rfl⟩ ?_
    refine wm_aload_n 0 93 (by decide +kernel) rfl rfl ?_
    refine wm_iload_n 2 94 (by decide +kernel) rfl rfl ?_
    replace H := H _ rfl
    refine wm_puti 8 7 97 fl_RX8_105 (by decide +kernel) rfl (by decide +kernel) rfl rfl ⟨rfl, rfl⟩ ?_
    refine wm_iconst (-1) 98 (by decide +kernel : decode cX8_text 97 = .ok (.iconst (-1), 1)) rfl (by decide +kernel) ?_
    refine wm_aload_n 0 99 (by decide +kernel) rfl rfl ?_
    refine wm_geti 8 28 102 fl_RX8_305 (by decide +kernel) rfl (by decide +kernel) rfl ?_
    refine wm_isub 103 (by decide +kernel) rfl ?_
    exact wm_iret (by decide +kernel) ⟨.int, rfl, rfl⟩ H
  · replace H := H.2 c18
    refine wm_iload_n 3 86 (by decide +kernel) rfl rfl ?_
    exact wm_iret (by decide +kernel) ⟨.int, rfl, rfl⟩ H
set_option maxRecDepth 20000 in
theorem l_X8_text_J55 (g : GE) (x1 : Int32) (x2 : Int32) (x3 : Int32) (x4 : Int32) (hzx4 : narrow .boolean (.int x4) = .int x4)  (Q : Int32 → HP → Prop)  (h : HP) (H : f_X8_text_J55 x1 x2 x3 x4  Q h) : Wm g mX8_text 55 [some (.ref 117), some (.int x1), some (.int x2), some (.int x3), some (.int x4)] [] h (qi Q) := by
  unfold f_X8_text_J55 at H
  refine wm_iload 4 57 (by decide +kernel) rfl rfl ?_
  refine wm_if_eq 60 72 (by decide +kernel : decode cX8_text 57 = .ok (.ifCond .eq 15, 3)) (by decide) rfl (fun c16 => ?_) (fun c16 => ?_)
  · replace H := H.1 c16
    refine wm_iconst 0 73 (by decide +kernel : decode cX8_text 72 = .ok (.iconst 0, 1)) rfl (by decide +kernel) ?_
    refine wm_mask [true, true, true, true, false] [some _, some _, some _, some _, none] rfl ?_
    exact l_X8_text_J73 g _ _ _ _ (by decide +kernel) _  _ H
  · replace H := H.2 c16
    refine wm_aload_n 0 61 (by decide +kernel) rfl rfl ?_
    refine wm_geti 8 29 64 fl_RX8_311 (by decide +kernel) rfl (by decide +kernel) rfl ?_
    refine wm_iconst (-1) 65 (by decide +kernel : decode cX8_text 64 = .ok (.iconst (-1), 1)) rfl (by decide +kernel) ?_
    refine wm_icmp_ne 68 72 (by decide +kernel : decode cX8_text 65 = .ok (.if_icmp .ne 7, 3)) (by decide) rfl (fun c21 => ?_) (fun c21 => ?_)
    · replace H := H.2 c21
      refine wm_iconst 0 73 (by decide +kernel : decode cX8_text 72 = .ok (.iconst 0, 1)) rfl (by decide +kernel) ?_
      refine wm_mask [true, true, true, true, false] [some _, some _, some _, some _, none] rfl ?_
      exact l_X8_text_J73 g _ _ _ _ (by decide +kernel) _  _ H
    · replace H := H.1 c21
      refine wm_iconst 1 69 (by decide +kernel : decode cX8_text 68 = .ok (.iconst 1, 1)) rfl (by decide +kernel) ?_
      refine wm_goto 73 (by decide +kernel : decode cX8_text 69 = .ok (.goto 4, 3)) (by decide) ?_
      refine wm_mask [true, true, true, true, false] [some _, some _, some _, some _, none] rfl ?_
      exact l_X8_text_J73 g _ _ _ _ (by decide +kernel) _  _ H
set_option maxRecDepth 20000 in
theorem l_X8_text (g : GE)   (h : HP) (Q : Int32 → HP → Prop) (H : f_X8_text  h Q) : Wm g mX8_text 0 [some (.ref 117), none, none, none, none] [] h (qi Q) := by
  unfold f_X8_text at H
  refine wm_aload_n 0 1 (by decide +kernel) rfl rfl ?_
  refine wm_geti 8 3 4 fl_RX8_97 (by decide +kernel) rfl (by decide +kernel) rfl ?_
  replace H := H _ rfl
  refine wm_istore_n 1 5 [some _, some _, none, none, none] (by decide +kernel) rfl (by decide +kernel) (okS_spec rfl) rfl ?_
  refine wm_aload_n 0 6 (by decide +kernel) rfl rfl ?_
  refine wm_geti 8 7 9 fl_RX8_105 (by decide +kernel) rfl (by decide +kernel) rfl ?_
  replace H := H _ rfl
  refine wm_istore_n 2 10 [some _, some _, some _, none, none] (by decide +kernel) rfl (by decide +kernel) (okS_spec rfl) rfl ?_
  refine wm_aload_n 0 11 (by decide +kernel) rfl rfl ?_
  refine wm_iconst 0 12 (by decide +kernel : decode cX8_text 11 = .ok (.iconst 0, 1)) rfl (by decide +kernel) ?_
  replace H := H _ rfl
  refine wm_puti 8 27 15 fl_RX8_302 (by decide +kernel) rfl (by decide +kernel) rfl rfl ⟨rfl, rfl⟩ ?_
  refine wm_aload_n 0 16 (by decide +kernel) rfl rfl ?_
  refine wm_callVv mX8_next 0 8 [] [] _ _ 19 mo_X8_next np_X8_next ml_RX8_331 im_X8_next se_X8_next (by decide +kernel) (by decide +kernel) rfl rfl rfl (Nat.le_of_ble_eq_true rfl) (by decide +kernel) rfl (Nat.le_of_ble_eq_true rfl) _ (ent_pad 2 rfl) (l_X8_next g _ _ H) (fun h4 H => ?_)
  refine wm_iconst 1 20 (by decide +kernel : decode cX8_text 19 = .ok (.iconst 1, 1)) rfl (by decide +kernel) ?_
  refine wm_istore_n 3 21 [some _, some _, some _, some _, none] (by decide +kernel) rfl (by decide +kernel) (okS_spec rfl) rfl ?_
  refine wm_aload_n 0 22 (by decide +kernel) rfl rfl ?_
  refine wm_callVi mX8_readsItem 0 8 [] [] _ _ 25 mo_X8_readsItem np_X8_readsItem ml_RX8_349 im_X8_readsItem se_X8_readsItem (by decide +kernel) (by decide +kernel) rfl rfl rfl (Nat.le_of_ble_eq_true rfl) (by decide +kernel) rfl (Nat.le_of_ble_eq_true rfl) _ (ent_pad 1 rfl) (l_X8_readsItem g _ _ H) (fun v6 h5 H hzv6 => ?_)
  refine wm_istore 4 27 [some _, some _, some _, some _, some _] (by decide +kernel) rfl (by decide +kernel) (okS_spec rfl) rfl ?_
  obtain ⟨n22, H⟩ := H
  refine l_X8_text_L27 g _ _ _ _ (fun x3_13 x4_14 hzx4_14 h15 H => ?_) _ _ _ (rv_bool hzv6 rfl) _ H
  · skip
    exact l_X8_text_J55 g _ _ _ _ hzx4_14 _  _ H
def f_X8_narrow (x0 : Int32) (x1 : Int64) (h : HP) (Q : Int64 → HP → Prop) : Prop :=
  (((x0 = 16) →
    Q ((((x1 : Int64).toInt32 : Int32).toInt16.toInt32 : Int32).toInt64) h) ∧
   (¬ (x0 = 16) →
    (((x0 = 32) →
      Q (((x1 : Int64).toInt32 : Int32).toInt64) h) ∧
     (¬ (x0 = 32) →
      Q x1 h))))
set_option maxRecDepth 20000 in
theorem l_X8_narrow (g : GE) (x0 : Int32) (x1 : Int64)  (h : HP) (Q : Int64 → HP → Prop) (H : f_X8_narrow x0 x1 h Q) : Wm g mX8_narrow 0 [some (.int x0), some (.long x1), none] [] h (ql Q) := by
  unfold f_X8_narrow at H
  refine wm_iload_n 0 1 (by decide +kernel) rfl rfl ?_
  refine wm_bipush 16 3 (by decide +kernel : decode cX8_narrow 1 = .ok (.bipush 16, 2)) rfl (by decide +kernel) ?_
  refine wm_icmp_ne 6 13 (by decide +kernel : decode cX8_narrow 3 = .ok (.if_icmp .ne 10, 3)) (by decide) rfl (fun c1 => ?_) (fun c1 => ?_)
  · replace H := H.2 c1
    refine wm_iload_n 0 14 (by decide +kernel) rfl rfl ?_
    refine wm_bipush 32 16 (by decide +kernel : decode cX8_narrow 14 = .ok (.bipush 32, 2)) rfl (by decide +kernel) ?_
    refine wm_icmp_ne 19 25 (by decide +kernel : decode cX8_narrow 16 = .ok (.if_icmp .ne 9, 3)) (by decide) rfl (fun c2 => ?_) (fun c2 => ?_)
    · replace H := H.2 c2
      refine wm_lload_n 1 26 (by decide +kernel) rfl rfl ?_
      exact wm_lret (by decide +kernel) rfl H
    · replace H := H.1 c2
      refine wm_lload_n 1 20 (by decide +kernel) rfl rfl ?_
      refine wm_l2i 21 (by decide +kernel) rfl ?_
      refine wm_i2l 22 (by decide +kernel) rfl ?_
      refine wm_goto 26 (by decide +kernel : decode cX8_narrow 22 = .ok (.goto 4, 3)) (by decide) ?_
      exact wm_lret (by decide +kernel) rfl H
  · replace H := H.1 c1
    refine wm_lload_n 1 7 (by decide +kernel) rfl rfl ?_
    refine wm_l2i 8 (by decide +kernel) rfl ?_
    refine wm_i2s 9 (by decide +kernel) rfl ?_
    refine wm_i2l 10 (by decide +kernel) rfl ?_
    refine wm_goto 26 (by decide +kernel : decode cX8_narrow 10 = .ok (.goto 16, 3)) (by decide) ?_
    exact wm_lret (by decide +kernel) rfl H
def f_X8_sheet_L94 (x1 : Int32)  (Q : Int32 → HP → Prop) : Nat → Int32 → HP → Prop
  | 0, _, _ => False
  | n + 1, x4, h =>
    (((40 ≤ x4) →
      vp_in x1 4 ∧
      Q (gi h 141 (ix x1)) h) ∧
     (¬ (40 ≤ x4) →
      vp_in ((40 * x1) + x4) 160 ∧
      ∀ h18 : HP, h18 = sl h 142 (ix ((40 * x1) + x4)) (0 : Int64) →
      ∀ x4_19 : Int32, x4_19 = (x4 + 1) →
      f_X8_sheet_L94 x1 Q n x4_19 h18))
def f_X8_sheet_J69 (x1 : Int32) (x2 : Int32) (x3 : Int32)  (Q : Int32 → HP → Prop) (h : HP) : Prop :=
  vp_in x1 4 ∧
  ∀ h10 : HP, h10 = si h 140 (ix x1) x2 →
  vp_in x1 4 ∧
  ∀ h14 : HP, h14 = si h10 141 (ix x1) (if x2 = 0 then (0 : Int32) else x3) →
  ∃ n20, f_X8_sheet_L94 x1
    Q n20 0 h14
def f_X8_sheet_J52 (x1 : Int32) (x2 : Int32) (x3 : Int32)  (Q : Int32 → HP → Prop) (h : HP) : Prop :=
  (((x2 = 0) →
    f_X8_sheet_J69 x1 x2 x3  Q h) ∧
   (¬ (x2 = 0) →
    (((x3 ≤ 40) →
      f_X8_sheet_J69 x1 x2 x3  Q h) ∧
     (¬ (x3 ≤ 40) →
      f_X8_finds (-1000000001 : Int32) h (fun v23 h22 =>
      Q v23 h22)))))
def f_X8_sheet_J36 (x1 : Int32) (x2 : Int32) (x3 : Int32)  (Q : Int32 → HP → Prop) (h : HP) : Prop :=
  (((x2 = 0) →
    f_X8_sheet_J52 x1 x2 x3  Q h) ∧
   (¬ (x2 = 0) →
    (((0 ≤ x3) →
      f_X8_sheet_J52 x1 x2 x3  Q h) ∧
     (¬ (0 ≤ x3) →
      f_X8_finds (-1000000007 : Int32) h (fun v26 h25 =>
      Q v26 h25)))))
def f_X8_sheet (x1 : Int32) (x2 : Int32) (x3 : Int32) (h : HP) (Q : Int32 → HP → Prop) : Prop :=
  f_X8_isSheet x1 h (fun v2 h1 =>
  (((v2 = 0) →
    f_X8_finds (-1000000001 : Int32) h1 (fun v5 h4 =>
    Q v5 h4)) ∧
   (¬ (v2 = 0) →
    (((x2 = 0) →
      f_X8_sheet_J36 x1 x2 x3  Q h1) ∧
     (¬ (x2 = 0) →
      (((x2 = 16) →
        f_X8_sheet_J36 x1 x2 x3  Q h1) ∧
       (¬ (x2 = 16) →
        (((x2 = 32) →
          f_X8_sheet_J36 x1 x2 x3  Q h1) ∧
         (¬ (x2 = 32) →
          (((x2 = 64) →
            f_X8_sheet_J36 x1 x2 x3  Q h1) ∧
           (¬ (x2 = 64) →
            f_X8_finds (-1000000001 : Int32) h1 (fun v31 h30 =>
            Q v31 h30))))))))))))
set_option maxRecDepth 20000 in
theorem l_X8_sheet_L94 (g : GE) (x1 : Int32)   (Q : Int32 → HP → Prop)  : ∀ (n : Nat) (x4 : Int32) (h : HP), f_X8_sheet_L94 x1 Q n x4 h → Wm g mX8_sheet 94 [some (.ref 117), some (.int x1), none, none, some (.int x4)] [] h (qi Q) := by
  intro n
  induction n with
  | zero => intro x4 h H; exact H.elim
  | succ n ih =>
    intro x4 h H
    unfold f_X8_sheet_L94 at H
    refine wm_iload 4 96 (by decide +kernel) rfl rfl ?_
    refine wm_bipush 40 98 (by decide +kernel : decode cX8_sheet 96 = .ok (.bipush 40, 2)) rfl (by decide +kernel) ?_
    refine wm_icmp_ge 101 120 (by decide +kernel : decode cX8_sheet 98 = .ok (.if_icmp .ge 22, 3)) (by decide) rfl (fun c15 => ?_) (fun c15 => ?_)
    · replace H := H.1 c15
      refine wm_aload_n 0 121 (by decide +kernel) rfl rfl ?_
      refine wm_getr 8 34 24 141 124 fl_RX8_80 (by decide +kernel) rfl (by decide +kernel) rfl rfl (by decide) ?_
      refine wm_iload_n 1 125 (by decide +kernel) rfl rfl ?_
      obtain ⟨o16, H⟩ := H
      refine wm_iald 4 126 (by decide +kernel) rfl (by decide +kernel) (by decide +kernel) o16 ?_
      exact wm_iret (by decide +kernel) ⟨.int, rfl, rfl⟩ H
    · replace H := H.2 c15
      refine wm_aload_n 0 102 (by decide +kernel) rfl rfl ?_
      refine wm_getr 8 35 25 142 105 fl_RX8_83 (by decide +kernel) rfl (by decide +kernel) rfl rfl (by decide) ?_
      refine wm_bipush 40 107 (by decide +kernel : decode cX8_sheet 105 = .ok (.bipush 40, 2)) rfl (by decide +kernel) ?_
      refine wm_iload_n 1 108 (by decide +kernel) rfl rfl ?_
      refine wm_imul 109 (by decide +kernel) rfl ?_
      refine wm_iload 4 111 (by decide +kernel) rfl rfl ?_
      refine wm_iadd 112 (by decide +kernel) rfl ?_
      refine wm_lconst 0 113 (by decide +kernel : decode cX8_sheet 112 = .ok (.lconst 0, 1)) rfl (by decide +kernel) ?_
      obtain ⟨o17, H⟩ := H
      replace H := H _ rfl
      refine wm_last 160 114 (by decide +kernel) rfl (by decide +kernel) (by decide +kernel) o17 ?_
      replace H := H _ rfl
      refine wm_iinc 4 (_ + 1) 117 [some _, some _, none, none, some _] (by decide +kernel : decode cX8_sheet 114 = .ok (.iinc 4 1, 3)) rfl (by decide +kernel) rfl (ofI_eq (by decide +kernel)) (okS_spec rfl) rfl ?_
      refine wm_goto 94 (by decide +kernel : decode cX8_sheet 117 = .ok (.goto (-23), 3)) (by decide) ?_
      exact ih _ _ H
set_option maxRecDepth 20000 in
theorem l_X8_sheet_J69 (g : GE) (x1 : Int32) (x2 : Int32) (x3 : Int32)   (Q : Int32 → HP → Prop)  (h : HP) (H : f_X8_sheet_J69 x1 x2 x3  Q h) : Wm g mX8_sheet 69 [some (.ref 117), some (.int x1), some (.int x2), some (.int x3), none] [] h (qi Q) := by
  unfold f_X8_sheet_J69 at H
  refine wm_aload_n 0 70 (by decide +kernel) rfl rfl ?_
  refine wm_getr 8 33 23 140 73 fl_RX8_77 (by decide +kernel) rfl (by decide +kernel) rfl rfl (by decide) ?_
  refine wm_iload_n 1 74 (by decide +kernel) rfl rfl ?_
  refine wm_iload_n 2 75 (by decide +kernel) rfl rfl ?_
  obtain ⟨o9, H⟩ := H
  replace H := H _ rfl
  refine wm_iast 4 76 (by decide +kernel) rfl (by decide +kernel) (by decide +kernel) o9 ?_
  refine wm_aload_n 0 77 (by decide +kernel) rfl rfl ?_
  refine wm_getr 8 34 24 141 80 fl_RX8_80 (by decide +kernel) rfl (by decide +kernel) rfl rfl (by decide) ?_
  refine wm_iload_n 1 81 (by decide +kernel) rfl rfl ?_
  refine wm_iload_n 2 82 (by decide +kernel) rfl rfl ?_
  refine' wm_dia (pcJ := 90) (fun kt kf => wm_if_ne 85 89 (by decide +kernel : decode cX8_sheet 82 = .ok (.ifCond .ne 7, 3)) (by decide) rfl kf kt) ?D12k (fun kj c1 => ?D12t) (fun kj c1 => ?D12f)
  case D12t =>
    refine wm_iconst 0 86 (by decide +kernel : decode cX8_sheet 85 = .ok (.iconst 0, 1)) rfl (by decide +kernel) ?_
    refine wm_goto 90 (by decide +kernel : decode cX8_sheet 86 = .ok (.goto 4, 3)) (by decide) ?_
    exact kj
  case D12f =>
    refine wm_iload_n 3 90 (by decide +kernel) rfl rfl ?_
    exact kj
  case D12k =>
    obtain ⟨o13, H⟩ := H
    replace H := H _ rfl
    refine wm_iast 4 91 (by decide +kernel) rfl (by decide +kernel) (by decide +kernel) o13 ?_
    refine wm_iconst 0 92 (by decide +kernel : decode cX8_sheet 91 = .ok (.iconst 0, 1)) rfl (by decide +kernel) ?_
    refine wm_istore 4 94 [some _, some _, some _, some _, some _] (by decide +kernel) rfl (by decide +kernel) (okS_spec rfl) rfl ?_
    obtain ⟨n20, H⟩ := H
    refine wm_mask [true, true, false, false, true] [some _, some _, none, none, some _] rfl ?_
    refine l_X8_sheet_L94 g _ _  _ _ _ H
set_option maxRecDepth 20000 in
theorem l_X8_sheet_J52 (g : GE) (x1 : Int32) (x2 : Int32) (x3 : Int32)   (Q : Int32 → HP → Prop)  (h : HP) (H : f_X8_sheet_J52 x1 x2 x3  Q h) : Wm g mX8_sheet 52 [some (.ref 117), some (.int x1), some (.int x2), some (.int x3), none] [] h (qi Q) := by
  unfold f_X8_sheet_J52 at H
  refine wm_iload_n 2 53 (by decide +kernel) rfl rfl ?_
  refine wm_if_eq 56 69 (by decide +kernel : decode cX8_sheet 53 = .ok (.ifCond .eq 16, 3)) (by decide) rfl (fun c8 => ?_) (fun c8 => ?_)
  · replace H := H.1 c8
    exact l_X8_sheet_J69 g _ _ _ _  _ H
  · replace H := H.2 c8
    refine wm_iload_n 3 57 (by decide +kernel) rfl rfl ?_
    refine wm_bipush 40 59 (by decide +kernel : decode cX8_sheet 57 = .ok (.bipush 40, 2)) rfl (by decide +kernel) ?_
    refine wm_icmp_le 62 69 (by decide +kernel : decode cX8_sheet 59 = .ok (.if_icmp .le 10, 3)) (by decide) rfl (fun c21 => ?_) (fun c21 => ?_)
    · replace H := H.1 c21
      exact l_X8_sheet_J69 g _ _ _ _  _ H
    · replace H := H.2 c21
      refine wm_aload_n 0 63 (by decide +kernel) rfl rfl ?_
      refine wm_ldc (-1000000001) 65 co_RX8_96 (by decide +kernel) rfl ?_
      refine wm_callVi mX8_finds 1 8 [_] [] _ _ 68 mo_X8_finds np_X8_finds ml_RX8_129 im_X8_finds se_X8_finds (by decide +kernel) (by decide +kernel) rfl rfl rfl (Nat.le_of_ble_eq_true rfl) (by decide +kernel) rfl (Nat.le_of_ble_eq_true rfl) _ (ent_pad 0 rfl) (l_X8_finds g _ _ _ H) (fun v23 h22 H hzv23 => ?_)
      exact wm_iret (by decide +kernel) ⟨.int, rfl, rfl⟩ H
set_option maxRecDepth 20000 in
theorem l_X8_sheet_J36 (g : GE) (x1 : Int32) (x2 : Int32) (x3 : Int32)   (Q : Int32 → HP → Prop)  (h : HP) (H : f_X8_sheet_J36 x1 x2 x3  Q h) : Wm g mX8_sheet 36 [some (.ref 117), some (.int x1), some (.int x2), some (.int x3), none] [] h (qi Q) := by
  unfold f_X8_sheet_J36 at H
  refine wm_iload_n 2 37 (by decide +kernel) rfl rfl ?_
  refine wm_if_eq 40 52 (by decide +kernel : decode cX8_sheet 37 = .ok (.ifCond .eq 15, 3)) (by decide) rfl (fun c7 => ?_) (fun c7 => ?_)
  · replace H := H.1 c7
    exact l_X8_sheet_J52 g _ _ _ _  _ H
  · replace H := H.2 c7
    refine wm_iload_n 3 41 (by decide +kernel) rfl rfl ?_
    refine wm_if_ge 44 52 (by decide +kernel : decode cX8_sheet 41 = .ok (.ifCond .ge 11, 3)) (by decide) rfl (fun c24 => ?_) (fun c24 => ?_)
    · replace H := H.1 c24
      exact l_X8_sheet_J52 g _ _ _ _  _ H
    · replace H := H.2 c24
      refine wm_aload_n 0 45 (by decide +kernel) rfl rfl ?_
      refine wm_ldcw (-1000000007) 48 co_RX8_353 (by decide +kernel) rfl ?_
      refine wm_callVi mX8_finds 1 8 [_] [] _ _ 51 mo_X8_finds np_X8_finds ml_RX8_129 im_X8_finds se_X8_finds (by decide +kernel) (by decide +kernel) rfl rfl rfl (Nat.le_of_ble_eq_true rfl) (by decide +kernel) rfl (Nat.le_of_ble_eq_true rfl) _ (ent_pad 0 rfl) (l_X8_finds g _ _ _ H) (fun v26 h25 H hzv26 => ?_)
      exact wm_iret (by decide +kernel) ⟨.int, rfl, rfl⟩ H
set_option maxRecDepth 20000 in
theorem l_X8_sheet (g : GE) (x1 : Int32) (x2 : Int32) (x3 : Int32)  (h : HP) (Q : Int32 → HP → Prop) (H : f_X8_sheet x1 x2 x3 h Q) : Wm g mX8_sheet 0 [some (.ref 117), some (.int x1), some (.int x2), some (.int x3), none] [] h (qi Q) := by
  unfold f_X8_sheet at H
  refine wm_iload_n 1 1 (by decide +kernel) rfl rfl ?_
  refine wm_callSi mX8_isSheet 1 [_] [] _ _ 4 mo_X8_isSheet np_X8_isSheet ml_RX8_261 sc_X8_isSheet (by decide +kernel) (by decide +kernel) rfl rfl rfl (Nat.le_of_ble_eq_true rfl) (Nat.le_of_ble_eq_true rfl) _ (ent_pad 0 rfl) (l_X8_isSheet g _ _ _ H) (fun v2 h1 H hzv2 => ?_)
  refine wm_if_eq 7 29 (by decide +kernel : decode cX8_sheet 4 = .ok (.ifCond .eq 25, 3)) (by decide) rfl (fun c3 => ?_) (fun c3 => ?_)
  · replace H := H.1 c3
    refine wm_aload_n 0 30 (by decide +kernel) rfl rfl ?_
    refine wm_ldc (-1000000001) 32 co_RX8_96 (by decide +kernel) rfl ?_
    refine wm_callVi mX8_finds 1 8 [_] [] _ _ 35 mo_X8_finds np_X8_finds ml_RX8_129 im_X8_finds se_X8_finds (by decide +kernel) (by decide +kernel) rfl rfl rfl (Nat.le_of_ble_eq_true rfl) (by decide +kernel) rfl (Nat.le_of_ble_eq_true rfl) _ (ent_pad 0 rfl) (l_X8_finds g _ _ _ H) (fun v5 h4 H hzv5 => ?_)
    exact wm_iret (by decide +kernel) ⟨.int, rfl, rfl⟩ H
  · replace H := H.2 c3
    refine wm_iload_n 2 8 (by decide +kernel) rfl rfl ?_
    refine wm_if_eq 11 36 (by decide +kernel : decode cX8_sheet 8 = .ok (.ifCond .eq 28, 3)) (by decide) rfl (fun c6 => ?_) (fun c6 => ?_)
    · replace H := H.1 c6
      exact l_X8_sheet_J36 g _ _ _ _  _ H
    · replace H := H.2 c6
      refine wm_iload_n 2 12 (by decide +kernel) rfl rfl ?_
      refine wm_bipush 16 14 (by decide +kernel : decode cX8_sheet 12 = .ok (.bipush 16, 2)) rfl (by decide +kernel) ?_
      refine wm_icmp_eq 17 36 (by decide +kernel : decode cX8_sheet 14 = .ok (.if_icmp .eq 22, 3)) (by decide) rfl (fun c27 => ?_) (fun c27 => ?_)
      · replace H := H.1 c27
        exact l_X8_sheet_J36 g _ _ _ _  _ H
      · replace H := H.2 c27
        refine wm_iload_n 2 18 (by decide +kernel) rfl rfl ?_
        refine wm_bipush 32 20 (by decide +kernel : decode cX8_sheet 18 = .ok (.bipush 32, 2)) rfl (by decide +kernel) ?_
        refine wm_icmp_eq 23 36 (by decide +kernel : decode cX8_sheet 20 = .ok (.if_icmp .eq 16, 3)) (by decide) rfl (fun c28 => ?_) (fun c28 => ?_)
        · replace H := H.1 c28
          exact l_X8_sheet_J36 g _ _ _ _  _ H
        · replace H := H.2 c28
          refine wm_iload_n 2 24 (by decide +kernel) rfl rfl ?_
          refine wm_bipush 64 26 (by decide +kernel : decode cX8_sheet 24 = .ok (.bipush 64, 2)) rfl (by decide +kernel) ?_
          refine wm_icmp_eq 29 36 (by decide +kernel : decode cX8_sheet 26 = .ok (.if_icmp .eq 10, 3)) (by decide) rfl (fun c29 => ?_) (fun c29 => ?_)
          · replace H := H.1 c29
            exact l_X8_sheet_J36 g _ _ _ _  _ H
          · replace H := H.2 c29
            refine wm_aload_n 0 30 (by decide +kernel) rfl rfl ?_
            refine wm_ldc (-1000000001) 32 co_RX8_96 (by decide +kernel) rfl ?_
            refine wm_callVi mX8_finds 1 8 [_] [] _ _ 35 mo_X8_finds np_X8_finds ml_RX8_129 im_X8_finds se_X8_finds (by decide +kernel) (by decide +kernel) rfl rfl rfl (Nat.le_of_ble_eq_true rfl) (by decide +kernel) rfl (Nat.le_of_ble_eq_true rfl) _ (ent_pad 0 rfl) (l_X8_finds g _ _ _ H) (fun v31 h30 H hzv31 => ?_)
            exact wm_iret (by decide +kernel) ⟨.int, rfl, rfl⟩ H
def f_X8_write (x1 : Int32) (x2 : Int32) (x3 : Int64) (h : HP) (Q : Int64 → HP → Prop) : Prop :=
  f_X8_isSheet x1 h (fun v2 h1 =>
  (((v2 = 0) →
    f_X8_finds (-1000000001 : Int32) h1 (fun v22 h21 =>
    Q ((v22 : Int32).toInt64) h21)) ∧
   (¬ (v2 = 0) →
    vp_in x1 4 ∧
    ((((gi h1 140 (ix x1)) = 0) →
      f_X8_finds (-1000000006 : Int32) h1 (fun v20 h19 =>
      Q ((v20 : Int32).toInt64) h19)) ∧
     (¬ ((gi h1 140 (ix x1)) = 0) →
      vp_in x1 4 ∧
      f_X8_in ((x2 : Int32).toInt64) (0 : Int64) ((((gi h1 141 (ix x1)) - 1) : Int32).toInt64) h1 (fun v8 h7 =>
      (((v8 = 0) →
        f_X8_finds (-1000000001 : Int32) h7 (fun v18 h17 =>
        Q ((v18 : Int32).toInt64) h17)) ∧
       (¬ (v8 = 0) →
        vp_in ((40 * x1) + x2) 160 ∧
        ∀ x5_11 : Int64, x5_11 = (gl h7 142 (ix ((40 * x1) + x2))) →
        vp_in x1 4 ∧
        f_X8_narrow (gi h7 140 (ix x1)) x3 h7 (fun v14 h13 =>
        vp_in ((40 * x1) + x2) 160 ∧
        ∀ h16 : HP, h16 = sl h13 142 (ix ((40 * x1) + x2)) v14 →
        Q x5_11 h16)))))))))
set_option maxRecDepth 20000 in
theorem l_X8_write (g : GE) (x1 : Int32) (x2 : Int32) (x3 : Int64)  (h : HP) (Q : Int64 → HP → Prop) (H : f_X8_write x1 x2 x3 h Q) : Wm g mX8_write 0 [some (.ref 117), some (.int x1), some (.int x2), some (.long x3), none, none, none] [] h (ql Q) := by
  unfold f_X8_write at H
  refine wm_iload_n 1 1 (by decide +kernel) rfl rfl ?_
  refine wm_callSi mX8_isSheet 1 [_] [] _ _ 4 mo_X8_isSheet np_X8_isSheet ml_RX8_261 sc_X8_isSheet (by decide +kernel) (by decide +kernel) rfl rfl rfl (Nat.le_of_ble_eq_true rfl) (Nat.le_of_ble_eq_true rfl) _ (ent_pad 0 rfl) (l_X8_isSheet g _ _ _ H) (fun v2 h1 H hzv2 => ?_)
  refine wm_if_ne 7 15 (by decide +kernel : decode cX8_write 4 = .ok (.ifCond .ne 11, 3)) (by decide) rfl (fun c3 => ?_) (fun c3 => ?_)
  · replace H := H.2 c3
    refine wm_aload_n 0 16 (by decide +kernel) rfl rfl ?_
    refine wm_getr 8 33 23 140 19 fl_RX8_77 (by decide +kernel) rfl (by decide +kernel) rfl rfl (by decide) ?_
    refine wm_iload_n 1 20 (by decide +kernel) rfl rfl ?_
    obtain ⟨o4, H⟩ := H
    refine wm_iald 4 21 (by decide +kernel) rfl (by decide +kernel) (by decide +kernel) o4 ?_
    refine wm_if_ne 24 33 (by decide +kernel : decode cX8_write 21 = .ok (.ifCond .ne 12, 3)) (by decide) rfl (fun c5 => ?_) (fun c5 => ?_)
    · replace H := H.2 c5
      refine wm_iload_n 2 34 (by decide +kernel) rfl rfl ?_
      refine wm_i2l 35 (by decide +kernel) rfl ?_
      refine wm_lconst 0 36 (by decide +kernel : decode cX8_write 35 = .ok (.lconst 0, 1)) rfl (by decide +kernel) ?_
      refine wm_aload_n 0 37 (by decide +kernel) rfl rfl ?_
      refine wm_getr 8 34 24 141 40 fl_RX8_80 (by decide +kernel) rfl (by decide +kernel) rfl rfl (by decide) ?_
      refine wm_iload_n 1 41 (by decide +kernel) rfl rfl ?_
      obtain ⟨o6, H⟩ := H
      refine wm_iald 4 42 (by decide +kernel) rfl (by decide +kernel) (by decide +kernel) o6 ?_
      refine wm_iconst 1 43 (by decide +kernel : decode cX8_write 42 = .ok (.iconst 1, 1)) rfl (by decide +kernel) ?_
      refine wm_isub 44 (by decide +kernel) rfl ?_
      refine wm_i2l 45 (by decide +kernel) rfl ?_
      refine wm_callSi mX8_in 3 [_, _, _] [] _ _ 48 mo_X8_in np_X8_in ml_RX8_101 sc_X8_in (by decide +kernel) (by decide +kernel) rfl rfl rfl (Nat.le_of_ble_eq_true rfl) (Nat.le_of_ble_eq_true rfl) _ (ent_pad 0 rfl) (l_X8_in g _ _ _ _ _ H) (fun v8 h7 H hzv8 => ?_)
      refine wm_if_ne 51 59 (by decide +kernel : decode cX8_write 48 = .ok (.ifCond .ne 11, 3)) (by decide) rfl (fun c9 => ?_) (fun c9 => ?_)
      · replace H := H.2 c9
        refine wm_aload_n 0 60 (by decide +kernel) rfl rfl ?_
        refine wm_getr 8 35 25 142 63 fl_RX8_83 (by decide +kernel) rfl (by decide +kernel) rfl rfl (by decide) ?_
        refine wm_bipush 40 65 (by decide +kernel : decode cX8_write 63 = .ok (.bipush 40, 2)) rfl (by decide +kernel) ?_
        refine wm_iload_n 1 66 (by decide +kernel) rfl rfl ?_
        refine wm_imul 67 (by decide +kernel) rfl ?_
        refine wm_iload_n 2 68 (by decide +kernel) rfl rfl ?_
        refine wm_iadd 69 (by decide +kernel) rfl ?_
        obtain ⟨o10, H⟩ := H
        refine wm_lald 160 70 (by decide +kernel) rfl (by decide +kernel) (by decide +kernel) o10 ?_
        replace H := H _ rfl
        refine wm_lstore 5 72 [some _, some _, some _, some _, none, some _, none] (by decide +kernel) rfl (by decide +kernel) (okS_spec rfl) rfl ?_
        refine wm_aload_n 0 73 (by decide +kernel) rfl rfl ?_
        refine wm_getr 8 35 25 142 76 fl_RX8_83 (by decide +kernel) rfl (by decide +kernel) rfl rfl (by decide) ?_
        refine wm_bipush 40 78 (by decide +kernel : decode cX8_write 76 = .ok (.bipush 40, 2)) rfl (by decide +kernel) ?_
        refine wm_iload_n 1 79 (by decide +kernel) rfl rfl ?_
        refine wm_imul 80 (by decide +kernel) rfl ?_
        refine wm_iload_n 2 81 (by decide +kernel) rfl rfl ?_
        refine wm_iadd 82 (by decide +kernel) rfl ?_
        refine wm_aload_n 0 83 (by decide +kernel) rfl rfl ?_
        refine wm_getr 8 33 23 140 86 fl_RX8_77 (by decide +kernel) rfl (by decide +kernel) rfl rfl (by decide) ?_
        refine wm_iload_n 1 87 (by decide +kernel) rfl rfl ?_
        obtain ⟨o12, H⟩ := H
        refine wm_iald 4 88 (by decide +kernel) rfl (by decide +kernel) (by decide +kernel) o12 ?_
        refine wm_lload_n 3 89 (by decide +kernel) rfl rfl ?_
        refine wm_callSl mX8_narrow 2 [_, _] [_, _] _ _ 92 mo_X8_narrow np_X8_narrow ml_RX8_354 sc_X8_narrow (by decide +kernel) (by decide +kernel) rfl rfl rfl (Nat.le_of_ble_eq_true rfl) (Nat.le_of_ble_eq_true rfl) _ (ent_pad 0 rfl) (l_X8_narrow g _ _ _ _ H) (fun v14 h13 H hzv14 => ?_)
        obtain ⟨o15, H⟩ := H
        replace H := H _ rfl
        refine wm_last 160 93 (by decide +kernel) rfl (by decide +kernel) (by decide +kernel) o15 ?_
        refine wm_lload 5 95 (by decide +kernel) rfl rfl ?_
        exact wm_lret (by decide +kernel) rfl H
      · replace H := H.1 c9
        refine wm_aload_n 0 52 (by decide +kernel) rfl rfl ?_
        refine wm_ldc (-1000000001) 54 co_RX8_96 (by decide +kernel) rfl ?_
        refine wm_callVi mX8_finds 1 8 [_] [] _ _ 57 mo_X8_finds np_X8_finds ml_RX8_129 im_X8_finds se_X8_finds (by decide +kernel) (by decide +kernel) rfl rfl rfl (Nat.le_of_ble_eq_true rfl) (by decide +kernel) rfl (Nat.le_of_ble_eq_true rfl) _ (ent_pad 0 rfl) (l_X8_finds g _ _ _ H) (fun v18 h17 H hzv18 => ?_)
        refine wm_i2l 58 (by decide +kernel) rfl ?_
        exact wm_lret (by decide +kernel) rfl H
    · replace H := H.1 c5
      refine wm_aload_n 0 25 (by decide +kernel) rfl rfl ?_
      refine wm_ldcw (-1000000006) 28 co_RX8_264 (by decide +kernel) rfl ?_
      refine wm_callVi mX8_finds 1 8 [_] [] _ _ 31 mo_X8_finds np_X8_finds ml_RX8_129 im_X8_finds se_X8_finds (by decide +kernel) (by decide +kernel) rfl rfl rfl (Nat.le_of_ble_eq_true rfl) (by decide +kernel) rfl (Nat.le_of_ble_eq_true rfl) _ (ent_pad 0 rfl) (l_X8_finds g _ _ _ H) (fun v20 h19 H hzv20 => ?_)
      refine wm_i2l 32 (by decide +kernel) rfl ?_
      exact wm_lret (by decide +kernel) rfl H
  · replace H := H.1 c3
    refine wm_aload_n 0 8 (by decide +kernel) rfl rfl ?_
    refine wm_ldc (-1000000001) 10 co_RX8_96 (by decide +kernel) rfl ?_
    refine wm_callVi mX8_finds 1 8 [_] [] _ _ 13 mo_X8_finds np_X8_finds ml_RX8_129 im_X8_finds se_X8_finds (by decide +kernel) (by decide +kernel) rfl rfl rfl (Nat.le_of_ble_eq_true rfl) (by decide +kernel) rfl (Nat.le_of_ble_eq_true rfl) _ (ent_pad 0 rfl) (l_X8_finds g _ _ _ H) (fun v22 h21 H hzv22 => ?_)
    refine wm_i2l 14 (by decide +kernel) rfl ?_
    exact wm_lret (by decide +kernel) rfl H
def f_X8_copy_L120 (x1 : Int32) (x2 : Int32) (x3 : Int32) (x4 : Int32) (x5 : Int32) (k154 : HP → Prop) (Q : Int32 → HP → Prop) : Nat → Int32 → HP → Prop
  | 0, _, _ => False
  | n + 1, x6, h =>
    (((x5 ≤ x6) →
      k154 h) ∧
     (¬ (x5 ≤ x6) →
      vp_in (((40 * x1) + x2) + x6) 160 ∧
      vp_in x6 40 ∧
      ∀ h36 : HP, h36 = sl h 143 (ix x6) (gl h 142 (ix (((40 * x1) + x2) + x6))) →
      ∀ x6_37 : Int32, x6_37 = (x6 + 1) →
      f_X8_copy_L120 x1 x2 x3 x4 x5 k154 Q n x6_37 h36))
def f_X8_copy_L157 (x3 : Int32) (x4 : Int32) (x5 : Int32)  (Q : Int32 → HP → Prop) : Nat → Int32 → HP → Prop
  | 0, _, _ => False
  | n + 1, x6, h =>
    (((x5 ≤ x6) →
      Q x5 h) ∧
     (¬ (x5 ≤ x6) →
      vp_in x6 40 ∧
      vp_in (((40 * x3) + x4) + x6) 160 ∧
      ∀ h42 : HP, h42 = sl h 142 (ix (((40 * x3) + x4) + x6)) (gl h 143 (ix x6)) →
      ∀ x6_43 : Int32, x6_43 = (x6 + 1) →
      f_X8_copy_L157 x3 x4 x5 Q n x6_43 h42))
def f_X8_copy (x1 : Int32) (x2 : Int32) (x3 : Int32) (x4 : Int32) (x5 : Int32) (h : HP) (Q : Int32 → HP → Prop) : Prop :=
  f_X8_isSheet x1 h (fun v2 h1 =>
  (((v2 = 0) →
    f_X8_finds (-1000000001 : Int32) h1 (fun v5 h4 =>
    Q v5 h4)) ∧
   (¬ (v2 = 0) →
    f_X8_isSheet x3 h1 (fun v7 h6 =>
    (((v7 = 0) →
      f_X8_finds (-1000000001 : Int32) h6 (fun v53 h52 =>
      Q v53 h52)) ∧
     (¬ (v7 = 0) →
      vp_in x1 4 ∧
      ((((gi h6 140 (ix x1)) = 0) →
        f_X8_finds (-1000000006 : Int32) h6 (fun v12 h11 =>
        Q v12 h11)) ∧
       (¬ ((gi h6 140 (ix x1)) = 0) →
        vp_in x3 4 ∧
        ((((gi h6 140 (ix x3)) = 0) →
          f_X8_finds (-1000000006 : Int32) h6 (fun v51 h50 =>
          Q v51 h50)) ∧
         (¬ ((gi h6 140 (ix x3)) = 0) →
          vp_in x1 4 ∧
          vp_in x3 4 ∧
          ((((gi h6 140 (ix x1)) = (gi h6 140 (ix x3))) →
            (((x5 < 0) →
              f_X8_finds (-1000000001 : Int32) h6 (fun v20 h19 =>
              Q v20 h19)) ∧
             (¬ (x5 < 0) →
              (((x2 < 0) →
                f_X8_finds (-1000000001 : Int32) h6 (fun v23 h22 =>
                Q v23 h22)) ∧
               (¬ (x2 < 0) →
                (((x4 < 0) →
                  f_X8_finds (-1000000001 : Int32) h6 (fun v26 h25 =>
                  Q v26 h25)) ∧
                 (¬ (x4 < 0) →
                  vp_in x1 4 ∧
                  (((((gi h6 141 (ix x1)) - x5) < x2) →
                    f_X8_finds (-1000000001 : Int32) h6 (fun v30 h29 =>
                    Q v30 h29)) ∧
                   (¬ (((gi h6 141 (ix x1)) - x5) < x2) →
                    vp_in x3 4 ∧
                    (((x4 ≤ ((gi h6 141 (ix x3)) - x5)) →
                      ∃ n45, f_X8_copy_L120 x1 x2 x3 x4 x5
                        (fun h38 =>
                          ∃ n44, f_X8_copy_L157 x3 x4 x5
                            Q n44 0 h38)
                        Q n45 0 h6) ∧
                     (¬ (x4 ≤ ((gi h6 141 (ix x3)) - x5)) →
                      f_X8_finds (-1000000001 : Int32) h6 (fun v47 h46 =>
                      Q v47 h46)))))))))))) ∧
           (¬ ((gi h6 140 (ix x1)) = (gi h6 140 (ix x3))) →
            f_X8_finds (-1000000003 : Int32) h6 (fun v49 h48 =>
            Q v49 h48)))))))))))))
set_option maxRecDepth 20000 in
theorem l_X8_copy_L120 (g : GE) (x1 : Int32) (x2 : Int32) (x3 : Int32) (x4 : Int32) (x5 : Int32)  (k154 : HP → Prop) (Q : Int32 → HP → Prop) (hk154 : ∀  (h : HP), k154  h → Wm g mX8_copy 154 [some (.ref 117), none, none, some (.int x3), some (.int x4), some (.int x5), none] [] h (qi Q)) : ∀ (n : Nat) (x6 : Int32) (h : HP), f_X8_copy_L120 x1 x2 x3 x4 x5 k154 Q n x6 h → Wm g mX8_copy 120 [some (.ref 117), some (.int x1), some (.int x2), some (.int x3), some (.int x4), some (.int x5), some (.int x6)] [] h (qi Q) := by
  intro n
  induction n with
  | zero => intro x6 h H; exact H.elim
  | succ n ih =>
    intro x6 h H
    unfold f_X8_copy_L120 at H
    refine wm_iload 6 122 (by decide +kernel) rfl rfl ?_
    refine wm_iload 5 124 (by decide +kernel) rfl rfl ?_
    refine wm_icmp_ge 127 154 (by decide +kernel : decode cX8_copy 124 = .ok (.if_icmp .ge 30, 3)) (by decide) rfl (fun c33 => ?_) (fun c33 => ?_)
    · replace H := H.1 c33
      refine wm_mask [true, false, false, true, true, true, false] [some _, none, none, some _, some _, some _, none] rfl ?_
      exact hk154 _ H
    · replace H := H.2 c33
      refine wm_aload_n 0 128 (by decide +kernel) rfl rfl ?_
      refine wm_getr 8 36 26 143 131 fl_RX8_87 (by decide +kernel) rfl (by decide +kernel) rfl rfl (by decide) ?_
      refine wm_iload 6 133 (by decide +kernel) rfl rfl ?_
      refine wm_aload_n 0 134 (by decide +kernel) rfl rfl ?_
      refine wm_getr 8 35 25 142 137 fl_RX8_83 (by decide +kernel) rfl (by decide +kernel) rfl rfl (by decide) ?_
      refine wm_bipush 40 139 (by decide +kernel : decode cX8_copy 137 = .ok (.bipush 40, 2)) rfl (by decide +kernel) ?_
      refine wm_iload_n 1 140 (by decide +kernel) rfl rfl ?_
      refine wm_imul 141 (by decide +kernel) rfl ?_
      refine wm_iload_n 2 142 (by decide +kernel) rfl rfl ?_
      refine wm_iadd 143 (by decide +kernel) rfl ?_
      refine wm_iload 6 145 (by decide +kernel) rfl rfl ?_
      refine wm_iadd 146 (by decide +kernel) rfl ?_
      obtain ⟨o34, H⟩ := H
      refine wm_lald 160 147 (by decide +kernel) rfl (by decide +kernel) (by decide +kernel) o34 ?_
      obtain ⟨o35, H⟩ := H
      replace H := H _ rfl
      refine wm_last 40 148 (by decide +kernel) rfl (by decide +kernel) (by decide +kernel) o35 ?_
      replace H := H _ rfl
      refine wm_iinc 6 (_ + 1) 151 [some _, some _, some _, some _, some _, some _, some _] (by decide +kernel : decode cX8_copy 148 = .ok (.iinc 6 1, 3)) rfl (by decide +kernel) rfl (ofI_eq (by decide +kernel)) (okS_spec rfl) rfl ?_
      refine wm_goto 120 (by decide +kernel : decode cX8_copy 151 = .ok (.goto (-31), 3)) (by decide) ?_
      exact ih _ _ H
set_option maxRecDepth 20000 in
theorem l_X8_copy_L157 (g : GE) (x3 : Int32) (x4 : Int32) (x5 : Int32)   (Q : Int32 → HP → Prop)  : ∀ (n : Nat) (x6 : Int32) (h : HP), f_X8_copy_L157 x3 x4 x5 Q n x6 h → Wm g mX8_copy 157 [some (.ref 117), none, none, some (.int x3), some (.int x4), some (.int x5), some (.int x6)] [] h (qi Q) := by
  intro n
  induction n with
  | zero => intro x6 h H; exact H.elim
  | succ n ih =>
    intro x6 h H
    unfold f_X8_copy_L157 at H
    refine wm_iload 6 159 (by decide +kernel) rfl rfl ?_
    refine wm_iload 5 161 (by decide +kernel) rfl rfl ?_
    refine wm_icmp_ge 164 192 (by decide +kernel : decode cX8_copy 161 = .ok (.if_icmp .ge 31, 3)) (by decide) rfl (fun c39 => ?_) (fun c39 => ?_)
    · replace H := H.1 c39
      refine wm_iload 5 194 (by decide +kernel) rfl rfl ?_
      exact wm_iret (by decide +kernel) ⟨.int, rfl, rfl⟩ H
    · replace H := H.2 c39
      refine wm_aload_n 0 165 (by decide +kernel) rfl rfl ?_
      refine wm_getr 8 35 25 142 168 fl_RX8_83 (by decide +kernel) rfl (by decide +kernel) rfl rfl (by decide) ?_
      refine wm_bipush 40 170 (by decide +kernel : decode cX8_copy 168 = .ok (.bipush 40, 2)) rfl (by decide +kernel) ?_
      refine wm_iload_n 3 171 (by decide +kernel) rfl rfl ?_
      refine wm_imul 172 (by decide +kernel) rfl ?_
      refine wm_iload 4 174 (by decide +kernel) rfl rfl ?_
      refine wm_iadd 175 (by decide +kernel) rfl ?_
      refine wm_iload 6 177 (by decide +kernel) rfl rfl ?_
      refine wm_iadd 178 (by decide +kernel) rfl ?_
      refine wm_aload_n 0 179 (by decide +kernel) rfl rfl ?_
      refine wm_getr 8 36 26 143 182 fl_RX8_87 (by decide +kernel) rfl (by decide +kernel) rfl rfl (by decide) ?_
      refine wm_iload 6 184 (by decide +kernel) rfl rfl ?_
      obtain ⟨o40, H⟩ := H
      refine wm_lald 40 185 (by decide +kernel) rfl (by decide +kernel) (by decide +kernel) o40 ?_
      obtain ⟨o41, H⟩ := H
      replace H := H _ rfl
      refine wm_last 160 186 (by decide +kernel) rfl (by decide +kernel) (by decide +kernel) o41 ?_
      replace H := H _ rfl
      refine wm_iinc 6 (_ + 1) 189 [some _, none, none, some _, some _, some _, some _] (by decide +kernel : decode cX8_copy 186 = .ok (.iinc 6 1, 3)) rfl (by decide +kernel) rfl (ofI_eq (by decide +kernel)) (okS_spec rfl) rfl ?_
      refine wm_goto 157 (by decide +kernel : decode cX8_copy 189 = .ok (.goto (-32), 3)) (by decide) ?_
      exact ih _ _ H
set_option maxRecDepth 20000 in
theorem l_X8_copy (g : GE) (x1 : Int32) (x2 : Int32) (x3 : Int32) (x4 : Int32) (x5 : Int32)  (h : HP) (Q : Int32 → HP → Prop) (H : f_X8_copy x1 x2 x3 x4 x5 h Q) : Wm g mX8_copy 0 [some (.ref 117), some (.int x1), some (.int x2), some (.int x3), some (.int x4), some (.int x5), none] [] h (qi Q) := by
  unfold f_X8_copy at H
  refine wm_iload_n 1 1 (by decide +kernel) rfl rfl ?_
  refine wm_callSi mX8_isSheet 1 [_] [] _ _ 4 mo_X8_isSheet np_X8_isSheet ml_RX8_261 sc_X8_isSheet (by decide +kernel) (by decide +kernel) rfl rfl rfl (Nat.le_of_ble_eq_true rfl) (Nat.le_of_ble_eq_true rfl) _ (ent_pad 0 rfl) (l_X8_isSheet g _ _ _ H) (fun v2 h1 H hzv2 => ?_)
  refine wm_if_eq 7 14 (by decide +kernel : decode cX8_copy 4 = .ok (.ifCond .eq 10, 3)) (by decide) rfl (fun c3 => ?_) (fun c3 => ?_)
  · replace H := H.1 c3
    refine wm_aload_n 0 15 (by decide +kernel) rfl rfl ?_
    refine wm_ldc (-1000000001) 17 co_RX8_96 (by decide +kernel) rfl ?_
    refine wm_callVi mX8_finds 1 8 [_] [] _ _ 20 mo_X8_finds np_X8_finds ml_RX8_129 im_X8_finds se_X8_finds (by decide +kernel) (by decide +kernel) rfl rfl rfl (Nat.le_of_ble_eq_true rfl) (by decide +kernel) rfl (Nat.le_of_ble_eq_true rfl) _ (ent_pad 0 rfl) (l_X8_finds g _ _ _ H) (fun v5 h4 H hzv5 => ?_)
    exact wm_iret (by decide +kernel) ⟨.int, rfl, rfl⟩ H
  · replace H := H.2 c3
    refine wm_iload_n 3 8 (by decide +kernel) rfl rfl ?_
    refine wm_callSi mX8_isSheet 1 [_] [] _ _ 11 mo_X8_isSheet np_X8_isSheet ml_RX8_261 sc_X8_isSheet (by decide +kernel) (by decide +kernel) rfl rfl rfl (Nat.le_of_ble_eq_true rfl) (Nat.le_of_ble_eq_true rfl) _ (ent_pad 0 rfl) (l_X8_isSheet g _ _ _ H) (fun v7 h6 H hzv7 => ?_)
    refine wm_if_ne 14 21 (by decide +kernel : decode cX8_copy 11 = .ok (.ifCond .ne 10, 3)) (by decide) rfl (fun c8 => ?_) (fun c8 => ?_)
    · replace H := H.2 c8
      refine wm_aload_n 0 22 (by decide +kernel) rfl rfl ?_
      refine wm_getr 8 33 23 140 25 fl_RX8_77 (by decide +kernel) rfl (by decide +kernel) rfl rfl (by decide) ?_
      refine wm_iload_n 1 26 (by decide +kernel) rfl rfl ?_
      obtain ⟨o9, H⟩ := H
      refine wm_iald 4 27 (by decide +kernel) rfl (by decide +kernel) (by decide +kernel) o9 ?_
      refine wm_if_eq 30 39 (by decide +kernel : decode cX8_copy 27 = .ok (.ifCond .eq 12, 3)) (by decide) rfl (fun c10 => ?_) (fun c10 => ?_)
      · replace H := H.1 c10
        refine wm_aload_n 0 40 (by decide +kernel) rfl rfl ?_
        refine wm_ldcw (-1000000006) 43 co_RX8_264 (by decide +kernel) rfl ?_
        refine wm_callVi mX8_finds 1 8 [_] [] _ _ 46 mo_X8_finds np_X8_finds ml_RX8_129 im_X8_finds se_X8_finds (by decide +kernel) (by decide +kernel) rfl rfl rfl (Nat.le_of_ble_eq_true rfl) (by decide +kernel) rfl (Nat.le_of_ble_eq_true rfl) _ (ent_pad 0 rfl) (l_X8_finds g _ _ _ H) (fun v12 h11 H hzv12 => ?_)
        exact wm_iret (by decide +kernel) ⟨.int, rfl, rfl⟩ H
      · replace H := H.2 c10
        refine wm_aload_n 0 31 (by decide +kernel) rfl rfl ?_
        refine wm_getr 8 33 23 140 34 fl_RX8_77 (by decide +kernel) rfl (by decide +kernel) rfl rfl (by decide) ?_
        refine wm_iload_n 3 35 (by decide +kernel) rfl rfl ?_
        obtain ⟨o13, H⟩ := H
        refine wm_iald 4 36 (by decide +kernel) rfl (by decide +kernel) (by decide +kernel) o13 ?_
        refine wm_if_ne 39 47 (by decide +kernel : decode cX8_copy 36 = .ok (.ifCond .ne 11, 3)) (by decide) rfl (fun c14 => ?_) (fun c14 => ?_)
        · replace H := H.2 c14
          refine wm_aload_n 0 48 (by decide +kernel) rfl rfl ?_
          refine wm_getr 8 33 23 140 51 fl_RX8_77 (by decide +kernel) rfl (by decide +kernel) rfl rfl (by decide) ?_
          refine wm_iload_n 1 52 (by decide +kernel) rfl rfl ?_
          obtain ⟨o15, H⟩ := H
          refine wm_iald 4 53 (by decide +kernel) rfl (by decide +kernel) (by decide +kernel) o15 ?_
          refine wm_aload_n 0 54 (by decide +kernel) rfl rfl ?_
          refine wm_getr 8 33 23 140 57 fl_RX8_77 (by decide +kernel) rfl (by decide +kernel) rfl rfl (by decide) ?_
          refine wm_iload_n 3 58 (by decide +kernel) rfl rfl ?_
          obtain ⟨o16, H⟩ := H
          refine wm_iald 4 59 (by decide +kernel) rfl (by decide +kernel) (by decide +kernel) o16 ?_
          refine wm_icmp_eq 62 69 (by decide +kernel : decode cX8_copy 59 = .ok (.if_icmp .eq 10, 3)) (by decide) rfl (fun c17 => ?_) (fun c17 => ?_)
          · replace H := H.1 c17
            refine wm_iload 5 71 (by decide +kernel) rfl rfl ?_
            refine wm_if_lt 74 110 (by decide +kernel : decode cX8_copy 71 = .ok (.ifCond .lt 39, 3)) (by decide) rfl (fun c18 => ?_) (fun c18 => ?_)
            · replace H := H.1 c18
              refine wm_aload_n 0 111 (by decide +kernel) rfl rfl ?_
              refine wm_ldc (-1000000001) 113 co_RX8_96 (by decide +kernel) rfl ?_
              refine wm_callVi mX8_finds 1 8 [_] [] _ _ 116 mo_X8_finds np_X8_finds ml_RX8_129 im_X8_finds se_X8_finds (by decide +kernel) (by decide +kernel) rfl rfl rfl (Nat.le_of_ble_eq_true rfl) (by decide +kernel) rfl (Nat.le_of_ble_eq_true rfl) _ (ent_pad 0 rfl) (l_X8_finds g _ _ _ H) (fun v20 h19 H hzv20 => ?_)
              exact wm_iret (by decide +kernel) ⟨.int, rfl, rfl⟩ H
            · replace H := H.2 c18
              refine wm_iload_n 2 75 (by decide +kernel) rfl rfl ?_
              refine wm_if_lt 78 110 (by decide +kernel : decode cX8_copy 75 = .ok (.ifCond .lt 35, 3)) (by decide) rfl (fun c21 => ?_) (fun c21 => ?_)
              · replace H := H.1 c21
                refine wm_aload_n 0 111 (by decide +kernel) rfl rfl ?_
                refine wm_ldc (-1000000001) 113 co_RX8_96 (by decide +kernel) rfl ?_
                refine wm_callVi mX8_finds 1 8 [_] [] _ _ 116 mo_X8_finds np_X8_finds ml_RX8_129 im_X8_finds se_X8_finds (by decide +kernel) (by decide +kernel) rfl rfl rfl (Nat.le_of_ble_eq_true rfl) (by decide +kernel) rfl (Nat.le_of_ble_eq_true rfl) _ (ent_pad 0 rfl) (l_X8_finds g _ _ _ H) (fun v23 h22 H hzv23 => ?_)
                exact wm_iret (by decide +kernel) ⟨.int, rfl, rfl⟩ H
              · replace H := H.2 c21
                refine wm_iload 4 80 (by decide +kernel) rfl rfl ?_
                refine wm_if_lt 83 110 (by decide +kernel : decode cX8_copy 80 = .ok (.ifCond .lt 30, 3)) (by decide) rfl (fun c24 => ?_) (fun c24 => ?_)
                · replace H := H.1 c24
                  refine wm_aload_n 0 111 (by decide +kernel) rfl rfl ?_
                  refine wm_ldc (-1000000001) 113 co_RX8_96 (by decide +kernel) rfl ?_
                  refine wm_callVi mX8_finds 1 8 [_] [] _ _ 116 mo_X8_finds np_X8_finds ml_RX8_129 im_X8_finds se_X8_finds (by decide +kernel) (by decide +kernel) rfl rfl rfl (Nat.le_of_ble_eq_true rfl) (by decide +kernel) rfl (Nat.le_of_ble_eq_true rfl) _ (ent_pad 0 rfl) (l_X8_finds g _ _ _ H) (fun v26 h25 H hzv26 => ?_)
                  exact wm_iret (by decide +kernel) ⟨.int, rfl, rfl⟩ H
                · replace H := H.2 c24
                  refine wm_iload_n 2 84 (by decide +kernel) rfl rfl ?_
                  refine wm_aload_n 0 85 (by decide +kernel) rfl rfl ?_
                  refine wm_getr 8 34 24 141 88 fl_RX8_80 (by decide +kernel) rfl (by decide +kernel) rfl rfl (by decide) ?_
                  refine wm_iload_n 1 89 (by decide +kernel) rfl rfl ?_
                  obtain ⟨o27, H⟩ := H
                  refine wm_iald 4 90 (by decide +kernel) rfl (by decide +kernel) (by decide +kernel) o27 ?_
                  refine wm_iload 5 92 (by decide +kernel) rfl rfl ?_
                  refine wm_isub 93 (by decide +kernel) rfl ?_
                  refine wm_icmp_gt 96 110 (by decide +kernel : decode cX8_copy 93 = .ok (.if_icmp .gt 17, 3)) (by decide) rfl (fun c28 => ?_) (fun c28 => ?_)
                  · replace H := H.1 c28
                    refine wm_aload_n 0 111 (by decide +kernel) rfl rfl ?_
                    refine wm_ldc (-1000000001) 113 co_RX8_96 (by decide +kernel) rfl ?_
                    refine wm_callVi mX8_finds 1 8 [_] [] _ _ 116 mo_X8_finds np_X8_finds ml_RX8_129 im_X8_finds se_X8_finds (by decide +kernel) (by decide +kernel) rfl rfl rfl (Nat.le_of_ble_eq_true rfl) (by decide +kernel) rfl (Nat.le_of_ble_eq_true rfl) _ (ent_pad 0 rfl) (l_X8_finds g _ _ _ H) (fun v30 h29 H hzv30 => ?_)
                    exact wm_iret (by decide +kernel) ⟨.int, rfl, rfl⟩ H
                  · replace H := H.2 c28
                    refine wm_iload 4 98 (by decide +kernel) rfl rfl ?_
                    refine wm_aload_n 0 99 (by decide +kernel) rfl rfl ?_
                    refine wm_getr 8 34 24 141 102 fl_RX8_80 (by decide +kernel) rfl (by decide +kernel) rfl rfl (by decide) ?_
                    refine wm_iload_n 3 103 (by decide +kernel) rfl rfl ?_
                    obtain ⟨o31, H⟩ := H
                    refine wm_iald 4 104 (by decide +kernel) rfl (by decide +kernel) (by decide +kernel) o31 ?_
                    refine wm_iload 5 106 (by decide +kernel) rfl rfl ?_
                    refine wm_isub 107 (by decide +kernel) rfl ?_
                    refine wm_icmp_le 110 117 (by decide +kernel : decode cX8_copy 107 = .ok (.if_icmp .le 10, 3)) (by decide) rfl (fun c32 => ?_) (fun c32 => ?_)
                    · replace H := H.1 c32
                      refine wm_iconst 0 118 (by decide +kernel : decode cX8_copy 117 = .ok (.iconst 0, 1)) rfl (by decide +kernel) ?_
                      refine wm_istore 6 120 [some _, some _, some _, some _, some _, some _, some _] (by decide +kernel) rfl (by decide +kernel) (okS_spec rfl) rfl ?_
                      obtain ⟨n45, H⟩ := H
                      refine l_X8_copy_L120 g _ _ _ _ _ _ _ (fun h38 H => ?_) _ _ _ H
                      · skip
                        refine wm_iconst 0 155 (by decide +kernel : decode cX8_copy 154 = .ok (.iconst 0, 1)) rfl (by decide +kernel) ?_
                        refine wm_istore 6 157 [some _, none, none, some _, some _, some _, some _] (by decide +kernel) rfl (by decide +kernel) (okS_spec rfl) rfl ?_
                        obtain ⟨n44, H⟩ := H
                        refine l_X8_copy_L157 g _ _ _ _  _ _ _ H
                    · replace H := H.2 c32
                      refine wm_aload_n 0 111 (by decide +kernel) rfl rfl ?_
                      refine wm_ldc (-1000000001) 113 co_RX8_96 (by decide +kernel) rfl ?_
                      refine wm_callVi mX8_finds 1 8 [_] [] _ _ 116 mo_X8_finds np_X8_finds ml_RX8_129 im_X8_finds se_X8_finds (by decide +kernel) (by decide +kernel) rfl rfl rfl (Nat.le_of_ble_eq_true rfl) (by decide +kernel) rfl (Nat.le_of_ble_eq_true rfl) _ (ent_pad 0 rfl) (l_X8_finds g _ _ _ H) (fun v47 h46 H hzv47 => ?_)
                      exact wm_iret (by decide +kernel) ⟨.int, rfl, rfl⟩ H
          · replace H := H.2 c17
            refine wm_aload_n 0 63 (by decide +kernel) rfl rfl ?_
            refine wm_ldc (-1000000003) 65 co_RX8_182 (by decide +kernel) rfl ?_
            refine wm_callVi mX8_finds 1 8 [_] [] _ _ 68 mo_X8_finds np_X8_finds ml_RX8_129 im_X8_finds se_X8_finds (by decide +kernel) (by decide +kernel) rfl rfl rfl (Nat.le_of_ble_eq_true rfl) (by decide +kernel) rfl (Nat.le_of_ble_eq_true rfl) _ (ent_pad 0 rfl) (l_X8_finds g _ _ _ H) (fun v49 h48 H hzv49 => ?_)
            exact wm_iret (by decide +kernel) ⟨.int, rfl, rfl⟩ H
        · replace H := H.1 c14
          refine wm_aload_n 0 40 (by decide +kernel) rfl rfl ?_
          refine wm_ldcw (-1000000006) 43 co_RX8_264 (by decide +kernel) rfl ?_
          refine wm_callVi mX8_finds 1 8 [_] [] _ _ 46 mo_X8_finds np_X8_finds ml_RX8_129 im_X8_finds se_X8_finds (by decide +kernel) (by decide +kernel) rfl rfl rfl (Nat.le_of_ble_eq_true rfl) (by decide +kernel) rfl (Nat.le_of_ble_eq_true rfl) _ (ent_pad 0 rfl) (l_X8_finds g _ _ _ H) (fun v51 h50 H hzv51 => ?_)
          exact wm_iret (by decide +kernel) ⟨.int, rfl, rfl⟩ H
    · replace H := H.1 c8
      refine wm_aload_n 0 15 (by decide +kernel) rfl rfl ?_
      refine wm_ldc (-1000000001) 17 co_RX8_96 (by decide +kernel) rfl ?_
      refine wm_callVi mX8_finds 1 8 [_] [] _ _ 20 mo_X8_finds np_X8_finds ml_RX8_129 im_X8_finds se_X8_finds (by decide +kernel) (by decide +kernel) rfl rfl rfl (Nat.le_of_ble_eq_true rfl) (by decide +kernel) rfl (Nat.le_of_ble_eq_true rfl) _ (ent_pad 0 rfl) (l_X8_finds g _ _ _ H) (fun v53 h52 H hzv53 => ?_)
      exact wm_iret (by decide +kernel) ⟨.int, rfl, rfl⟩ H
def f_X8_lays_L35 (x1 : Int32)  (Q : Int32 → HP → Prop) : Nat → Int32 → Int32 → HP → Prop
  | 0, _, _, _ => False
  | n + 1, x2, x3, h =>
    vp_in x1 4 ∧
    ((((gi h 141 (ix x1)) ≤ x3) →
      Q x2 h) ∧
     (¬ ((gi h 141 (ix x1)) ≤ x3) →
      ((((gi h 117 3) ≤ x3) →
        Q x2 h) ∧
       (¬ ((gi h 117 3) ≤ x3) →
        vp_in ((40 * x1) + x3) 160 ∧
        ∀ x4_10 : Int64, x4_10 = (gl h 142 (ix ((40 * x1) + x3))) →
        f_X8_in x4_10 (0 : Int64) (999 : Int64) h (fun v12 h11 =>
        (((v12 = 0) →
          ∀ x3_14 : Int32, x3_14 = (x3 + 1) →
          f_X8_lays_L35 x1 Q n x2 x3_14 h11) ∧
         (¬ (v12 = 0) →
          vp_in x3 6 ∧
          ∀ h16 : HP, h16 = si h11 120 (ix x3) ((x4_10 : Int64).toInt32) →
          ∀ x2_17 : Int32, x2_17 = (x2 + 1) →
          ∀ x3_18 : Int32, x3_18 = (x3 + 1) →
          f_X8_lays_L35 x1 Q n x2_17 x3_18 h16)))))))
def f_X8_lays (x1 : Int32) (h : HP) (Q : Int32 → HP → Prop) : Prop :=
  f_X8_isSheet x1 h (fun v2 h1 =>
  (((v2 = 0) →
    f_X8_finds (-1000000001 : Int32) h1 (fun v23 h22 =>
    Q v23 h22)) ∧
   (¬ (v2 = 0) →
    vp_in x1 4 ∧
    ((((gi h1 140 (ix x1)) = 0) →
      f_X8_finds (-1000000006 : Int32) h1 (fun v21 h20 =>
      Q v21 h20)) ∧
     (¬ ((gi h1 140 (ix x1)) = 0) →
      ∃ n19, f_X8_lays_L35 x1
        Q n19 0 0 h1)))))
set_option maxRecDepth 20000 in
theorem l_X8_lays_L35 (g : GE) (x1 : Int32)   (Q : Int32 → HP → Prop)  : ∀ (n : Nat) (x2 : Int32) (x3 : Int32) (h : HP), f_X8_lays_L35 x1 Q n x2 x3 h → Wm g mX8_lays 35 [some (.ref 117), some (.int x1), some (.int x2), some (.int x3), none, none] [] h (qi Q) := by
  intro n
  induction n with
  | zero => intro x2 x3 h H; exact H.elim
  | succ n ih =>
    intro x2 x3 h H
    unfold f_X8_lays_L35 at H
    refine wm_iload_n 3 36 (by decide +kernel) rfl rfl ?_
    refine wm_aload_n 0 37 (by decide +kernel) rfl rfl ?_
    refine wm_getr 8 34 24 141 40 fl_RX8_80 (by decide +kernel) rfl (by decide +kernel) rfl rfl (by decide) ?_
    refine wm_iload_n 1 41 (by decide +kernel) rfl rfl ?_
    obtain ⟨o6, H⟩ := H
    refine wm_iald 4 42 (by decide +kernel) rfl (by decide +kernel) (by decide +kernel) o6 ?_
    refine wm_icmp_ge 45 96 (by decide +kernel : decode cX8_lays 42 = .ok (.if_icmp .ge 54, 3)) (by decide) rfl (fun c7 => ?_) (fun c7 => ?_)
    · replace H := H.1 c7
      refine wm_iload_n 2 97 (by decide +kernel) rfl rfl ?_
      exact wm_iret (by decide +kernel) ⟨.int, rfl, rfl⟩ H
    · replace H := H.2 c7
      refine wm_iload_n 3 46 (by decide +kernel) rfl rfl ?_
      refine wm_aload_n 0 47 (by decide +kernel) rfl rfl ?_
      refine wm_geti 8 3 50 fl_RX8_97 (by decide +kernel) rfl (by decide +kernel) rfl ?_
      refine wm_icmp_ge 53 96 (by decide +kernel : decode cX8_lays 50 = .ok (.if_icmp .ge 46, 3)) (by decide) rfl (fun c8 => ?_) (fun c8 => ?_)
      · replace H := H.1 c8
        refine wm_iload_n 2 97 (by decide +kernel) rfl rfl ?_
        exact wm_iret (by decide +kernel) ⟨.int, rfl, rfl⟩ H
      · replace H := H.2 c8
        refine wm_aload_n 0 54 (by decide +kernel) rfl rfl ?_
        refine wm_getr 8 35 25 142 57 fl_RX8_83 (by decide +kernel) rfl (by decide +kernel) rfl rfl (by decide) ?_
        refine wm_bipush 40 59 (by decide +kernel : decode cX8_lays 57 = .ok (.bipush 40, 2)) rfl (by decide +kernel) ?_
        refine wm_iload_n 1 60 (by decide +kernel) rfl rfl ?_
        refine wm_imul 61 (by decide +kernel) rfl ?_
        refine wm_iload_n 3 62 (by decide +kernel) rfl rfl ?_
        refine wm_iadd 63 (by decide +kernel) rfl ?_
        obtain ⟨o9, H⟩ := H
        refine wm_lald 160 64 (by decide +kernel) rfl (by decide +kernel) (by decide +kernel) o9 ?_
        replace H := H _ rfl
        refine wm_lstore 4 66 [some _, some _, some _, some _, some _, none] (by decide +kernel) rfl (by decide +kernel) (okS_spec rfl) rfl ?_
        refine wm_lload 4 68 (by decide +kernel) rfl rfl ?_
        refine wm_lconst 0 69 (by decide +kernel : decode cX8_lays 68 = .ok (.lconst 0, 1)) rfl (by decide +kernel) ?_
        refine wm_ldc2 999 72 cl_RX8_127 (by decide +kernel) rfl ?_
        refine wm_callSi mX8_in 3 [_, _, _] [] _ _ 75 mo_X8_in np_X8_in ml_RX8_101 sc_X8_in (by decide +kernel) (by decide +kernel) rfl rfl rfl (Nat.le_of_ble_eq_true rfl) (Nat.le_of_ble_eq_true rfl) _ (ent_pad 0 rfl) (l_X8_in g _ _ _ _ _ H) (fun v12 h11 H hzv12 => ?_)
        refine wm_if_eq 78 90 (by decide +kernel : decode cX8_lays 75 = .ok (.ifCond .eq 15, 3)) (by decide) rfl (fun c13 => ?_) (fun c13 => ?_)
        · replace H := H.1 c13
          replace H := H _ rfl
          refine wm_iinc 3 (_ + 1) 93 [some _, some _, some _, some _, some _, none] (by decide +kernel : decode cX8_lays 90 = .ok (.iinc 3 1, 3)) rfl (by decide +kernel) rfl (ofI_eq (by decide +kernel)) (okS_spec rfl) rfl ?_
          refine wm_goto 35 (by decide +kernel : decode cX8_lays 93 = .ok (.goto (-58), 3)) (by decide) ?_
          refine wm_mask [true, true, true, true, false, false] [some _, some _, some _, some _, none, none] rfl ?_
          exact ih _ _ _ H
        · replace H := H.2 c13
          refine wm_aload_n 0 79 (by decide +kernel) rfl rfl ?_
          refine wm_getr 8 5 3 120 82 fl_RX8_16 (by decide +kernel) rfl (by decide +kernel) rfl rfl (by decide) ?_
          refine wm_iload_n 3 83 (by decide +kernel) rfl rfl ?_
          refine wm_lload 4 85 (by decide +kernel) rfl rfl ?_
          refine wm_l2i 86 (by decide +kernel) rfl ?_
          obtain ⟨o15, H⟩ := H
          replace H := H _ rfl
          refine wm_iast 6 87 (by decide +kernel) rfl (by decide +kernel) (by decide +kernel) o15 ?_
          replace H := H _ rfl
          refine wm_iinc 2 (_ + 1) 90 [some _, some _, some _, some _, some _, none] (by decide +kernel : decode cX8_lays 87 = .ok (.iinc 2 1, 3)) rfl (by decide +kernel) rfl (ofI_eq (by decide +kernel)) (okS_spec rfl) rfl ?_
          replace H := H _ rfl
          refine wm_iinc 3 (_ + 1) 93 [some _, some _, some _, some _, some _, none] (by decide +kernel : decode cX8_lays 90 = .ok (.iinc 3 1, 3)) rfl (by decide +kernel) rfl (ofI_eq (by decide +kernel)) (okS_spec rfl) rfl ?_
          refine wm_goto 35 (by decide +kernel : decode cX8_lays 93 = .ok (.goto (-58), 3)) (by decide) ?_
          refine wm_mask [true, true, true, true, false, false] [some _, some _, some _, some _, none, none] rfl ?_
          exact ih _ _ _ H
set_option maxRecDepth 20000 in
theorem l_X8_lays (g : GE) (x1 : Int32)  (h : HP) (Q : Int32 → HP → Prop) (H : f_X8_lays x1 h Q) : Wm g mX8_lays 0 [some (.ref 117), some (.int x1), none, none, none, none] [] h (qi Q) := by
  unfold f_X8_lays at H
  refine wm_iload_n 1 1 (by decide +kernel) rfl rfl ?_
  refine wm_callSi mX8_isSheet 1 [_] [] _ _ 4 mo_X8_isSheet np_X8_isSheet ml_RX8_261 sc_X8_isSheet (by decide +kernel) (by decide +kernel) rfl rfl rfl (Nat.le_of_ble_eq_true rfl) (Nat.le_of_ble_eq_true rfl) _ (ent_pad 0 rfl) (l_X8_isSheet g _ _ _ H) (fun v2 h1 H hzv2 => ?_)
  refine wm_if_ne 7 14 (by decide +kernel : decode cX8_lays 4 = .ok (.ifCond .ne 10, 3)) (by decide) rfl (fun c3 => ?_) (fun c3 => ?_)
  · replace H := H.2 c3
    refine wm_aload_n 0 15 (by decide +kernel) rfl rfl ?_
    refine wm_getr 8 33 23 140 18 fl_RX8_77 (by decide +kernel) rfl (by decide +kernel) rfl rfl (by decide) ?_
    refine wm_iload_n 1 19 (by decide +kernel) rfl rfl ?_
    obtain ⟨o4, H⟩ := H
    refine wm_iald 4 20 (by decide +kernel) rfl (by decide +kernel) (by decide +kernel) o4 ?_
    refine wm_if_ne 23 31 (by decide +kernel : decode cX8_lays 20 = .ok (.ifCond .ne 11, 3)) (by decide) rfl (fun c5 => ?_) (fun c5 => ?_)
    · replace H := H.2 c5
      refine wm_iconst 0 32 (by decide +kernel : decode cX8_lays 31 = .ok (.iconst 0, 1)) rfl (by decide +kernel) ?_
      refine wm_istore_n 2 33 [some _, some _, some _, none, none, none] (by decide +kernel) rfl (by decide +kernel) (okS_spec rfl) rfl ?_
      refine wm_iconst 0 34 (by decide +kernel : decode cX8_lays 33 = .ok (.iconst 0, 1)) rfl (by decide +kernel) ?_
      refine wm_istore_n 3 35 [some _, some _, some _, some _, none, none] (by decide +kernel) rfl (by decide +kernel) (okS_spec rfl) rfl ?_
      obtain ⟨n19, H⟩ := H
      refine l_X8_lays_L35 g _ _  _ _ _ _ H
    · replace H := H.1 c5
      refine wm_aload_n 0 24 (by decide +kernel) rfl rfl ?_
      refine wm_ldcw (-1000000006) 27 co_RX8_264 (by decide +kernel) rfl ?_
      refine wm_callVi mX8_finds 1 8 [_] [] _ _ 30 mo_X8_finds np_X8_finds ml_RX8_129 im_X8_finds se_X8_finds (by decide +kernel) (by decide +kernel) rfl rfl rfl (Nat.le_of_ble_eq_true rfl) (by decide +kernel) rfl (Nat.le_of_ble_eq_true rfl) _ (ent_pad 0 rfl) (l_X8_finds g _ _ _ H) (fun v21 h20 H hzv21 => ?_)
      exact wm_iret (by decide +kernel) ⟨.int, rfl, rfl⟩ H
  · replace H := H.1 c3
    refine wm_aload_n 0 8 (by decide +kernel) rfl rfl ?_
    refine wm_ldc (-1000000001) 10 co_RX8_96 (by decide +kernel) rfl ?_
    refine wm_callVi mX8_finds 1 8 [_] [] _ _ 13 mo_X8_finds np_X8_finds ml_RX8_129 im_X8_finds se_X8_finds (by decide +kernel) (by decide +kernel) rfl rfl rfl (Nat.le_of_ble_eq_true rfl) (by decide +kernel) rfl (Nat.le_of_ble_eq_true rfl) _ (ent_pad 0 rfl) (l_X8_finds g _ _ _ H) (fun v23 h22 H hzv23 => ?_)
    exact wm_iret (by decide +kernel) ⟨.int, rfl, rfl⟩ H
def f_X8_book_L59 (x1 : Int32) (x2 : Int32)  (Q : Int32 → HP → Prop) : Nat → Int32 → Int32 → HP → Prop
  | 0, _, _, _ => False
  | n + 1, x3, x4, h =>
    vp_in x1 4 ∧
    ((((gi h 141 (ix x1)) ≤ x4) →
      Q x4 h) ∧
     (¬ ((gi h 141 (ix x1)) ≤ x4) →
      (((24 < x4) →
        Q x4 h) ∧
       (¬ (24 < x4) →
        f_X8_brings x2 x4 h (fun v14 h13 =>
        ∀ x3_15 : Int32, x3_15 = (x3 + v14) →
        vp_in x1 4 ∧
        f_X8_ownTill x2 x4 h13 (fun v18 h17 =>
        f_X8_narrow (gi h13 140 (ix x1)) (((x3_15 + v18) : Int32).toInt64) h17 (fun v20 h19 =>
        vp_in ((40 * x1) + x4) 160 ∧
        ∀ h22 : HP, h22 = sl h19 142 (ix ((40 * x1) + x4)) v20 →
        ∀ x4_23 : Int32, x4_23 = (x4 + 1) →
        f_X8_book_L59 x1 x2 Q n x3_15 x4_23 h22)))))))
def f_X8_book (x1 : Int32) (x2 : Int32) (h : HP) (Q : Int32 → HP → Prop) : Prop :=
  f_X8_isSheet x1 h (fun v2 h1 =>
  (((v2 = 0) →
    f_X8_finds (-1000000001 : Int32) h1 (fun v30 h29 =>
    Q v30 h29)) ∧
   (¬ (v2 = 0) →
    vp_in x1 4 ∧
    ((((gi h1 140 (ix x1)) = 0) →
      f_X8_finds (-1000000006 : Int32) h1 (fun v28 h27 =>
      Q v28 h27)) ∧
     (¬ ((gi h1 140 (ix x1)) = 0) →
      f_X8_isStation x2 h1 (fun v7 h6 =>
      (((v7 = 0) →
        f_X8_finds (-1000000001 : Int32) h6 (fun v26 h25 =>
        Q v26 h25)) ∧
       (¬ (v7 = 0) →
        f_X8_layOut (-1 : Int32) (-1 : Int32) (-1 : Int32) 0 h6 (fun h9 =>
        ∃ n24, f_X8_book_L59 x1 x2
          Q n24 0 0 h9)))))))))
set_option maxRecDepth 20000 in
theorem l_X8_book_L59 (g : GE) (x1 : Int32) (x2 : Int32)   (Q : Int32 → HP → Prop)  : ∀ (n : Nat) (x3 : Int32) (x4 : Int32) (h : HP), f_X8_book_L59 x1 x2 Q n x3 x4 h → Wm g mX8_book 59 [some (.ref 117), some (.int x1), some (.int x2), some (.int x3), some (.int x4)] [] h (qi Q) := by
  intro n
  induction n with
  | zero => intro x3 x4 h H; exact H.elim
  | succ n ih =>
    intro x3 x4 h H
    unfold f_X8_book_L59 at H
    refine wm_iload 4 61 (by decide +kernel) rfl rfl ?_
    refine wm_aload_n 0 62 (by decide +kernel) rfl rfl ?_
    refine wm_getr 8 34 24 141 65 fl_RX8_80 (by decide +kernel) rfl (by decide +kernel) rfl rfl (by decide) ?_
    refine wm_iload_n 1 66 (by decide +kernel) rfl rfl ?_
    obtain ⟨o10, H⟩ := H
    refine wm_iald 4 67 (by decide +kernel) rfl (by decide +kernel) (by decide +kernel) o10 ?_
    refine wm_icmp_ge 70 124 (by decide +kernel : decode cX8_book 67 = .ok (.if_icmp .ge 57, 3)) (by decide) rfl (fun c11 => ?_) (fun c11 => ?_)
    · replace H := H.1 c11
      refine wm_iload 4 126 (by decide +kernel) rfl rfl ?_
      exact wm_iret (by decide +kernel) ⟨.int, rfl, rfl⟩ H
    · replace H := H.2 c11
      refine wm_iload 4 72 (by decide +kernel) rfl rfl ?_
      refine wm_bipush 24 74 (by decide +kernel : decode cX8_book 72 = .ok (.bipush 24, 2)) rfl (by decide +kernel) ?_
      refine wm_icmp_gt 77 124 (by decide +kernel : decode cX8_book 74 = .ok (.if_icmp .gt 50, 3)) (by decide) rfl (fun c12 => ?_) (fun c12 => ?_)
      · replace H := H.1 c12
        refine wm_iload 4 126 (by decide +kernel) rfl rfl ?_
        exact wm_iret (by decide +kernel) ⟨.int, rfl, rfl⟩ H
      · replace H := H.2 c12
        refine wm_iload_n 3 78 (by decide +kernel) rfl rfl ?_
        refine wm_aload_n 0 79 (by decide +kernel) rfl rfl ?_
        refine wm_iload_n 2 80 (by decide +kernel) rfl rfl ?_
        refine wm_iload 4 82 (by decide +kernel) rfl rfl ?_
        refine wm_callVi mX8_brings 2 8 [_, _] [_] _ _ 85 mo_X8_brings np_X8_brings ml_RX8_236 im_X8_brings se_X8_brings (by decide +kernel) (by decide +kernel) rfl rfl rfl (Nat.le_of_ble_eq_true rfl) (by decide +kernel) rfl (Nat.le_of_ble_eq_true rfl) _ (ent_pad 8 rfl) (l_X8_brings g _ _ _ _ H) (fun v14 h13 H hzv14 => ?_)
        refine wm_iadd 86 (by decide +kernel) rfl ?_
        replace H := H _ rfl
        refine wm_istore_n 3 87 [some _, some _, some _, some _, some _] (by decide +kernel) rfl (by decide +kernel) (okS_spec rfl) rfl ?_
        refine wm_aload_n 0 88 (by decide +kernel) rfl rfl ?_
        refine wm_getr 8 35 25 142 91 fl_RX8_83 (by decide +kernel) rfl (by decide +kernel) rfl rfl (by decide) ?_
        refine wm_bipush 40 93 (by decide +kernel : decode cX8_book 91 = .ok (.bipush 40, 2)) rfl (by decide +kernel) ?_
        refine wm_iload_n 1 94 (by decide +kernel) rfl rfl ?_
        refine wm_imul 95 (by decide +kernel) rfl ?_
        refine wm_iload 4 97 (by decide +kernel) rfl rfl ?_
        refine wm_iadd 98 (by decide +kernel) rfl ?_
        refine wm_aload_n 0 99 (by decide +kernel) rfl rfl ?_
        refine wm_getr 8 33 23 140 102 fl_RX8_77 (by decide +kernel) rfl (by decide +kernel) rfl rfl (by decide) ?_
        refine wm_iload_n 1 103 (by decide +kernel) rfl rfl ?_
        obtain ⟨o16, H⟩ := H
        refine wm_iald 4 104 (by decide +kernel) rfl (by decide +kernel) (by decide +kernel) o16 ?_
        refine wm_iload_n 3 105 (by decide +kernel) rfl rfl ?_
        refine wm_aload_n 0 106 (by decide +kernel) rfl rfl ?_
        refine wm_iload_n 2 107 (by decide +kernel) rfl rfl ?_
        refine wm_iload 4 109 (by decide +kernel) rfl rfl ?_
        refine wm_callVi mX8_ownTill 2 8 [_, _] [_, _, _, _] _ _ 112 mo_X8_ownTill np_X8_ownTill ml_RX8_239 im_X8_ownTill se_X8_ownTill (by decide +kernel) (by decide +kernel) rfl rfl rfl (Nat.le_of_ble_eq_true rfl) (by decide +kernel) rfl (Nat.le_of_ble_eq_true rfl) _ (ent_pad 2 rfl) (l_X8_ownTill g _ _ _ _ H) (fun v18 h17 H hzv18 => ?_)
        refine wm_iadd 113 (by decide +kernel) rfl ?_
        refine wm_i2l 114 (by decide +kernel) rfl ?_
        refine wm_callSl mX8_narrow 2 [_, _] [_, _] _ _ 117 mo_X8_narrow np_X8_narrow ml_RX8_354 sc_X8_narrow (by decide +kernel) (by decide +kernel) rfl rfl rfl (Nat.le_of_ble_eq_true rfl) (Nat.le_of_ble_eq_true rfl) _ (ent_pad 0 rfl) (l_X8_narrow g _ _ _ _ H) (fun v20 h19 H hzv20 => ?_)
        obtain ⟨o21, H⟩ := H
        replace H := H _ rfl
        refine wm_last 160 118 (by decide +kernel) rfl (by decide +kernel) (by decide +kernel) o21 ?_
        replace H := H _ rfl
        refine wm_iinc 4 (_ + 1) 121 [some _, some _, some _, some _, some _] (by decide +kernel : decode cX8_book 118 = .ok (.iinc 4 1, 3)) rfl (by decide +kernel) rfl (ofI_eq (by decide +kernel)) (okS_spec rfl) rfl ?_
        refine wm_goto 59 (by decide +kernel : decode cX8_book 121 = .ok (.goto (-62), 3)) (by decide) ?_
        exact ih _ _ _ H
set_option maxRecDepth 20000 in
theorem l_X8_book (g : GE) (x1 : Int32) (x2 : Int32)  (h : HP) (Q : Int32 → HP → Prop) (H : f_X8_book x1 x2 h Q) : Wm g mX8_book 0 [some (.ref 117), some (.int x1), some (.int x2), none, none] [] h (qi Q) := by
  unfold f_X8_book at H
  refine wm_iload_n 1 1 (by decide +kernel) rfl rfl ?_
  refine wm_callSi mX8_isSheet 1 [_] [] _ _ 4 mo_X8_isSheet np_X8_isSheet ml_RX8_261 sc_X8_isSheet (by decide +kernel) (by decide +kernel) rfl rfl rfl (Nat.le_of_ble_eq_true rfl) (Nat.le_of_ble_eq_true rfl) _ (ent_pad 0 rfl) (l_X8_isSheet g _ _ _ H) (fun v2 h1 H hzv2 => ?_)
  refine wm_if_ne 7 14 (by decide +kernel : decode cX8_book 4 = .ok (.ifCond .ne 10, 3)) (by decide) rfl (fun c3 => ?_) (fun c3 => ?_)
  · replace H := H.2 c3
    refine wm_aload_n 0 15 (by decide +kernel) rfl rfl ?_
    refine wm_getr 8 33 23 140 18 fl_RX8_77 (by decide +kernel) rfl (by decide +kernel) rfl rfl (by decide) ?_
    refine wm_iload_n 1 19 (by decide +kernel) rfl rfl ?_
    obtain ⟨o4, H⟩ := H
    refine wm_iald 4 20 (by decide +kernel) rfl (by decide +kernel) (by decide +kernel) o4 ?_
    refine wm_if_ne 23 31 (by decide +kernel : decode cX8_book 20 = .ok (.ifCond .ne 11, 3)) (by decide) rfl (fun c5 => ?_) (fun c5 => ?_)
    · replace H := H.2 c5
      refine wm_aload_n 0 32 (by decide +kernel) rfl rfl ?_
      refine wm_iload_n 2 33 (by decide +kernel) rfl rfl ?_
      refine wm_callVi mX8_isStation 1 8 [_] [] _ _ 36 mo_X8_isStation np_X8_isStation ml_RX8_140 im_X8_isStation se_X8_isStation (by decide +kernel) (by decide +kernel) rfl rfl rfl (Nat.le_of_ble_eq_true rfl) (by decide +kernel) rfl (Nat.le_of_ble_eq_true rfl) _ (ent_pad 0 rfl) (l_X8_isStation g _ _ _ H) (fun v7 h6 H hzv7 => ?_)
      refine wm_if_ne 39 46 (by decide +kernel : decode cX8_book 36 = .ok (.ifCond .ne 10, 3)) (by decide) rfl (fun c8 => ?_) (fun c8 => ?_)
      · replace H := H.2 c8
        refine wm_aload_n 0 47 (by decide +kernel) rfl rfl ?_
        refine wm_iconst (-1) 48 (by decide +kernel : decode cX8_book 47 = .ok (.iconst (-1), 1)) rfl (by decide +kernel) ?_
        refine wm_iconst (-1) 49 (by decide +kernel : decode cX8_book 48 = .ok (.iconst (-1), 1)) rfl (by decide +kernel) ?_
        refine wm_iconst (-1) 50 (by decide +kernel : decode cX8_book 49 = .ok (.iconst (-1), 1)) rfl (by decide +kernel) ?_
        refine wm_iconst 0 51 (by decide +kernel : decode cX8_book 50 = .ok (.iconst 0, 1)) rfl (by decide +kernel) ?_
        refine wm_callVv mX8_layOut 4 8 [_, _, _, _] [] _ _ 54 mo_X8_layOut np_X8_layOut ml_RX8_232 im_X8_layOut se_X8_layOut (by decide +kernel) (by decide +kernel) rfl rfl rfl (Nat.le_of_ble_eq_true rfl) (by decide +kernel) rfl (Nat.le_of_ble_eq_true rfl) _ (ent_pad 3 rfl) (l_X8_layOut g _ _ _ _ _ _ H) (fun h9 H => ?_)
        refine wm_iconst 0 55 (by decide +kernel : decode cX8_book 54 = .ok (.iconst 0, 1)) rfl (by decide +kernel) ?_
        refine wm_istore_n 3 56 [some _, some _, some _, some _, none] (by decide +kernel) rfl (by decide +kernel) (okS_spec rfl) rfl ?_
        refine wm_iconst 0 57 (by decide +kernel : decode cX8_book 56 = .ok (.iconst 0, 1)) rfl (by decide +kernel) ?_
        refine wm_istore 4 59 [some _, some _, some _, some _, some _] (by decide +kernel) rfl (by decide +kernel) (okS_spec rfl) rfl ?_
        obtain ⟨n24, H⟩ := H
        refine l_X8_book_L59 g _ _ _  _ _ _ _ H
      · replace H := H.1 c8
        refine wm_aload_n 0 40 (by decide +kernel) rfl rfl ?_
        refine wm_ldc (-1000000001) 42 co_RX8_96 (by decide +kernel) rfl ?_
        refine wm_callVi mX8_finds 1 8 [_] [] _ _ 45 mo_X8_finds np_X8_finds ml_RX8_129 im_X8_finds se_X8_finds (by decide +kernel) (by decide +kernel) rfl rfl rfl (Nat.le_of_ble_eq_true rfl) (by decide +kernel) rfl (Nat.le_of_ble_eq_true rfl) _ (ent_pad 0 rfl) (l_X8_finds g _ _ _ H) (fun v26 h25 H hzv26 => ?_)
        exact wm_iret (by decide +kernel) ⟨.int, rfl, rfl⟩ H
    · replace H := H.1 c5
      refine wm_aload_n 0 24 (by decide +kernel) rfl rfl ?_
      refine wm_ldcw (-1000000006) 27 co_RX8_264 (by decide +kernel) rfl ?_
      refine wm_callVi mX8_finds 1 8 [_] [] _ _ 30 mo_X8_finds np_X8_finds ml_RX8_129 im_X8_finds se_X8_finds (by decide +kernel) (by decide +kernel) rfl rfl rfl (Nat.le_of_ble_eq_true rfl) (by decide +kernel) rfl (Nat.le_of_ble_eq_true rfl) _ (ent_pad 0 rfl) (l_X8_finds g _ _ _ H) (fun v28 h27 H hzv28 => ?_)
      exact wm_iret (by decide +kernel) ⟨.int, rfl, rfl⟩ H
  · replace H := H.1 c3
    refine wm_aload_n 0 8 (by decide +kernel) rfl rfl ?_
    refine wm_ldc (-1000000001) 10 co_RX8_96 (by decide +kernel) rfl ?_
    refine wm_callVi mX8_finds 1 8 [_] [] _ _ 13 mo_X8_finds np_X8_finds ml_RX8_129 im_X8_finds se_X8_finds (by decide +kernel) (by decide +kernel) rfl rfl rfl (Nat.le_of_ble_eq_true rfl) (by decide +kernel) rfl (Nat.le_of_ble_eq_true rfl) _ (ent_pad 0 rfl) (l_X8_finds g _ _ _ H) (fun v30 h29 H hzv30 => ?_)
    exact wm_iret (by decide +kernel) ⟨.int, rfl, rfl⟩ H
def f_X8_sendsAll_L2 (x1 : Int32) (x2 : Int32)  (Q : Int32 → HP → Prop) : Nat → Int32 → HP → Prop
  | 0, _, _ => False
  | n + 1, x3, h =>
    vp_in x1 4 ∧
    ((((gi h 141 (ix x1)) ≤ ((3 * x3) + 2)) →
      Q (-1 : Int32) h) ∧
     (¬ ((gi h 141 (ix x1)) ≤ ((3 * x3) + 2)) →
      ∀ x4_3 : Int32, x4_3 = ((40 * x1) + (3 * x3)) →
      vp_in (x4_3 + 1) 160 ∧
      ((((lg_cmp (gl h 142 (ix (x4_3 + 1))) (x2 : Int32).toInt64) = 0) →
        vp_in x4_3 160 ∧
        ∀ x5_8 : Int64, x5_8 = (gl h 142 (ix x4_3)) →
        f_X8_in x5_8 (0 : Int64) ((((gi h 117 7) - 1) : Int32).toInt64) h (fun v10 h9 =>
        (((v10 = 0) →
          Q x3 h9) ∧
         (¬ (v10 = 0) →
          vp_in (x4_3 + 2) 160 ∧
          f_X8_canSend ((x5_8 : Int64).toInt32) (gl h9 142 (ix (x4_3 + 2))) h9 (fun v14 h13 =>
          (((v14 = 0) →
            Q x3 h13) ∧
           (¬ (v14 = 0) →
            vp_in (x4_3 + 2) 160 ∧
            f_X8_sends ((x5_8 : Int64).toInt32) (((gl h13 142 (ix (x4_3 + 2))) : Int64).toInt32) h13 (fun h17 =>
            ∀ x3_18 : Int32, x3_18 = (x3 + 1) →
            f_X8_sendsAll_L2 x1 x2 Q n x3_18 h17)))))))) ∧
       (¬ ((lg_cmp (gl h 142 (ix (x4_3 + 1))) (x2 : Int32).toInt64) = 0) →
        ∀ x3_6 : Int32, x3_6 = (x3 + 1) →
        f_X8_sendsAll_L2 x1 x2 Q n x3_6 h))))
def f_X8_sendsAll (x1 : Int32) (x2 : Int32) (h : HP) (Q : Int32 → HP → Prop) : Prop :=
  ∃ n19, f_X8_sendsAll_L2 x1 x2
    Q n19 0 h
set_option maxRecDepth 20000 in
theorem l_X8_sendsAll_L2 (g : GE) (x1 : Int32) (x2 : Int32)   (Q : Int32 → HP → Prop)  : ∀ (n : Nat) (x3 : Int32) (h : HP), f_X8_sendsAll_L2 x1 x2 Q n x3 h → Wm g mX8_sendsAll 2 [some (.ref 117), some (.int x1), some (.int x2), some (.int x3), none, none, none] [] h (qi Q) := by
  intro n
  induction n with
  | zero => intro x3 h H; exact H.elim
  | succ n ih =>
    intro x3 h H
    unfold f_X8_sendsAll_L2 at H
    refine wm_iconst 3 3 (by decide +kernel : decode cX8_sendsAll 2 = .ok (.iconst 3, 1)) rfl (by decide +kernel) ?_
    refine wm_iload_n 3 4 (by decide +kernel) rfl rfl ?_
    refine wm_imul 5 (by decide +kernel) rfl ?_
    refine wm_iconst 2 6 (by decide +kernel : decode cX8_sendsAll 5 = .ok (.iconst 2, 1)) rfl (by decide +kernel) ?_
    refine wm_iadd 7 (by decide +kernel) rfl ?_
    refine wm_aload_n 0 8 (by decide +kernel) rfl rfl ?_
    refine wm_getr 8 34 24 141 11 fl_RX8_80 (by decide +kernel) rfl (by decide +kernel) rfl rfl (by decide) ?_
    refine wm_iload_n 1 12 (by decide +kernel) rfl rfl ?_
    obtain ⟨o1, H⟩ := H
    refine wm_iald 4 13 (by decide +kernel) rfl (by decide +kernel) (by decide +kernel) o1 ?_
    refine wm_icmp_ge 16 110 (by decide +kernel : decode cX8_sendsAll 13 = .ok (.if_icmp .ge 97, 3)) (by decide) rfl (fun c2 => ?_) (fun c2 => ?_)
    · replace H := H.1 c2
      refine wm_iconst (-1) 111 (by decide +kernel : decode cX8_sendsAll 110 = .ok (.iconst (-1), 1)) rfl (by decide +kernel) ?_
      exact wm_iret (by decide +kernel) ⟨.int, rfl, rfl⟩ H
    · replace H := H.2 c2
      refine wm_bipush 40 18 (by decide +kernel : decode cX8_sendsAll 16 = .ok (.bipush 40, 2)) rfl (by decide +kernel) ?_
      refine wm_iload_n 1 19 (by decide +kernel) rfl rfl ?_
      refine wm_imul 20 (by decide +kernel) rfl ?_
      refine wm_iconst 3 21 (by decide +kernel : decode cX8_sendsAll 20 = .ok (.iconst 3, 1)) rfl (by decide +kernel) ?_
      refine wm_iload_n 3 22 (by decide +kernel) rfl rfl ?_
      refine wm_imul 23 (by decide +kernel) rfl ?_
      refine wm_iadd 24 (by decide +kernel) rfl ?_
      replace H := H _ rfl
      refine wm_istore 4 26 [some _, some _, some _, some _, some _, none, none] (by decide +kernel) rfl (by decide +kernel) (okS_spec rfl) rfl ?_
      refine wm_aload_n 0 27 (by decide +kernel) rfl rfl ?_
      refine wm_getr 8 35 25 142 30 fl_RX8_83 (by decide +kernel) rfl (by decide +kernel) rfl rfl (by decide) ?_
      refine wm_iload 4 32 (by decide +kernel) rfl rfl ?_
      refine wm_iconst 1 33 (by decide +kernel : decode cX8_sendsAll 32 = .ok (.iconst 1, 1)) rfl (by decide +kernel) ?_
      refine wm_iadd 34 (by decide +kernel) rfl ?_
      obtain ⟨o4, H⟩ := H
      refine wm_lald 160 35 (by decide +kernel) rfl (by decide +kernel) (by decide +kernel) o4 ?_
      refine wm_iload_n 2 36 (by decide +kernel) rfl rfl ?_
      refine wm_i2l 37 (by decide +kernel) rfl ?_
      refine wm_lcmp 38 (by decide +kernel) rfl ?_
      refine wm_if_ne 41 104 (by decide +kernel : decode cX8_sendsAll 38 = .ok (.ifCond .ne 66, 3)) (by decide) rfl (fun c5 => ?_) (fun c5 => ?_)
      · replace H := H.2 c5
        replace H := H _ rfl
        refine wm_iinc 3 (_ + 1) 107 [some _, some _, some _, some _, some _, none, none] (by decide +kernel : decode cX8_sendsAll 104 = .ok (.iinc 3 1, 3)) rfl (by decide +kernel) rfl (ofI_eq (by decide +kernel)) (okS_spec rfl) rfl ?_
        refine wm_goto 2 (by decide +kernel : decode cX8_sendsAll 107 = .ok (.goto (-105), 3)) (by decide) ?_
        refine wm_mask [true, true, true, true, false, false, false] [some _, some _, some _, some _, none, none, none] rfl ?_
        exact ih _ _ H
      · replace H := H.1 c5
        refine wm_aload_n 0 42 (by decide +kernel) rfl rfl ?_
        refine wm_getr 8 35 25 142 45 fl_RX8_83 (by decide +kernel) rfl (by decide +kernel) rfl rfl (by decide) ?_
        refine wm_iload 4 47 (by decide +kernel) rfl rfl ?_
        obtain ⟨o7, H⟩ := H
        refine wm_lald 160 48 (by decide +kernel) rfl (by decide +kernel) (by decide +kernel) o7 ?_
        replace H := H _ rfl
        refine wm_lstore 5 50 [some _, some _, some _, some _, some _, some _, none] (by decide +kernel) rfl (by decide +kernel) (okS_spec rfl) rfl ?_
        refine wm_lload 5 52 (by decide +kernel) rfl rfl ?_
        refine wm_lconst 0 53 (by decide +kernel : decode cX8_sendsAll 52 = .ok (.lconst 0, 1)) rfl (by decide +kernel) ?_
        refine wm_aload_n 0 54 (by decide +kernel) rfl rfl ?_
        refine wm_geti 8 7 57 fl_RX8_105 (by decide +kernel) rfl (by decide +kernel) rfl ?_
        refine wm_iconst 1 58 (by decide +kernel : decode cX8_sendsAll 57 = .ok (.iconst 1, 1)) rfl (by decide +kernel) ?_
        refine wm_isub 59 (by decide +kernel) rfl ?_
        refine wm_i2l 60 (by decide +kernel) rfl ?_
        refine wm_callSi mX8_in 3 [_, _, _] [] _ _ 63 mo_X8_in np_X8_in ml_RX8_101 sc_X8_in (by decide +kernel) (by decide +kernel) rfl rfl rfl (Nat.le_of_ble_eq_true rfl) (Nat.le_of_ble_eq_true rfl) _ (ent_pad 0 rfl) (l_X8_in g _ _ _ _ _ H) (fun v10 h9 H hzv10 => ?_)
        refine wm_if_eq 66 85 (by decide +kernel : decode cX8_sendsAll 63 = .ok (.ifCond .eq 22, 3)) (by decide) rfl (fun c11 => ?_) (fun c11 => ?_)
        · replace H := H.1 c11
          refine wm_iload_n 3 86 (by decide +kernel) rfl rfl ?_
          exact wm_iret (by decide +kernel) ⟨.int, rfl, rfl⟩ H
        · replace H := H.2 c11
          refine wm_aload_n 0 67 (by decide +kernel) rfl rfl ?_
          refine wm_lload 5 69 (by decide +kernel) rfl rfl ?_
          refine wm_l2i 70 (by decide +kernel) rfl ?_
          refine wm_aload_n 0 71 (by decide +kernel) rfl rfl ?_
          refine wm_getr 8 35 25 142 74 fl_RX8_83 (by decide +kernel) rfl (by decide +kernel) rfl rfl (by decide) ?_
          refine wm_iload 4 76 (by decide +kernel) rfl rfl ?_
          refine wm_iconst 2 77 (by decide +kernel : decode cX8_sendsAll 76 = .ok (.iconst 2, 1)) rfl (by decide +kernel) ?_
          refine wm_iadd 78 (by decide +kernel) rfl ?_
          obtain ⟨o12, H⟩ := H
          refine wm_lald 160 79 (by decide +kernel) rfl (by decide +kernel) (by decide +kernel) o12 ?_
          refine wm_callVi mX8_canSend 2 8 [_, _] [] _ _ 82 mo_X8_canSend np_X8_canSend ml_RX8_185 im_X8_canSend se_X8_canSend (by decide +kernel) (by decide +kernel) rfl rfl rfl (Nat.le_of_ble_eq_true rfl) (by decide +kernel) rfl (Nat.le_of_ble_eq_true rfl) _ (ent_pad 0 rfl) (l_X8_canSend g _ _ _ _ H) (fun v14 h13 H hzv14 => ?_)
          refine wm_if_ne 85 87 (by decide +kernel : decode cX8_sendsAll 82 = .ok (.ifCond .ne 5, 3)) (by decide) rfl (fun c15 => ?_) (fun c15 => ?_)
          · replace H := H.2 c15
            refine wm_aload_n 0 88 (by decide +kernel) rfl rfl ?_
            refine wm_lload 5 90 (by decide +kernel) rfl rfl ?_
            refine wm_l2i 91 (by decide +kernel) rfl ?_
            refine wm_aload_n 0 92 (by decide +kernel) rfl rfl ?_
            refine wm_getr 8 35 25 142 95 fl_RX8_83 (by decide +kernel) rfl (by decide +kernel) rfl rfl (by decide) ?_
            refine wm_iload 4 97 (by decide +kernel) rfl rfl ?_
            refine wm_iconst 2 98 (by decide +kernel : decode cX8_sendsAll 97 = .ok (.iconst 2, 1)) rfl (by decide +kernel) ?_
            refine wm_iadd 99 (by decide +kernel) rfl ?_
            obtain ⟨o16, H⟩ := H
            refine wm_lald 160 100 (by decide +kernel) rfl (by decide +kernel) (by decide +kernel) o16 ?_
            refine wm_l2i 101 (by decide +kernel) rfl ?_
            refine wm_callVv mX8_sends 2 8 [_, _] [] _ _ 104 mo_X8_sends np_X8_sends ml_RX8_190 im_X8_sends se_X8_sends (by decide +kernel) (by decide +kernel) rfl rfl rfl (Nat.le_of_ble_eq_true rfl) (by decide +kernel) rfl (Nat.le_of_ble_eq_true rfl) _ (ent_pad 0 rfl) (l_X8_sends g _ _ _ _ H) (fun h17 H => ?_)
            replace H := H _ rfl
            refine wm_iinc 3 (_ + 1) 107 [some _, some _, some _, some _, some _, some _, none] (by decide +kernel : decode cX8_sendsAll 104 = .ok (.iinc 3 1, 3)) rfl (by decide +kernel) rfl (ofI_eq (by decide +kernel)) (okS_spec rfl) rfl ?_
            refine wm_goto 2 (by decide +kernel : decode cX8_sendsAll 107 = .ok (.goto (-105), 3)) (by decide) ?_
            refine wm_mask [true, true, true, true, false, false, false] [some _, some _, some _, some _, none, none, none] rfl ?_
            exact ih _ _ H
          · replace H := H.1 c15
            refine wm_iload_n 3 86 (by decide +kernel) rfl rfl ?_
            exact wm_iret (by decide +kernel) ⟨.int, rfl, rfl⟩ H
set_option maxRecDepth 20000 in
theorem l_X8_sendsAll (g : GE) (x1 : Int32) (x2 : Int32)  (h : HP) (Q : Int32 → HP → Prop) (H : f_X8_sendsAll x1 x2 h Q) : Wm g mX8_sendsAll 0 [some (.ref 117), some (.int x1), some (.int x2), none, none, none, none] [] h (qi Q) := by
  unfold f_X8_sendsAll at H
  refine wm_iconst 0 1 (by decide +kernel : decode cX8_sendsAll 0 = .ok (.iconst 0, 1)) rfl (by decide +kernel) ?_
  refine wm_istore_n 3 2 [some _, some _, some _, some _, none, none, none] (by decide +kernel) rfl (by decide +kernel) (okS_spec rfl) rfl ?_
  obtain ⟨n19, H⟩ := H
  refine l_X8_sendsAll_L2 g _ _ _  _ _ _ H
def f_X8_goesBy_L5 (x1 : Int32) (x2 : Int32)  (Q : Int32 → HP → Prop) : Nat → Int32 → Int32 → HP → Prop
  | 0, _, _, _ => False
  | n + 1, x3, x4, h =>
    (((x2 ≤ x4) →
      Q x3 h) ∧
     (¬ (x2 ≤ x4) →
      (((0 ≤ x3) →
        Q x3 h) ∧
       (¬ (0 ≤ x3) →
        f_X8_sendsAll x1 x4 h (fun v4 h3 =>
        (((0 ≤ v4) →
          ∀ x4_6 : Int32, x4_6 = (x4 + 1) →
          f_X8_goesBy_L5 x1 x2 Q n v4 x4_6 h3) ∧
         (¬ (0 ≤ v4) →
          f_X8_oneTick h3 (fun h7 =>
          ∀ x4_8 : Int32, x4_8 = (x4 + 1) →
          f_X8_goesBy_L5 x1 x2 Q n v4 x4_8 h7))))))))
def f_X8_goesBy (x1 : Int32) (x2 : Int32) (h : HP) (Q : Int32 → HP → Prop) : Prop :=
  ∃ n9, f_X8_goesBy_L5 x1 x2
    Q n9 (-1 : Int32) 0 h
set_option maxRecDepth 20000 in
theorem l_X8_goesBy_L5 (g : GE) (x1 : Int32) (x2 : Int32)   (Q : Int32 → HP → Prop)  : ∀ (n : Nat) (x3 : Int32) (x4 : Int32) (h : HP), f_X8_goesBy_L5 x1 x2 Q n x3 x4 h → Wm g mX8_goesBy 5 [some (.ref 117), some (.int x1), some (.int x2), some (.int x3), some (.int x4)] [] h (qi Q) := by
  intro n
  induction n with
  | zero => intro x3 x4 h H; exact H.elim
  | succ n ih =>
    intro x3 x4 h H
    unfold f_X8_goesBy_L5 at H
    refine wm_iload 4 7 (by decide +kernel) rfl rfl ?_
    refine wm_iload_n 2 8 (by decide +kernel) rfl rfl ?_
    refine wm_icmp_ge 11 37 (by decide +kernel : decode cX8_goesBy 8 = .ok (.if_icmp .ge 29, 3)) (by decide) rfl (fun c1 => ?_) (fun c1 => ?_)
    · replace H := H.1 c1
      refine wm_iload_n 3 38 (by decide +kernel) rfl rfl ?_
      exact wm_iret (by decide +kernel) ⟨.int, rfl, rfl⟩ H
    · replace H := H.2 c1
      refine wm_iload_n 3 12 (by decide +kernel) rfl rfl ?_
      refine wm_if_ge 15 37 (by decide +kernel : decode cX8_goesBy 12 = .ok (.ifCond .ge 25, 3)) (by decide) rfl (fun c2 => ?_) (fun c2 => ?_)
      · replace H := H.1 c2
        refine wm_iload_n 3 38 (by decide +kernel) rfl rfl ?_
        exact wm_iret (by decide +kernel) ⟨.int, rfl, rfl⟩ H
      · replace H := H.2 c2
        refine wm_aload_n 0 16 (by decide +kernel) rfl rfl ?_
        refine wm_iload_n 1 17 (by decide +kernel) rfl rfl ?_
        refine wm_iload 4 19 (by decide +kernel) rfl rfl ?_
        refine wm_callVi mX8_sendsAll 2 8 [_, _] [] _ _ 22 mo_X8_sendsAll np_X8_sendsAll ml_RX8_358 im_X8_sendsAll se_X8_sendsAll (by decide +kernel) (by decide +kernel) rfl rfl rfl (Nat.le_of_ble_eq_true rfl) (by decide +kernel) rfl (Nat.le_of_ble_eq_true rfl) _ (ent_pad 4 rfl) (l_X8_sendsAll g _ _ _ _ H) (fun v4 h3 H hzv4 => ?_)
        refine wm_istore_n 3 23 [some _, some _, some _, some _, some _] (by decide +kernel) rfl (by decide +kernel) (okS_spec rfl) rfl ?_
        refine wm_iload_n 3 24 (by decide +kernel) rfl rfl ?_
        refine wm_if_ge 27 31 (by decide +kernel : decode cX8_goesBy 24 = .ok (.ifCond .ge 7, 3)) (by decide) rfl (fun c5 => ?_) (fun c5 => ?_)
        · replace H := H.1 c5
          replace H := H _ rfl
          refine wm_iinc 4 (_ + 1) 34 [some _, some _, some _, some _, some _] (by decide +kernel : decode cX8_goesBy 31 = .ok (.iinc 4 1, 3)) rfl (by decide +kernel) rfl (ofI_eq (by decide +kernel)) (okS_spec rfl) rfl ?_
          refine wm_goto 5 (by decide +kernel : decode cX8_goesBy 34 = .ok (.goto (-29), 3)) (by decide) ?_
          exact ih _ _ _ H
        · replace H := H.2 c5
          refine wm_aload_n 0 28 (by decide +kernel) rfl rfl ?_
          refine wm_callVv mX8_oneTick 0 8 [] [] _ _ 31 mo_X8_oneTick np_X8_oneTick ml_RX8_199 im_X8_oneTick se_X8_oneTick (by decide +kernel) (by decide +kernel) rfl rfl rfl (Nat.le_of_ble_eq_true rfl) (by decide +kernel) rfl (Nat.le_of_ble_eq_true rfl) _ (ent_pad 2 rfl) (l_X8_oneTick g _ _ H) (fun h7 H => ?_)
          replace H := H _ rfl
          refine wm_iinc 4 (_ + 1) 34 [some _, some _, some _, some _, some _] (by decide +kernel : decode cX8_goesBy 31 = .ok (.iinc 4 1, 3)) rfl (by decide +kernel) rfl (ofI_eq (by decide +kernel)) (okS_spec rfl) rfl ?_
          refine wm_goto 5 (by decide +kernel : decode cX8_goesBy 34 = .ok (.goto (-29), 3)) (by decide) ?_
          exact ih _ _ _ H
set_option maxRecDepth 20000 in
theorem l_X8_goesBy (g : GE) (x1 : Int32) (x2 : Int32)  (h : HP) (Q : Int32 → HP → Prop) (H : f_X8_goesBy x1 x2 h Q) : Wm g mX8_goesBy 0 [some (.ref 117), some (.int x1), some (.int x2), none, none] [] h (qi Q) := by
  unfold f_X8_goesBy at H
  refine wm_iconst (-1) 1 (by decide +kernel : decode cX8_goesBy 0 = .ok (.iconst (-1), 1)) rfl (by decide +kernel) ?_
  refine wm_istore_n 3 2 [some _, some _, some _, some _, none] (by decide +kernel) rfl (by decide +kernel) (okS_spec rfl) rfl ?_
  refine wm_iconst 0 3 (by decide +kernel : decode cX8_goesBy 2 = .ok (.iconst 0, 1)) rfl (by decide +kernel) ?_
  refine wm_istore 4 5 [some _, some _, some _, some _, some _] (by decide +kernel) rfl (by decide +kernel) (okS_spec rfl) rfl ?_
  obtain ⟨n9, H⟩ := H
  refine l_X8_goesBy_L5 g _ _ _  _ _ _ _ H
def f_X8_puts_L3 (a1 : Nat) (x2 : Int32) (a3 : Nat)  (Q : Int32 → HP → Prop) : Nat → Int32 → HP → Prop
  | 0, _, _ => False
  | n + 1, x4, h =>
    ((((Int32.ofNat (kn a3)) ≤ x4) →
      Q (x2 + (Int32.ofNat (kn a3))) h) ∧
     (¬ ((Int32.ofNat (kn a3)) ≤ x4) →
      vp_in x4 (kn a3) ∧
      vp_in (x2 + x4) (kn a1) ∧
      ∀ h4 : HP, h4 = si h a1 (ix (x2 + x4)) (gi h a3 (ix x4)) →
      ∀ x4_5 : Int32, x4_5 = (x4 + 1) →
      f_X8_puts_L3 a1 x2 a3 Q n x4_5 h4))
def f_X8_puts (a1 : Nat) (x2 : Int32) (a3 : Nat) (h : HP) (Q : Int32 → HP → Prop) : Prop :=
  ∃ n6, f_X8_puts_L3 a1 x2 a3
    Q n6 0 h
set_option maxRecDepth 20000 in
theorem l_X8_puts_L3 (g : GE) (a1 : Nat) (x2 : Int32) (a3 : Nat) (ha1 : kd a1 = 10) (ha3 : kd a3 = 10)  (Q : Int32 → HP → Prop)  : ∀ (n : Nat) (x4 : Int32) (h : HP), f_X8_puts_L3 a1 x2 a3 Q n x4 h → Wm g mX8_puts 3 [none, some (.ref a1), some (.int x2), some (.ref a3), some (.int x4)] [] h (qi Q) := by
  intro n
  induction n with
  | zero => intro x4 h H; exact H.elim
  | succ n ih =>
    intro x4 h H
    unfold f_X8_puts_L3 at H
    refine wm_iload 4 5 (by decide +kernel) rfl rfl ?_
    refine wm_aload_n 3 6 (by decide +kernel) rfl rfl ?_
    refine wm_alen _ 7 (by decide +kernel) rfl (Or.inl ha3) rfl ?_
    refine wm_icmp_ge 10 26 (by decide +kernel : decode cX8_puts 7 = .ok (.if_icmp .ge 19, 3)) (by decide) rfl (fun c1 => ?_) (fun c1 => ?_)
    · replace H := H.1 c1
      refine wm_iload_n 2 27 (by decide +kernel) rfl rfl ?_
      refine wm_aload_n 3 28 (by decide +kernel) rfl rfl ?_
      refine wm_alen _ 29 (by decide +kernel) rfl (Or.inl ha3) rfl ?_
      refine wm_iadd 30 (by decide +kernel) rfl ?_
      exact wm_iret (by decide +kernel) ⟨.int, rfl, rfl⟩ H
    · replace H := H.2 c1
      refine wm_aload_n 1 11 (by decide +kernel) rfl rfl ?_
      refine wm_iload_n 2 12 (by decide +kernel) rfl rfl ?_
      refine wm_iload 4 14 (by decide +kernel) rfl rfl ?_
      refine wm_iadd 15 (by decide +kernel) rfl ?_
      refine wm_aload_n 3 16 (by decide +kernel) rfl rfl ?_
      refine wm_iload 4 18 (by decide +kernel) rfl rfl ?_
      obtain ⟨o2, H⟩ := H
      refine wm_iald (kn a3) 19 (by decide +kernel) rfl ha3 rfl o2 ?_
      obtain ⟨o3, H⟩ := H
      replace H := H _ rfl
      refine wm_iast (kn a1) 20 (by decide +kernel) rfl ha1 rfl o3 ?_
      replace H := H _ rfl
      refine wm_iinc 4 (_ + 1) 23 [none, some _, some _, some _, some _] (by decide +kernel : decode cX8_puts 20 = .ok (.iinc 4 1, 3)) rfl (by decide +kernel) rfl (ofI_eq (by decide +kernel)) (okS_spec rfl) rfl ?_
      refine wm_goto 3 (by decide +kernel : decode cX8_puts 23 = .ok (.goto (-20), 3)) (by decide) ?_
      exact ih _ _ H
set_option maxRecDepth 20000 in
theorem l_X8_puts (g : GE) (a1 : Nat) (x2 : Int32) (a3 : Nat) (ha1 : kd a1 = 10) (ha3 : kd a3 = 10) (h : HP) (Q : Int32 → HP → Prop) (H : f_X8_puts a1 x2 a3 h Q) : Wm g mX8_puts 0 [some (.ref 117), some (.ref a1), some (.int x2), some (.ref a3), none] [] h (qi Q) := by
  unfold f_X8_puts at H
  refine wm_iconst 0 1 (by decide +kernel : decode cX8_puts 0 = .ok (.iconst 0, 1)) rfl (by decide +kernel) ?_
  refine wm_istore 4 3 [some _, some _, some _, some _, some _] (by decide +kernel) rfl (by decide +kernel) (okS_spec rfl) rfl ?_
  obtain ⟨n6, H⟩ := H
  refine wm_mask [false, true, true, true, true] [none, some _, some _, some _, some _] rfl ?_
  refine l_X8_puts_L3 g _ _ _ ha1 ha3 _  _ _ _ H
def f_X8_keeps (a1 : Nat) (h : HP) (Q : HP → Prop) : Prop :=
  vp_in 0 (kn a1) ∧
  ∀ h2 : HP, h2 = si h a1 (ix 0) (gi h 117 1) →
  vp_in 1 (kn a1) ∧
  ∀ h4 : HP, h4 = si h2 a1 (ix 1) (gi h2 117 2) →
  vp_in 2 (kn a1) ∧
  ∀ h6 : HP, h6 = si h4 a1 (ix 2) (gi h4 117 3) →
  vp_in 3 (kn a1) ∧
  ∀ h8 : HP, h8 = si h6 a1 (ix 3) (gi h6 117 7) →
  f_X8_puts a1 4 119 h8 (fun v10 h9 =>
  f_X8_puts a1 v10 120 h9 (fun v12 h11 =>
  f_X8_puts a1 v12 121 h11 (fun v14 h13 =>
  f_X8_puts a1 v14 122 h13 (fun v16 h15 =>
  f_X8_puts a1 v16 123 h15 (fun v18 h17 =>
  f_X8_puts a1 v18 124 h17 (fun v20 h19 =>
  Q h19))))))
set_option maxRecDepth 20000 in
theorem l_X8_keeps (g : GE) (a1 : Nat) (ha1 : kd a1 = 10) (h : HP) (Q : HP → Prop) (H : f_X8_keeps a1 h Q) : Wm g mX8_keeps 0 [some (.ref 117), some (.ref a1), none] [] h (qv Q) := by
  unfold f_X8_keeps at H
  refine wm_aload_n 1 1 (by decide +kernel) rfl rfl ?_
  refine wm_iconst 0 2 (by decide +kernel : decode cX8_keeps 1 = .ok (.iconst 0, 1)) rfl (by decide +kernel) ?_
  refine wm_aload_n 0 3 (by decide +kernel) rfl rfl ?_
  refine wm_geti 8 1 6 fl_RX8_154 (by decide +kernel) rfl (by decide +kernel) rfl ?_
  obtain ⟨o1, H⟩ := H
  replace H := H _ rfl
  refine wm_iast (kn a1) 7 (by decide +kernel) rfl ha1 rfl o1 ?_
  refine wm_aload_n 1 8 (by decide +kernel) rfl rfl ?_
  refine wm_iconst 1 9 (by decide +kernel : decode cX8_keeps 8 = .ok (.iconst 1, 1)) rfl (by decide +kernel) ?_
  refine wm_aload_n 0 10 (by decide +kernel) rfl rfl ?_
  refine wm_geti 8 2 13 fl_RX8_194 (by decide +kernel) rfl (by decide +kernel) rfl ?_
  obtain ⟨o3, H⟩ := H
  replace H := H _ rfl
  refine wm_iast (kn a1) 14 (by decide +kernel) rfl ha1 rfl o3 ?_
  refine wm_aload_n 1 15 (by decide +kernel) rfl rfl ?_
  refine wm_iconst 2 16 (by decide +kernel : decode cX8_keeps 15 = .ok (.iconst 2, 1)) rfl (by decide +kernel) ?_
  refine wm_aload_n 0 17 (by decide +kernel) rfl rfl ?_
  refine wm_geti 8 3 20 fl_RX8_97 (by decide +kernel) rfl (by decide +kernel) rfl ?_
  obtain ⟨o5, H⟩ := H
  replace H := H _ rfl
  refine wm_iast (kn a1) 21 (by decide +kernel) rfl ha1 rfl o5 ?_
  refine wm_aload_n 1 22 (by decide +kernel) rfl rfl ?_
  refine wm_iconst 3 23 (by decide +kernel : decode cX8_keeps 22 = .ok (.iconst 3, 1)) rfl (by decide +kernel) ?_
  refine wm_aload_n 0 24 (by decide +kernel) rfl rfl ?_
  refine wm_geti 8 7 27 fl_RX8_105 (by decide +kernel) rfl (by decide +kernel) rfl ?_
  obtain ⟨o7, H⟩ := H
  replace H := H _ rfl
  refine wm_iast (kn a1) 28 (by decide +kernel) rfl ha1 rfl o7 ?_
  refine wm_aload_n 0 29 (by decide +kernel) rfl rfl ?_
  refine wm_aload_n 1 30 (by decide +kernel) rfl rfl ?_
  refine wm_iconst 4 31 (by decide +kernel : decode cX8_keeps 30 = .ok (.iconst 4, 1)) rfl (by decide +kernel) ?_
  refine wm_aload_n 0 32 (by decide +kernel) rfl rfl ?_
  refine wm_getr 8 4 2 119 35 fl_RX8_13 (by decide +kernel) rfl (by decide +kernel) rfl rfl (by decide) ?_
  refine wm_callVi mX8_puts 3 8 [_, _, _] [] _ _ 38 mo_X8_puts np_X8_puts ml_RX8_375 im_X8_puts se_X8_puts (by decide +kernel) (by decide +kernel) rfl rfl rfl (Nat.le_of_ble_eq_true rfl) (by decide +kernel) rfl (Nat.le_of_ble_eq_true rfl) _ (ent_pad 1 rfl) (l_X8_puts g _ _ _ ha1 (by decide +kernel) _ _ H) (fun v10 h9 H hzv10 => ?_)
  refine wm_istore_n 2 39 [some _, some _, some _] (by decide +kernel) rfl (by decide +kernel) (okS_spec rfl) rfl ?_
  refine wm_aload_n 0 40 (by decide +kernel) rfl rfl ?_
  refine wm_aload_n 1 41 (by decide +kernel) rfl rfl ?_
  refine wm_iload_n 2 42 (by decide +kernel) rfl rfl ?_
  refine wm_aload_n 0 43 (by decide +kernel) rfl rfl ?_
  refine wm_getr 8 5 3 120 46 fl_RX8_16 (by decide +kernel) rfl (by decide +kernel) rfl rfl (by decide) ?_
  refine wm_callVi mX8_puts 3 8 [_, _, _] [] _ _ 49 mo_X8_puts np_X8_puts ml_RX8_375 im_X8_puts se_X8_puts (by decide +kernel) (by decide +kernel) rfl rfl rfl (Nat.le_of_ble_eq_true rfl) (by decide +kernel) rfl (Nat.le_of_ble_eq_true rfl) _ (ent_pad 1 rfl) (l_X8_puts g _ _ _ ha1 (by decide +kernel) _ _ H) (fun v12 h11 H hzv12 => ?_)
  refine wm_istore_n 2 50 [some _, some _, some _] (by decide +kernel) rfl (by decide +kernel) (okS_spec rfl) rfl ?_
  refine wm_aload_n 0 51 (by decide +kernel) rfl rfl ?_
  refine wm_aload_n 1 52 (by decide +kernel) rfl rfl ?_
  refine wm_iload_n 2 53 (by decide +kernel) rfl rfl ?_
  refine wm_aload_n 0 54 (by decide +kernel) rfl rfl ?_
  refine wm_getr 8 6 4 121 57 fl_RX8_19 (by decide +kernel) rfl (by decide +kernel) rfl rfl (by decide) ?_
  refine wm_callVi mX8_puts 3 8 [_, _, _] [] _ _ 60 mo_X8_puts np_X8_puts ml_RX8_375 im_X8_puts se_X8_puts (by decide +kernel) (by decide +kernel) rfl rfl rfl (Nat.le_of_ble_eq_true rfl) (by decide +kernel) rfl (Nat.le_of_ble_eq_true rfl) _ (ent_pad 1 rfl) (l_X8_puts g _ _ _ ha1 (by decide +kernel) _ _ H) (fun v14 h13 H hzv14 => ?_)
  refine wm_istore_n 2 61 [some _, some _, some _] (by decide +kernel) rfl (by decide +kernel) (okS_spec rfl) rfl ?_
  refine wm_aload_n 0 62 (by decide +kernel) rfl rfl ?_
  refine wm_aload_n 1 63 (by decide +kernel) rfl rfl ?_
  refine wm_iload_n 2 64 (by decide +kernel) rfl rfl ?_
  refine wm_aload_n 0 65 (by decide +kernel) rfl rfl ?_
  refine wm_getr 8 8 5 122 68 fl_RX8_22 (by decide +kernel) rfl (by decide +kernel) rfl rfl (by decide) ?_
  refine wm_callVi mX8_puts 3 8 [_, _, _] [] _ _ 71 mo_X8_puts np_X8_puts ml_RX8_375 im_X8_puts se_X8_puts (by decide +kernel) (by decide +kernel) rfl rfl rfl (Nat.le_of_ble_eq_true rfl) (by decide +kernel) rfl (Nat.le_of_ble_eq_true rfl) _ (ent_pad 1 rfl) (l_X8_puts g _ _ _ ha1 (by decide +kernel) _ _ H) (fun v16 h15 H hzv16 => ?_)
  refine wm_istore_n 2 72 [some _, some _, some _] (by decide +kernel) rfl (by decide +kernel) (okS_spec rfl) rfl ?_
  refine wm_aload_n 0 73 (by decide +kernel) rfl rfl ?_
  refine wm_aload_n 1 74 (by decide +kernel) rfl rfl ?_
  refine wm_iload_n 2 75 (by decide +kernel) rfl rfl ?_
  refine wm_aload_n 0 76 (by decide +kernel) rfl rfl ?_
  refine wm_getr 8 9 6 123 79 fl_RX8_25 (by decide +kernel) rfl (by decide +kernel) rfl rfl (by decide) ?_
  refine wm_callVi mX8_puts 3 8 [_, _, _] [] _ _ 82 mo_X8_puts np_X8_puts ml_RX8_375 im_X8_puts se_X8_puts (by decide +kernel) (by decide +kernel) rfl rfl rfl (Nat.le_of_ble_eq_true rfl) (by decide +kernel) rfl (Nat.le_of_ble_eq_true rfl) _ (ent_pad 1 rfl) (l_X8_puts g _ _ _ ha1 (by decide +kernel) _ _ H) (fun v18 h17 H hzv18 => ?_)
  refine wm_istore_n 2 83 [some _, some _, some _] (by decide +kernel) rfl (by decide +kernel) (okS_spec rfl) rfl ?_
  refine wm_aload_n 0 84 (by decide +kernel) rfl rfl ?_
  refine wm_aload_n 1 85 (by decide +kernel) rfl rfl ?_
  refine wm_iload_n 2 86 (by decide +kernel) rfl rfl ?_
  refine wm_aload_n 0 87 (by decide +kernel) rfl rfl ?_
  refine wm_getr 8 10 7 124 90 fl_RX8_28 (by decide +kernel) rfl (by decide +kernel) rfl rfl (by decide) ?_
  refine wm_callVi mX8_puts 3 8 [_, _, _] [] _ _ 93 mo_X8_puts np_X8_puts ml_RX8_375 im_X8_puts se_X8_puts (by decide +kernel) (by decide +kernel) rfl rfl rfl (Nat.le_of_ble_eq_true rfl) (by decide +kernel) rfl (Nat.le_of_ble_eq_true rfl) _ (ent_pad 1 rfl) (l_X8_puts g _ _ _ ha1 (by decide +kernel) _ _ H) (fun v20 h19 H hzv20 => ?_)
  refine wm_pop 94 (by decide +kernel) rfl rfl ?_
  exact wm_vret (by decide +kernel) rfl H
def f_X8_gets_L3 (a1 : Nat) (x2 : Int32) (a3 : Nat)  (Q : Int32 → HP → Prop) : Nat → Int32 → HP → Prop
  | 0, _, _ => False
  | n + 1, x4, h =>
    ((((Int32.ofNat (kn a3)) ≤ x4) →
      Q (x2 + (Int32.ofNat (kn a3))) h) ∧
     (¬ ((Int32.ofNat (kn a3)) ≤ x4) →
      vp_in (x2 + x4) (kn a1) ∧
      vp_in x4 (kn a3) ∧
      ∀ h4 : HP, h4 = si h a3 (ix x4) (gi h a1 (ix (x2 + x4))) →
      ∀ x4_5 : Int32, x4_5 = (x4 + 1) →
      f_X8_gets_L3 a1 x2 a3 Q n x4_5 h4))
def f_X8_gets (a1 : Nat) (x2 : Int32) (a3 : Nat) (h : HP) (Q : Int32 → HP → Prop) : Prop :=
  ∃ n6, f_X8_gets_L3 a1 x2 a3
    Q n6 0 h
set_option maxRecDepth 20000 in
theorem l_X8_gets_L3 (g : GE) (a1 : Nat) (x2 : Int32) (a3 : Nat) (ha1 : kd a1 = 10) (ha3 : kd a3 = 10)  (Q : Int32 → HP → Prop)  : ∀ (n : Nat) (x4 : Int32) (h : HP), f_X8_gets_L3 a1 x2 a3 Q n x4 h → Wm g mX8_gets 3 [none, some (.ref a1), some (.int x2), some (.ref a3), some (.int x4)] [] h (qi Q) := by
  intro n
  induction n with
  | zero => intro x4 h H; exact H.elim
  | succ n ih =>
    intro x4 h H
    unfold f_X8_gets_L3 at H
    refine wm_iload 4 5 (by decide +kernel) rfl rfl ?_
    refine wm_aload_n 3 6 (by decide +kernel) rfl rfl ?_
    refine wm_alen _ 7 (by decide +kernel) rfl (Or.inl ha3) rfl ?_
    refine wm_icmp_ge 10 26 (by decide +kernel : decode cX8_gets 7 = .ok (.if_icmp .ge 19, 3)) (by decide) rfl (fun c1 => ?_) (fun c1 => ?_)
    · replace H := H.1 c1
      refine wm_iload_n 2 27 (by decide +kernel) rfl rfl ?_
      refine wm_aload_n 3 28 (by decide +kernel) rfl rfl ?_
      refine wm_alen _ 29 (by decide +kernel) rfl (Or.inl ha3) rfl ?_
      refine wm_iadd 30 (by decide +kernel) rfl ?_
      exact wm_iret (by decide +kernel) ⟨.int, rfl, rfl⟩ H
    · replace H := H.2 c1
      refine wm_aload_n 3 11 (by decide +kernel) rfl rfl ?_
      refine wm_iload 4 13 (by decide +kernel) rfl rfl ?_
      refine wm_aload_n 1 14 (by decide +kernel) rfl rfl ?_
      refine wm_iload_n 2 15 (by decide +kernel) rfl rfl ?_
      refine wm_iload 4 17 (by decide +kernel) rfl rfl ?_
      refine wm_iadd 18 (by decide +kernel) rfl ?_
      obtain ⟨o2, H⟩ := H
      refine wm_iald (kn a1) 19 (by decide +kernel) rfl ha1 rfl o2 ?_
      obtain ⟨o3, H⟩ := H
      replace H := H _ rfl
      refine wm_iast (kn a3) 20 (by decide +kernel) rfl ha3 rfl o3 ?_
      replace H := H _ rfl
      refine wm_iinc 4 (_ + 1) 23 [none, some _, some _, some _, some _] (by decide +kernel : decode cX8_gets 20 = .ok (.iinc 4 1, 3)) rfl (by decide +kernel) rfl (ofI_eq (by decide +kernel)) (okS_spec rfl) rfl ?_
      refine wm_goto 3 (by decide +kernel : decode cX8_gets 23 = .ok (.goto (-20), 3)) (by decide) ?_
      exact ih _ _ H
set_option maxRecDepth 20000 in
theorem l_X8_gets (g : GE) (a1 : Nat) (x2 : Int32) (a3 : Nat) (ha1 : kd a1 = 10) (ha3 : kd a3 = 10) (h : HP) (Q : Int32 → HP → Prop) (H : f_X8_gets a1 x2 a3 h Q) : Wm g mX8_gets 0 [some (.ref 117), some (.ref a1), some (.int x2), some (.ref a3), none] [] h (qi Q) := by
  unfold f_X8_gets at H
  refine wm_iconst 0 1 (by decide +kernel : decode cX8_gets 0 = .ok (.iconst 0, 1)) rfl (by decide +kernel) ?_
  refine wm_istore 4 3 [some _, some _, some _, some _, some _] (by decide +kernel) rfl (by decide +kernel) (okS_spec rfl) rfl ?_
  obtain ⟨n6, H⟩ := H
  refine wm_mask [false, true, true, true, true] [none, some _, some _, some _, some _] rfl ?_
  refine l_X8_gets_L3 g _ _ _ ha1 ha3 _  _ _ _ H
def f_X8_comesBack (a1 : Nat) (h : HP) (Q : HP → Prop) : Prop :=
  vp_in 0 (kn a1) ∧
  ∀ h2 : HP, h2 = si h 117 1 (gi h a1 (ix 0)) →
  vp_in 1 (kn a1) ∧
  ∀ h4 : HP, h4 = si h2 117 2 (gi h2 a1 (ix 1)) →
  vp_in 2 (kn a1) ∧
  ∀ h6 : HP, h6 = si h4 117 3 (gi h4 a1 (ix 2)) →
  vp_in 3 (kn a1) ∧
  ∀ h8 : HP, h8 = si h6 117 7 (gi h6 a1 (ix 3)) →
  f_X8_gets a1 4 119 h8 (fun v10 h9 =>
  f_X8_gets a1 v10 120 h9 (fun v12 h11 =>
  f_X8_gets a1 v12 121 h11 (fun v14 h13 =>
  f_X8_gets a1 v14 122 h13 (fun v16 h15 =>
  f_X8_gets a1 v16 123 h15 (fun v18 h17 =>
  f_X8_gets a1 v18 124 h17 (fun v20 h19 =>
  Q h19))))))
set_option maxRecDepth 20000 in
theorem l_X8_comesBack (g : GE) (a1 : Nat) (ha1 : kd a1 = 10) (h : HP) (Q : HP → Prop) (H : f_X8_comesBack a1 h Q) : Wm g mX8_comesBack 0 [some (.ref 117), some (.ref a1), none] [] h (qv Q) := by
  unfold f_X8_comesBack at H
  refine wm_aload_n 0 1 (by decide +kernel) rfl rfl ?_
  refine wm_aload_n 1 2 (by decide +kernel) rfl rfl ?_
  refine wm_iconst 0 3 (by decide +kernel : decode cX8_comesBack 2 = .ok (.iconst 0, 1)) rfl (by decide +kernel) ?_
  obtain ⟨o1, H⟩ := H
  refine wm_iald (kn a1) 4 (by decide +kernel) rfl ha1 rfl o1 ?_
  replace H := H _ rfl
  refine wm_puti 8 1 7 fl_RX8_154 (by decide +kernel) rfl (by decide +kernel) rfl rfl ⟨rfl, rfl⟩ ?_
  refine wm_aload_n 0 8 (by decide +kernel) rfl rfl ?_
  refine wm_aload_n 1 9 (by decide +kernel) rfl rfl ?_
  refine wm_iconst 1 10 (by decide +kernel : decode cX8_comesBack 9 = .ok (.iconst 1, 1)) rfl (by decide +kernel) ?_
  obtain ⟨o3, H⟩ := H
  refine wm_iald (kn a1) 11 (by decide +kernel) rfl ha1 rfl o3 ?_
  replace H := H _ rfl
  refine wm_puti 8 2 14 fl_RX8_194 (by decide +kernel) rfl (by decide +kernel) rfl rfl ⟨rfl, rfl⟩ ?_
  refine wm_aload_n 0 15 (by decide +kernel) rfl rfl ?_
  refine wm_aload_n 1 16 (by decide +kernel) rfl rfl ?_
  refine wm_iconst 2 17 (by decide +kernel : decode cX8_comesBack 16 = .ok (.iconst 2, 1)) rfl (by decide +kernel) ?_
  obtain ⟨o5, H⟩ := H
  refine wm_iald (kn a1) 18 (by decide +kernel) rfl ha1 rfl o5 ?_
  replace H := H _ rfl
  refine wm_puti 8 3 21 fl_RX8_97 (by decide +kernel) rfl (by decide +kernel) rfl rfl ⟨rfl, rfl⟩ ?_
  refine wm_aload_n 0 22 (by decide +kernel) rfl rfl ?_
  refine wm_aload_n 1 23 (by decide +kernel) rfl rfl ?_
  refine wm_iconst 3 24 (by decide +kernel : decode cX8_comesBack 23 = .ok (.iconst 3, 1)) rfl (by decide +kernel) ?_
  obtain ⟨o7, H⟩ := H
  refine wm_iald (kn a1) 25 (by decide +kernel) rfl ha1 rfl o7 ?_
  replace H := H _ rfl
  refine wm_puti 8 7 28 fl_RX8_105 (by decide +kernel) rfl (by decide +kernel) rfl rfl ⟨rfl, rfl⟩ ?_
  refine wm_aload_n 0 29 (by decide +kernel) rfl rfl ?_
  refine wm_aload_n 1 30 (by decide +kernel) rfl rfl ?_
  refine wm_iconst 4 31 (by decide +kernel : decode cX8_comesBack 30 = .ok (.iconst 4, 1)) rfl (by decide +kernel) ?_
  refine wm_aload_n 0 32 (by decide +kernel) rfl rfl ?_
  refine wm_getr 8 4 2 119 35 fl_RX8_13 (by decide +kernel) rfl (by decide +kernel) rfl rfl (by decide) ?_
  refine wm_callVi mX8_gets 3 8 [_, _, _] [] _ _ 38 mo_X8_gets np_X8_gets ml_RX8_379 im_X8_gets se_X8_gets (by decide +kernel) (by decide +kernel) rfl rfl rfl (Nat.le_of_ble_eq_true rfl) (by decide +kernel) rfl (Nat.le_of_ble_eq_true rfl) _ (ent_pad 1 rfl) (l_X8_gets g _ _ _ ha1 (by decide +kernel) _ _ H) (fun v10 h9 H hzv10 => ?_)
  refine wm_istore_n 2 39 [some _, some _, some _] (by decide +kernel) rfl (by decide +kernel) (okS_spec rfl) rfl ?_
  refine wm_aload_n 0 40 (by decide +kernel) rfl rfl ?_
  refine wm_aload_n 1 41 (by decide +kernel) rfl rfl ?_
  refine wm_iload_n 2 42 (by decide +kernel) rfl rfl ?_
  refine wm_aload_n 0 43 (by decide +kernel) rfl rfl ?_
  refine wm_getr 8 5 3 120 46 fl_RX8_16 (by decide +kernel) rfl (by decide +kernel) rfl rfl (by decide) ?_
  refine wm_callVi mX8_gets 3 8 [_, _, _] [] _ _ 49 mo_X8_gets np_X8_gets ml_RX8_379 im_X8_gets se_X8_gets (by decide +kernel) (by decide +kernel) rfl rfl rfl (Nat.le_of_ble_eq_true rfl) (by decide +kernel) rfl (Nat.le_of_ble_eq_true rfl) _ (ent_pad 1 rfl) (l_X8_gets g _ _ _ ha1 (by decide +kernel) _ _ H) (fun v12 h11 H hzv12 => ?_)
  refine wm_istore_n 2 50 [some _, some _, some _] (by decide +kernel) rfl (by decide +kernel) (okS_spec rfl) rfl ?_
  refine wm_aload_n 0 51 (by decide +kernel) rfl rfl ?_
  refine wm_aload_n 1 52 (by decide +kernel) rfl rfl ?_
  refine wm_iload_n 2 53 (by decide +kernel) rfl rfl ?_
  refine wm_aload_n 0 54 (by decide +kernel) rfl rfl ?_
  refine wm_getr 8 6 4 121 57 fl_RX8_19 (by decide +kernel) rfl (by decide +kernel) rfl rfl (by decide) ?_
  refine wm_callVi mX8_gets 3 8 [_, _, _] [] _ _ 60 mo_X8_gets np_X8_gets ml_RX8_379 im_X8_gets se_X8_gets (by decide +kernel) (by decide +kernel) rfl rfl rfl (Nat.le_of_ble_eq_true rfl) (by decide +kernel) rfl (Nat.le_of_ble_eq_true rfl) _ (ent_pad 1 rfl) (l_X8_gets g _ _ _ ha1 (by decide +kernel) _ _ H) (fun v14 h13 H hzv14 => ?_)
  refine wm_istore_n 2 61 [some _, some _, some _] (by decide +kernel) rfl (by decide +kernel) (okS_spec rfl) rfl ?_
  refine wm_aload_n 0 62 (by decide +kernel) rfl rfl ?_
  refine wm_aload_n 1 63 (by decide +kernel) rfl rfl ?_
  refine wm_iload_n 2 64 (by decide +kernel) rfl rfl ?_
  refine wm_aload_n 0 65 (by decide +kernel) rfl rfl ?_
  refine wm_getr 8 8 5 122 68 fl_RX8_22 (by decide +kernel) rfl (by decide +kernel) rfl rfl (by decide) ?_
  refine wm_callVi mX8_gets 3 8 [_, _, _] [] _ _ 71 mo_X8_gets np_X8_gets ml_RX8_379 im_X8_gets se_X8_gets (by decide +kernel) (by decide +kernel) rfl rfl rfl (Nat.le_of_ble_eq_true rfl) (by decide +kernel) rfl (Nat.le_of_ble_eq_true rfl) _ (ent_pad 1 rfl) (l_X8_gets g _ _ _ ha1 (by decide +kernel) _ _ H) (fun v16 h15 H hzv16 => ?_)
  refine wm_istore_n 2 72 [some _, some _, some _] (by decide +kernel) rfl (by decide +kernel) (okS_spec rfl) rfl ?_
  refine wm_aload_n 0 73 (by decide +kernel) rfl rfl ?_
  refine wm_aload_n 1 74 (by decide +kernel) rfl rfl ?_
  refine wm_iload_n 2 75 (by decide +kernel) rfl rfl ?_
  refine wm_aload_n 0 76 (by decide +kernel) rfl rfl ?_
  refine wm_getr 8 9 6 123 79 fl_RX8_25 (by decide +kernel) rfl (by decide +kernel) rfl rfl (by decide) ?_
  refine wm_callVi mX8_gets 3 8 [_, _, _] [] _ _ 82 mo_X8_gets np_X8_gets ml_RX8_379 im_X8_gets se_X8_gets (by decide +kernel) (by decide +kernel) rfl rfl rfl (Nat.le_of_ble_eq_true rfl) (by decide +kernel) rfl (Nat.le_of_ble_eq_true rfl) _ (ent_pad 1 rfl) (l_X8_gets g _ _ _ ha1 (by decide +kernel) _ _ H) (fun v18 h17 H hzv18 => ?_)
  refine wm_istore_n 2 83 [some _, some _, some _] (by decide +kernel) rfl (by decide +kernel) (okS_spec rfl) rfl ?_
  refine wm_aload_n 0 84 (by decide +kernel) rfl rfl ?_
  refine wm_aload_n 1 85 (by decide +kernel) rfl rfl ?_
  refine wm_iload_n 2 86 (by decide +kernel) rfl rfl ?_
  refine wm_aload_n 0 87 (by decide +kernel) rfl rfl ?_
  refine wm_getr 8 10 7 124 90 fl_RX8_28 (by decide +kernel) rfl (by decide +kernel) rfl rfl (by decide) ?_
  refine wm_callVi mX8_gets 3 8 [_, _, _] [] _ _ 93 mo_X8_gets np_X8_gets ml_RX8_379 im_X8_gets se_X8_gets (by decide +kernel) (by decide +kernel) rfl rfl rfl (Nat.le_of_ble_eq_true rfl) (by decide +kernel) rfl (Nat.le_of_ble_eq_true rfl) _ (ent_pad 1 rfl) (l_X8_gets g _ _ _ ha1 (by decide +kernel) _ _ H) (fun v20 h19 H hzv20 => ?_)
  refine wm_pop 94 (by decide +kernel) rfl rfl ?_
  exact wm_vret (by decide +kernel) rfl H
def f_X8_plans_J76 (x1 : Int32) (x2 : Int32) (x3 : Int32) (x4 : Int32)  (Q : Int32 → HP → Prop) (h : HP) : Prop :=
  f_X8_keeps 145 h (fun h15 =>
  f_X8_goesBy x1 x3 h15 (fun v17 h16 =>
  (¬ (0 ≤ v17) → vp_in x2 6) ∧
  ∀ x6_21 : Int32, x6_21 = (if 0 ≤ v17 then (((-1 : Int32) - v17) : Int32) else (gi h16 120 (ix x2))) →
  (((x4 = 0) →
    f_X8_comesBack 145 h16 (fun h23 =>
    Q x6_21 h23)) ∧
   (¬ (x4 = 0) →
    (((v17 < 0) →
      Q x6_21 h16) ∧
     (¬ (v17 < 0) →
      f_X8_comesBack 145 h16 (fun h25 =>
      Q x6_21 h25)))))))
def f_X8_plans (x1 : Int32) (x2 : Int32) (x3 : Int32) (x4 : Int32) (h : HP) (Q : Int32 → HP → Prop) : Prop :=
  f_X8_isSheet x1 h (fun v2 h1 =>
  (((v2 = 0) →
    f_X8_finds (-1000000001 : Int32) h1 (fun v34 h33 =>
    Q v34 h33)) ∧
   (¬ (v2 = 0) →
    vp_in x1 4 ∧
    ((((gi h1 140 (ix x1)) = 0) →
      f_X8_finds (-1000000006 : Int32) h1 (fun v32 h31 =>
      Q v32 h31)) ∧
     (¬ ((gi h1 140 (ix x1)) = 0) →
      f_X8_isStation x2 h1 (fun v7 h6 =>
      (((v7 = 0) →
        f_X8_finds (-1000000001 : Int32) h6 (fun v10 h9 =>
        Q v10 h9)) ∧
       (¬ (v7 = 0) →
        f_X8_isAhead x3 h6 (fun v12 h11 =>
        (((v12 = 0) →
          f_X8_finds (-1000000001 : Int32) h11 (fun v30 h29 =>
          Q v30 h29)) ∧
         (¬ (v12 = 0) →
          (((x4 = 0) →
            f_X8_plans_J76 x1 x2 x3 x4  Q h11) ∧
           (¬ (x4 = 0) →
            (((((gi h11 117 1) + x3) ≤ 99999) →
              f_X8_plans_J76 x1 x2 x3 x4  Q h11) ∧
             (¬ (((gi h11 117 1) + x3) ≤ 99999) →
              f_X8_finds (-1000000005 : Int32) h11 (fun v28 h27 =>
              Q v28 h27))))))))))))))))
set_option maxRecDepth 20000 in
theorem l_X8_plans_J76 (g : GE) (x1 : Int32) (x2 : Int32) (x3 : Int32) (x4 : Int32)   (Q : Int32 → HP → Prop)  (h : HP) (H : f_X8_plans_J76 x1 x2 x3 x4  Q h) : Wm g mX8_plans 76 [some (.ref 117), some (.int x1), some (.int x2), some (.int x3), some (.int x4), none, none] [] h (qi Q) := by
  unfold f_X8_plans_J76 at H
  refine wm_aload_n 0 77 (by decide +kernel) rfl rfl ?_
  refine wm_aload_n 0 78 (by decide +kernel) rfl rfl ?_
  refine wm_getr 8 38 28 145 81 fl_RX8_93 (by decide +kernel) rfl (by decide +kernel) rfl rfl (by decide) ?_
  refine wm_callVv mX8_keeps 1 8 [_] [] _ _ 84 mo_X8_keeps np_X8_keeps ml_RX8_361 im_X8_keeps se_X8_keeps (by decide +kernel) (by decide +kernel) rfl rfl rfl (Nat.le_of_ble_eq_true rfl) (by decide +kernel) rfl (Nat.le_of_ble_eq_true rfl) _ (ent_pad 1 rfl) (l_X8_keeps g _ (by decide +kernel) _ _ H) (fun h15 H => ?_)
  refine wm_aload_n 0 85 (by decide +kernel) rfl rfl ?_
  refine wm_iload_n 1 86 (by decide +kernel) rfl rfl ?_
  refine wm_iload_n 3 87 (by decide +kernel) rfl rfl ?_
  refine wm_callVi mX8_goesBy 2 8 [_, _] [] _ _ 90 mo_X8_goesBy np_X8_goesBy ml_RX8_365 im_X8_goesBy se_X8_goesBy (by decide +kernel) (by decide +kernel) rfl rfl rfl (Nat.le_of_ble_eq_true rfl) (by decide +kernel) rfl (Nat.le_of_ble_eq_true rfl) _ (ent_pad 2 rfl) (l_X8_goesBy g _ _ _ _ H) (fun v17 h16 H hzv17 => ?_)
  refine wm_istore 5 92 [some _, some _, some _, some _, some _, some _, none] (by decide +kernel) rfl (by decide +kernel) (okS_spec rfl) rfl ?_
  refine wm_iload 5 94 (by decide +kernel) rfl rfl ?_
  obtain ⟨D20b, H⟩ := H
  refine' wm_dia (pcJ := 110) (fun kt kf => wm_if_ge 97 106 (by decide +kernel : decode cX8_plans 94 = .ok (.ifCond .ge 12, 3)) (by decide) rfl kt kf) ?D20k (fun kj c1 => ?D20t) (fun kj c1 => ?D20f)
  case D20t =>
    refine wm_iconst (-1) 107 (by decide +kernel : decode cX8_plans 106 = .ok (.iconst (-1), 1)) rfl (by decide +kernel) ?_
    refine wm_iload 5 109 (by decide +kernel) rfl rfl ?_
    refine wm_isub 110 (by decide +kernel) rfl ?_
    exact kj
  case D20f =>
    have H := D20b c1
    refine wm_aload_n 0 98 (by decide +kernel) rfl rfl ?_
    refine wm_getr 8 5 3 120 101 fl_RX8_16 (by decide +kernel) rfl (by decide +kernel) rfl rfl (by decide) ?_
    refine wm_iload_n 2 102 (by decide +kernel) rfl rfl ?_
    have o19 := H
    refine wm_iald 6 103 (by decide +kernel) rfl (by decide +kernel) (by decide +kernel) o19 ?_
    refine wm_goto 110 (by decide +kernel : decode cX8_plans 103 = .ok (.goto 7, 3)) (by decide) ?_
    exact kj
  case D20k =>
    replace H := H _ rfl
    refine wm_istore 6 112 [some _, some _, some _, some _, some _, some _, some _] (by decide +kernel) rfl (by decide +kernel) (okS_spec rfl) rfl ?_
    refine wm_iload 4 114 (by decide +kernel) rfl rfl ?_
    refine wm_if_eq 117 122 (by decide +kernel : decode cX8_plans 114 = .ok (.ifCond .eq 8, 3)) (by decide) rfl (fun c22 => ?_) (fun c22 => ?_)
    · replace H := H.1 c22
      refine wm_aload_n 0 123 (by decide +kernel) rfl rfl ?_
      refine wm_aload_n 0 124 (by decide +kernel) rfl rfl ?_
      refine wm_getr 8 38 28 145 127 fl_RX8_93 (by decide +kernel) rfl (by decide +kernel) rfl rfl (by decide) ?_
      refine wm_callVv mX8_comesBack 1 8 [_] [] _ _ 130 mo_X8_comesBack np_X8_comesBack ml_RX8_368 im_X8_comesBack se_X8_comesBack (by decide +kernel) (by decide +kernel) rfl rfl rfl (Nat.le_of_ble_eq_true rfl) (by decide +kernel) rfl (Nat.le_of_ble_eq_true rfl) _ (ent_pad 1 rfl) (l_X8_comesBack g _ (by decide +kernel) _ _ H) (fun h23 H => ?_)
      refine wm_iload 6 132 (by decide +kernel) rfl rfl ?_
      exact wm_iret (by decide +kernel) ⟨.int, rfl, rfl⟩ H
    · replace H := H.2 c22
      refine wm_iload 5 119 (by decide +kernel) rfl rfl ?_
      refine wm_if_lt 122 130 (by decide +kernel : decode cX8_plans 119 = .ok (.ifCond .lt 11, 3)) (by decide) rfl (fun c24 => ?_) (fun c24 => ?_)
      · replace H := H.1 c24
        refine wm_iload 6 132 (by decide +kernel) rfl rfl ?_
        exact wm_iret (by decide +kernel) ⟨.int, rfl, rfl⟩ H
      · replace H := H.2 c24
        refine wm_aload_n 0 123 (by decide +kernel) rfl rfl ?_
        refine wm_aload_n 0 124 (by decide +kernel) rfl rfl ?_
        refine wm_getr 8 38 28 145 127 fl_RX8_93 (by decide +kernel) rfl (by decide +kernel) rfl rfl (by decide) ?_
        refine wm_callVv mX8_comesBack 1 8 [_] [] _ _ 130 mo_X8_comesBack np_X8_comesBack ml_RX8_368 im_X8_comesBack se_X8_comesBack (by decide +kernel) (by decide +kernel) rfl rfl rfl (Nat.le_of_ble_eq_true rfl) (by decide +kernel) rfl (Nat.le_of_ble_eq_true rfl) _ (ent_pad 1 rfl) (l_X8_comesBack g _ (by decide +kernel) _ _ H) (fun h25 H => ?_)
        refine wm_iload 6 132 (by decide +kernel) rfl rfl ?_
        exact wm_iret (by decide +kernel) ⟨.int, rfl, rfl⟩ H
set_option maxRecDepth 20000 in
theorem l_X8_plans (g : GE) (x1 : Int32) (x2 : Int32) (x3 : Int32) (x4 : Int32)  (h : HP) (Q : Int32 → HP → Prop) (H : f_X8_plans x1 x2 x3 x4 h Q) : Wm g mX8_plans 0 [some (.ref 117), some (.int x1), some (.int x2), some (.int x3), some (.int x4), none, none] [] h (qi Q) := by
  unfold f_X8_plans at H
  refine wm_iload_n 1 1 (by decide +kernel) rfl rfl ?_
  refine wm_callSi mX8_isSheet 1 [_] [] _ _ 4 mo_X8_isSheet np_X8_isSheet ml_RX8_261 sc_X8_isSheet (by decide +kernel) (by decide +kernel) rfl rfl rfl (Nat.le_of_ble_eq_true rfl) (Nat.le_of_ble_eq_true rfl) _ (ent_pad 0 rfl) (l_X8_isSheet g _ _ _ H) (fun v2 h1 H hzv2 => ?_)
  refine wm_if_ne 7 14 (by decide +kernel : decode cX8_plans 4 = .ok (.ifCond .ne 10, 3)) (by decide) rfl (fun c3 => ?_) (fun c3 => ?_)
  · replace H := H.2 c3
    refine wm_aload_n 0 15 (by decide +kernel) rfl rfl ?_
    refine wm_getr 8 33 23 140 18 fl_RX8_77 (by decide +kernel) rfl (by decide +kernel) rfl rfl (by decide) ?_
    refine wm_iload_n 1 19 (by decide +kernel) rfl rfl ?_
    obtain ⟨o4, H⟩ := H
    refine wm_iald 4 20 (by decide +kernel) rfl (by decide +kernel) (by decide +kernel) o4 ?_
    refine wm_if_ne 23 31 (by decide +kernel : decode cX8_plans 20 = .ok (.ifCond .ne 11, 3)) (by decide) rfl (fun c5 => ?_) (fun c5 => ?_)
    · replace H := H.2 c5
      refine wm_aload_n 0 32 (by decide +kernel) rfl rfl ?_
      refine wm_iload_n 2 33 (by decide +kernel) rfl rfl ?_
      refine wm_callVi mX8_isStation 1 8 [_] [] _ _ 36 mo_X8_isStation np_X8_isStation ml_RX8_140 im_X8_isStation se_X8_isStation (by decide +kernel) (by decide +kernel) rfl rfl rfl (Nat.le_of_ble_eq_true rfl) (by decide +kernel) rfl (Nat.le_of_ble_eq_true rfl) _ (ent_pad 0 rfl) (l_X8_isStation g _ _ _ H) (fun v7 h6 H hzv7 => ?_)
      refine wm_if_eq 39 46 (by decide +kernel : decode cX8_plans 36 = .ok (.ifCond .eq 10, 3)) (by decide) rfl (fun c8 => ?_) (fun c8 => ?_)
      · replace H := H.1 c8
        refine wm_aload_n 0 47 (by decide +kernel) rfl rfl ?_
        refine wm_ldc (-1000000001) 49 co_RX8_96 (by decide +kernel) rfl ?_
        refine wm_callVi mX8_finds 1 8 [_] [] _ _ 52 mo_X8_finds np_X8_finds ml_RX8_129 im_X8_finds se_X8_finds (by decide +kernel) (by decide +kernel) rfl rfl rfl (Nat.le_of_ble_eq_true rfl) (by decide +kernel) rfl (Nat.le_of_ble_eq_true rfl) _ (ent_pad 0 rfl) (l_X8_finds g _ _ _ H) (fun v10 h9 H hzv10 => ?_)
        exact wm_iret (by decide +kernel) ⟨.int, rfl, rfl⟩ H
      · replace H := H.2 c8
        refine wm_iload_n 3 40 (by decide +kernel) rfl rfl ?_
        refine wm_callSi mX8_isAhead 1 [_] [] _ _ 43 mo_X8_isAhead np_X8_isAhead ml_RX8_248 sc_X8_isAhead (by decide +kernel) (by decide +kernel) rfl rfl rfl (Nat.le_of_ble_eq_true rfl) (Nat.le_of_ble_eq_true rfl) _ (ent_pad 0 rfl) (l_X8_isAhead g _ _ _ H) (fun v12 h11 H hzv12 => ?_)
        refine wm_if_ne 46 53 (by decide +kernel : decode cX8_plans 43 = .ok (.ifCond .ne 10, 3)) (by decide) rfl (fun c13 => ?_) (fun c13 => ?_)
        · replace H := H.2 c13
          refine wm_iload 4 55 (by decide +kernel) rfl rfl ?_
          refine wm_if_eq 58 76 (by decide +kernel : decode cX8_plans 55 = .ok (.ifCond .eq 21, 3)) (by decide) rfl (fun c14 => ?_) (fun c14 => ?_)
          · replace H := H.1 c14
            exact l_X8_plans_J76 g _ _ _ _ _  _ H
          · replace H := H.2 c14
            refine wm_aload_n 0 59 (by decide +kernel) rfl rfl ?_
            refine wm_geti 8 1 62 fl_RX8_154 (by decide +kernel) rfl (by decide +kernel) rfl ?_
            refine wm_iload_n 3 63 (by decide +kernel) rfl rfl ?_
            refine wm_iadd 64 (by decide +kernel) rfl ?_
            refine wm_ldc 99999 66 co_RX8_108 (by decide +kernel) rfl ?_
            refine wm_icmp_le 69 76 (by decide +kernel : decode cX8_plans 66 = .ok (.if_icmp .le 10, 3)) (by decide) rfl (fun c26 => ?_) (fun c26 => ?_)
            · replace H := H.1 c26
              exact l_X8_plans_J76 g _ _ _ _ _  _ H
            · replace H := H.2 c26
              refine wm_aload_n 0 70 (by decide +kernel) rfl rfl ?_
              refine wm_ldc (-1000000005) 72 co_RX8_189 (by decide +kernel) rfl ?_
              refine wm_callVi mX8_finds 1 8 [_] [] _ _ 75 mo_X8_finds np_X8_finds ml_RX8_129 im_X8_finds se_X8_finds (by decide +kernel) (by decide +kernel) rfl rfl rfl (Nat.le_of_ble_eq_true rfl) (by decide +kernel) rfl (Nat.le_of_ble_eq_true rfl) _ (ent_pad 0 rfl) (l_X8_finds g _ _ _ H) (fun v28 h27 H hzv28 => ?_)
              exact wm_iret (by decide +kernel) ⟨.int, rfl, rfl⟩ H
        · replace H := H.1 c13
          refine wm_aload_n 0 47 (by decide +kernel) rfl rfl ?_
          refine wm_ldc (-1000000001) 49 co_RX8_96 (by decide +kernel) rfl ?_
          refine wm_callVi mX8_finds 1 8 [_] [] _ _ 52 mo_X8_finds np_X8_finds ml_RX8_129 im_X8_finds se_X8_finds (by decide +kernel) (by decide +kernel) rfl rfl rfl (Nat.le_of_ble_eq_true rfl) (by decide +kernel) rfl (Nat.le_of_ble_eq_true rfl) _ (ent_pad 0 rfl) (l_X8_finds g _ _ _ H) (fun v30 h29 H hzv30 => ?_)
          exact wm_iret (by decide +kernel) ⟨.int, rfl, rfl⟩ H
    · replace H := H.1 c5
      refine wm_aload_n 0 24 (by decide +kernel) rfl rfl ?_
      refine wm_ldcw (-1000000006) 27 co_RX8_264 (by decide +kernel) rfl ?_
      refine wm_callVi mX8_finds 1 8 [_] [] _ _ 30 mo_X8_finds np_X8_finds ml_RX8_129 im_X8_finds se_X8_finds (by decide +kernel) (by decide +kernel) rfl rfl rfl (Nat.le_of_ble_eq_true rfl) (by decide +kernel) rfl (Nat.le_of_ble_eq_true rfl) _ (ent_pad 0 rfl) (l_X8_finds g _ _ _ H) (fun v32 h31 H hzv32 => ?_)
      exact wm_iret (by decide +kernel) ⟨.int, rfl, rfl⟩ H
  · replace H := H.1 c3
    refine wm_aload_n 0 8 (by decide +kernel) rfl rfl ?_
    refine wm_ldc (-1000000001) 10 co_RX8_96 (by decide +kernel) rfl ?_
    refine wm_callVi mX8_finds 1 8 [_] [] _ _ 13 mo_X8_finds np_X8_finds ml_RX8_129 im_X8_finds se_X8_finds (by decide +kernel) (by decide +kernel) rfl rfl rfl (Nat.le_of_ble_eq_true rfl) (by decide +kernel) rfl (Nat.le_of_ble_eq_true rfl) _ (ent_pad 0 rfl) (l_X8_finds g _ _ _ H) (fun v34 h33 H hzv34 => ?_)
    exact wm_iret (by decide +kernel) ⟨.int, rfl, rfl⟩ H
def f_X8_replay (x1 : Int32) (x2 : Int32) (x3 : Int32) (h : HP) (Q : Int32 → HP → Prop) : Prop :=
  f_X8_plans x1 x2 x3 0 h (fun v2 h1 =>
  Q v2 h1)
set_option maxRecDepth 20000 in
theorem l_X8_replay (g : GE) (x1 : Int32) (x2 : Int32) (x3 : Int32)  (h : HP) (Q : Int32 → HP → Prop) (H : f_X8_replay x1 x2 x3 h Q) : Wm g mX8_replay 0 [some (.ref 117), some (.int x1), some (.int x2), some (.int x3)] [] h (qi Q) := by
  unfold f_X8_replay at H
  refine wm_aload_n 0 1 (by decide +kernel) rfl rfl ?_
  refine wm_iload_n 1 2 (by decide +kernel) rfl rfl ?_
  refine wm_iload_n 2 3 (by decide +kernel) rfl rfl ?_
  refine wm_iload_n 3 4 (by decide +kernel) rfl rfl ?_
  refine wm_iconst 0 5 (by decide +kernel : decode cX8_replay 4 = .ok (.iconst 0, 1)) rfl (by decide +kernel) ?_
  refine wm_callVi mX8_plans 4 8 [_, _, _, _] [] _ _ 8 mo_X8_plans np_X8_plans ml_RX8_371 im_X8_plans se_X8_plans (by decide +kernel) (by decide +kernel) rfl rfl rfl (Nat.le_of_ble_eq_true rfl) (by decide +kernel) rfl (Nat.le_of_ble_eq_true rfl) _ (ent_pad 2 rfl) (l_X8_plans g _ _ _ _ _ _ H) (fun v2 h1 H hzv2 => ?_)
  exact wm_iret (by decide +kernel) ⟨.int, rfl, rfl⟩ H
def f_X8_run (x1 : Int32) (x2 : Int32) (x3 : Int32) (h : HP) (Q : Int32 → HP → Prop) : Prop :=
  f_X8_plans x1 x2 x3 1 h (fun v2 h1 =>
  Q v2 h1)
set_option maxRecDepth 20000 in
theorem l_X8_run (g : GE) (x1 : Int32) (x2 : Int32) (x3 : Int32)  (h : HP) (Q : Int32 → HP → Prop) (H : f_X8_run x1 x2 x3 h Q) : Wm g mX8_run 0 [some (.ref 117), some (.int x1), some (.int x2), some (.int x3)] [] h (qi Q) := by
  unfold f_X8_run at H
  refine wm_aload_n 0 1 (by decide +kernel) rfl rfl ?_
  refine wm_iload_n 1 2 (by decide +kernel) rfl rfl ?_
  refine wm_iload_n 2 3 (by decide +kernel) rfl rfl ?_
  refine wm_iload_n 3 4 (by decide +kernel) rfl rfl ?_
  refine wm_iconst 1 5 (by decide +kernel : decode cX8_run 4 = .ok (.iconst 1, 1)) rfl (by decide +kernel) ?_
  refine wm_callVi mX8_plans 4 8 [_, _, _, _] [] _ _ 8 mo_X8_plans np_X8_plans ml_RX8_371 im_X8_plans se_X8_plans (by decide +kernel) (by decide +kernel) rfl rfl rfl (Nat.le_of_ble_eq_true rfl) (by decide +kernel) rfl (Nat.le_of_ble_eq_true rfl) _ (ent_pad 2 rfl) (l_X8_plans g _ _ _ _ _ _ H) (fun v2 h1 H hzv2 => ?_)
  exact wm_iret (by decide +kernel) ⟨.int, rfl, rfl⟩ H
def f_X8_image  (h : HP) (Q : Int32 → HP → Prop) : Prop :=
  f_X8_keeps 144 h (fun h1 =>
  ∀ h2 : HP, h2 = si h1 117 39 1 →
  Q 1 h2)
set_option maxRecDepth 20000 in
theorem l_X8_image (g : GE)   (h : HP) (Q : Int32 → HP → Prop) (H : f_X8_image  h Q) : Wm g mX8_image 0 [some (.ref 117)] [] h (qi Q) := by
  unfold f_X8_image at H
  refine wm_aload_n 0 1 (by decide +kernel) rfl rfl ?_
  refine wm_aload_n 0 2 (by decide +kernel) rfl rfl ?_
  refine wm_getr 8 37 27 144 5 fl_RX8_90 (by decide +kernel) rfl (by decide +kernel) rfl rfl (by decide) ?_
  refine wm_callVv mX8_keeps 1 8 [_] [] _ _ 8 mo_X8_keeps np_X8_keeps ml_RX8_361 im_X8_keeps se_X8_keeps (by decide +kernel) (by decide +kernel) rfl rfl rfl (Nat.le_of_ble_eq_true rfl) (by decide +kernel) rfl (Nat.le_of_ble_eq_true rfl) _ (ent_pad 1 rfl) (l_X8_keeps g _ (by decide +kernel) _ _ H) (fun h1 H => ?_)
  refine wm_aload_n 0 9 (by decide +kernel) rfl rfl ?_
  refine wm_iconst 1 10 (by decide +kernel : decode cX8_image 9 = .ok (.iconst 1, 1)) rfl (by decide +kernel) ?_
  replace H := H _ rfl
  refine wm_puti 8 39 13 fl_RX8_382 (by decide +kernel) rfl (by decide +kernel) rfl rfl (zfit_of (by decide)) ?_
  refine wm_iconst 1 14 (by decide +kernel : decode cX8_image 13 = .ok (.iconst 1, 1)) rfl (by decide +kernel) ?_
  exact wm_iret (by decide +kernel) ⟨.int, rfl, rfl⟩ H
def f_X8_undo  (h : HP) (Q : Int32 → HP → Prop) : Prop :=
  ((((gi h 117 39) = 0) →
    f_X8_finds (-1000000004 : Int32) h (fun v4 h3 =>
    Q v4 h3)) ∧
   (¬ ((gi h 117 39) = 0) →
    f_X8_comesBack 144 h (fun h2 =>
    Q (gi h2 117 1) h2)))
set_option maxRecDepth 20000 in
theorem l_X8_undo (g : GE)   (h : HP) (Q : Int32 → HP → Prop) (H : f_X8_undo  h Q) : Wm g mX8_undo 0 [some (.ref 117)] [] h (qi Q) := by
  unfold f_X8_undo at H
  refine wm_aload_n 0 1 (by decide +kernel) rfl rfl ?_
  refine wm_geti 8 39 4 fl_RX8_382 (by decide +kernel) rfl (by decide +kernel) rfl ?_
  refine wm_if_ne 7 15 (by decide +kernel : decode cX8_undo 4 = .ok (.ifCond .ne 11, 3)) (by decide) rfl (fun c1 => ?_) (fun c1 => ?_)
  · replace H := H.2 c1
    refine wm_aload_n 0 16 (by decide +kernel) rfl rfl ?_
    refine wm_aload_n 0 17 (by decide +kernel) rfl rfl ?_
    refine wm_getr 8 37 27 144 20 fl_RX8_90 (by decide +kernel) rfl (by decide +kernel) rfl rfl (by decide) ?_
    refine wm_callVv mX8_comesBack 1 8 [_] [] _ _ 23 mo_X8_comesBack np_X8_comesBack ml_RX8_368 im_X8_comesBack se_X8_comesBack (by decide +kernel) (by decide +kernel) rfl rfl rfl (Nat.le_of_ble_eq_true rfl) (by decide +kernel) rfl (Nat.le_of_ble_eq_true rfl) _ (ent_pad 1 rfl) (l_X8_comesBack g _ (by decide +kernel) _ _ H) (fun h2 H => ?_)
    refine wm_aload_n 0 24 (by decide +kernel) rfl rfl ?_
    refine wm_geti 8 1 27 fl_RX8_154 (by decide +kernel) rfl (by decide +kernel) rfl ?_
    exact wm_iret (by decide +kernel) ⟨.int, rfl, rfl⟩ H
  · replace H := H.1 c1
    refine wm_aload_n 0 8 (by decide +kernel) rfl rfl ?_
    refine wm_ldcw (-1000000004) 11 co_RX8_257 (by decide +kernel) rfl ?_
    refine wm_callVi mX8_finds 1 8 [_] [] _ _ 14 mo_X8_finds np_X8_finds ml_RX8_129 im_X8_finds se_X8_finds (by decide +kernel) (by decide +kernel) rfl rfl rfl (Nat.le_of_ble_eq_true rfl) (by decide +kernel) rfl (Nat.le_of_ble_eq_true rfl) _ (ent_pad 0 rfl) (l_X8_finds g _ _ _ H) (fun v4 h3 H hzv4 => ?_)
    exact wm_iret (by decide +kernel) ⟨.int, rfl, rfl⟩ H
def f_X8_tear  (h : HP) (Q : Int32 → HP → Prop) : Prop :=
  ∀ x1_3 : Int32, x1_3 = (if (gi h 117 39) = 0 then (0 : Int32) else 1) →
  ∀ h4 : HP, h4 = si h 117 39 0 →
  Q x1_3 h4
set_option maxRecDepth 20000 in
theorem l_X8_tear (g : GE)   (h : HP) (Q : Int32 → HP → Prop) (H : f_X8_tear  h Q) : Wm g mX8_tear 0 [some (.ref 117), none] [] h (qi Q) := by
  unfold f_X8_tear at H
  refine wm_aload_n 0 1 (by decide +kernel) rfl rfl ?_
  refine wm_geti 8 39 4 fl_RX8_382 (by decide +kernel) rfl (by decide +kernel) rfl ?_
  refine' wm_dia (pcJ := 12) (fun kt kf => wm_if_eq 7 11 (by decide +kernel : decode cX8_tear 4 = .ok (.ifCond .eq 7, 3)) (by decide) rfl kt kf) ?D2k (fun kj c1 => ?D2t) (fun kj c1 => ?D2f)
  case D2t =>
    refine wm_iconst 0 12 (by decide +kernel : decode cX8_tear 11 = .ok (.iconst 0, 1)) rfl (by decide +kernel) ?_
    exact kj
  case D2f =>
    refine wm_iconst 1 8 (by decide +kernel : decode cX8_tear 7 = .ok (.iconst 1, 1)) rfl (by decide +kernel) ?_
    refine wm_goto 12 (by decide +kernel : decode cX8_tear 8 = .ok (.goto 4, 3)) (by decide) ?_
    exact kj
  case D2k =>
    replace H := H _ rfl
    refine wm_istore_n 1 13 [some _, some _] (by decide +kernel) rfl (by decide +kernel) (okS_spec rfl) rfl ?_
    refine wm_aload_n 0 14 (by decide +kernel) rfl rfl ?_
    refine wm_iconst 0 15 (by decide +kernel : decode cX8_tear 14 = .ok (.iconst 0, 1)) rfl (by decide +kernel) ?_
    replace H := H _ rfl
    refine wm_puti 8 39 18 fl_RX8_382 (by decide +kernel) rfl (by decide +kernel) rfl rfl (zfit_of (by decide)) ?_
    refine wm_iload_n 1 19 (by decide +kernel) rfl rfl ?_
    exact wm_iret (by decide +kernel) ⟨.int, rfl, rfl⟩ H
def f_X8_count (x1 : Int32) (h : HP) (Q : Int32 → HP → Prop) : Prop :=
  (((x1 = 0) →
    Q (gi h 117 1) h) ∧
   (¬ (x1 = 0) →
    (((x1 = 1) →
      Q (gi h 117 3) h) ∧
     (¬ (x1 = 1) →
      (((x1 = 2) →
        Q (gi h 117 7) h) ∧
       (¬ (x1 = 2) →
        (((x1 = 3) →
          Q (gi h 117 2) h) ∧
         (¬ (x1 = 3) →
          (((x1 = 4) →
            f_X8_goods h (fun v7 h6 =>
            Q v7 h6)) ∧
           (¬ (x1 = 4) →
            (((x1 = 5) →
              Q (gi h 117 26) h) ∧
             (¬ (x1 = 5) →
              f_X8_finds (-1000000001 : Int32) h (fun v10 h9 =>
              Q v10 h9)))))))))))))
set_option maxRecDepth 20000 in
theorem l_X8_count (g : GE) (x1 : Int32)  (h : HP) (Q : Int32 → HP → Prop) (H : f_X8_count x1 h Q) : Wm g mX8_count 0 [some (.ref 117), some (.int x1)] [] h (qi Q) := by
  unfold f_X8_count at H
  refine wm_iload_n 1 1 (by decide +kernel) rfl rfl ?_
  refine em_go H (fun c1 H => ?_) (fun c1 H => ?_)
  · refine wm_tin (off := 39) 0 40 c1 (by decide +kernel : decode cX8_count 1 = .ok (.tableswitch 69 0 5 #[39, 44, 49, 54, 59, 64], 39)) (by decide +kernel) (by decide +kernel) (by decide +kernel) (by decide) ?_
    refine wm_aload_n 0 41 (by decide +kernel) rfl rfl ?_
    refine wm_geti 8 1 44 fl_RX8_154 (by decide +kernel) rfl (by decide +kernel) rfl ?_
    exact wm_iret (by decide +kernel) ⟨.int, rfl, rfl⟩ H
  · skip
    refine em_go H (fun c2 H => ?_) (fun c2 H => ?_)
    · refine wm_tin (off := 44) 1 45 c2 (by decide +kernel : decode cX8_count 1 = .ok (.tableswitch 69 0 5 #[39, 44, 49, 54, 59, 64], 39)) (by decide +kernel) (by decide +kernel) (by decide +kernel) (by decide) ?_
      refine wm_aload_n 0 46 (by decide +kernel) rfl rfl ?_
      refine wm_geti 8 3 49 fl_RX8_97 (by decide +kernel) rfl (by decide +kernel) rfl ?_
      exact wm_iret (by decide +kernel) ⟨.int, rfl, rfl⟩ H
    · skip
      refine em_go H (fun c3 H => ?_) (fun c3 H => ?_)
      · refine wm_tin (off := 49) 2 50 c3 (by decide +kernel : decode cX8_count 1 = .ok (.tableswitch 69 0 5 #[39, 44, 49, 54, 59, 64], 39)) (by decide +kernel) (by decide +kernel) (by decide +kernel) (by decide) ?_
        refine wm_aload_n 0 51 (by decide +kernel) rfl rfl ?_
        refine wm_geti 8 7 54 fl_RX8_105 (by decide +kernel) rfl (by decide +kernel) rfl ?_
        exact wm_iret (by decide +kernel) ⟨.int, rfl, rfl⟩ H
      · skip
        refine em_go H (fun c4 H => ?_) (fun c4 H => ?_)
        · refine wm_tin (off := 54) 3 55 c4 (by decide +kernel : decode cX8_count 1 = .ok (.tableswitch 69 0 5 #[39, 44, 49, 54, 59, 64], 39)) (by decide +kernel) (by decide +kernel) (by decide +kernel) (by decide) ?_
          refine wm_aload_n 0 56 (by decide +kernel) rfl rfl ?_
          refine wm_geti 8 2 59 fl_RX8_194 (by decide +kernel) rfl (by decide +kernel) rfl ?_
          exact wm_iret (by decide +kernel) ⟨.int, rfl, rfl⟩ H
        · skip
          refine em_go H (fun c5 H => ?_) (fun c5 H => ?_)
          · refine wm_tin (off := 59) 4 60 c5 (by decide +kernel : decode cX8_count 1 = .ok (.tableswitch 69 0 5 #[39, 44, 49, 54, 59, 64], 39)) (by decide +kernel) (by decide +kernel) (by decide +kernel) (by decide) ?_
            refine wm_aload_n 0 61 (by decide +kernel) rfl rfl ?_
            refine wm_callVi mX8_goods 0 8 [] [] _ _ 64 mo_X8_goods np_X8_goods ml_RX8_258 im_X8_goods se_X8_goods (by decide +kernel) (by decide +kernel) rfl rfl rfl (Nat.le_of_ble_eq_true rfl) (by decide +kernel) rfl (Nat.le_of_ble_eq_true rfl) _ (ent_pad 0 rfl) (l_X8_goods g _ _ H) (fun v7 h6 H hzv7 => ?_)
            exact wm_iret (by decide +kernel) ⟨.int, rfl, rfl⟩ H
          · skip
            refine em_go H (fun c8 H => ?_) (fun c8 H => ?_)
            · refine wm_tin (off := 64) 5 65 c8 (by decide +kernel : decode cX8_count 1 = .ok (.tableswitch 69 0 5 #[39, 44, 49, 54, 59, 64], 39)) (by decide +kernel) (by decide +kernel) (by decide +kernel) (by decide) ?_
              refine wm_aload_n 0 66 (by decide +kernel) rfl rfl ?_
              refine wm_geti 8 26 69 fl_RX8_299 (by decide +kernel) rfl (by decide +kernel) rfl ?_
              exact wm_iret (by decide +kernel) ⟨.int, rfl, rfl⟩ H
            · skip
              refine wm_tout 70 (by decide +kernel : decode cX8_count 1 = .ok (.tableswitch 69 0 5 #[39, 44, 49, 54, 59, 64], 39)) (by have q0 := ne_toInt 0 (by decide +kernel) c1; have q1 := ne_toInt 1 (by decide +kernel) c2; have q2 := ne_toInt 2 (by decide +kernel) c3; have q3 := ne_toInt 3 (by decide +kernel) c4; have q4 := ne_toInt 4 (by decide +kernel) c5; have q5 := ne_toInt 5 (by decide +kernel) c8; omega) (by decide) ?_
              refine wm_aload_n 0 71 (by decide +kernel) rfl rfl ?_
              refine wm_ldc (-1000000001) 73 co_RX8_96 (by decide +kernel) rfl ?_
              refine wm_callVi mX8_finds 1 8 [_] [] _ _ 76 mo_X8_finds np_X8_finds ml_RX8_129 im_X8_finds se_X8_finds (by decide +kernel) (by decide +kernel) rfl rfl rfl (Nat.le_of_ble_eq_true rfl) (by decide +kernel) rfl (Nat.le_of_ble_eq_true rfl) _ (ent_pad 0 rfl) (l_X8_finds g _ _ _ H) (fun v10 h9 H hzv10 => ?_)
              exact wm_iret (by decide +kernel) ⟨.int, rfl, rfl⟩ H
def f_X8_status (x1 : Int32) (h : HP) (Q : Int32 → HP → Prop) : Prop :=
  f_X8_in ((x1 : Int32).toInt64) (-1 : Int64) (7 : Int64) h (fun v2 h1 =>
  (((v2 = 0) →
    f_X8_finds (-1000000001 : Int32) h1 (fun v9 h8 =>
    Q v9 h8)) ∧
   (¬ (v2 = 0) →
    (((0 ≤ x1) →
      vp_in x1 8 ∧
      Q (gi h1 118 (ix x1)) h1) ∧
     (¬ (0 ≤ x1) →
      f_X8_sumOf 118 8 h1 (fun v7 h6 =>
      Q v7 h6))))))
set_option maxRecDepth 20000 in
theorem l_X8_status (g : GE) (x1 : Int32)  (h : HP) (Q : Int32 → HP → Prop) (H : f_X8_status x1 h Q) : Wm g mX8_status 0 [some (.ref 117), some (.int x1)] [] h (qi Q) := by
  unfold f_X8_status at H
  refine wm_iload_n 1 1 (by decide +kernel) rfl rfl ?_
  refine wm_i2l 2 (by decide +kernel) rfl ?_
  refine wm_ldc2 (-1) 5 cl_RX8_265 (by decide +kernel) rfl ?_
  refine wm_ldc2 7 8 cl_RX8_386 (by decide +kernel) rfl ?_
  refine wm_callSi mX8_in 3 [_, _, _] [] _ _ 11 mo_X8_in np_X8_in ml_RX8_101 sc_X8_in (by decide +kernel) (by decide +kernel) rfl rfl rfl (Nat.le_of_ble_eq_true rfl) (Nat.le_of_ble_eq_true rfl) _ (ent_pad 0 rfl) (l_X8_in g _ _ _ _ _ H) (fun v2 h1 H hzv2 => ?_)
  refine wm_if_ne 14 21 (by decide +kernel : decode cX8_status 11 = .ok (.ifCond .ne 10, 3)) (by decide) rfl (fun c3 => ?_) (fun c3 => ?_)
  · replace H := H.2 c3
    refine wm_iload_n 1 22 (by decide +kernel) rfl rfl ?_
    refine wm_if_ge 25 38 (by decide +kernel : decode cX8_status 22 = .ok (.ifCond .ge 16, 3)) (by decide) rfl (fun c4 => ?_) (fun c4 => ?_)
    · replace H := H.1 c4
      refine wm_aload_n 0 39 (by decide +kernel) rfl rfl ?_
      refine wm_getr 8 0 1 118 42 fl_RX8_7 (by decide +kernel) rfl (by decide +kernel) rfl rfl (by decide) ?_
      refine wm_iload_n 1 43 (by decide +kernel) rfl rfl ?_
      obtain ⟨o5, H⟩ := H
      refine wm_iald 8 44 (by decide +kernel) rfl (by decide +kernel) (by decide +kernel) o5 ?_
      exact wm_iret (by decide +kernel) ⟨.int, rfl, rfl⟩ H
    · replace H := H.2 c4
      refine wm_aload_n 0 26 (by decide +kernel) rfl rfl ?_
      refine wm_aload_n 0 27 (by decide +kernel) rfl rfl ?_
      refine wm_getr 8 0 1 118 30 fl_RX8_7 (by decide +kernel) rfl (by decide +kernel) rfl rfl (by decide) ?_
      refine wm_bipush 8 32 (by decide +kernel : decode cX8_status 30 = .ok (.bipush 8, 2)) rfl (by decide +kernel) ?_
      refine wm_callVi mX8_sumOf 2 8 [_, _] [] _ _ 35 mo_X8_sumOf np_X8_sumOf ml_RX8_117 im_X8_sumOf se_X8_sumOf (by decide +kernel) (by decide +kernel) rfl rfl rfl (Nat.le_of_ble_eq_true rfl) (by decide +kernel) rfl (Nat.le_of_ble_eq_true rfl) _ (ent_pad 2 rfl) (l_X8_sumOf g _ _ (by decide +kernel) _ _ H) (fun v7 h6 H hzv7 => ?_)
      refine wm_goto 44 (by decide +kernel : decode cX8_status 35 = .ok (.goto 9, 3)) (by decide) ?_
      exact wm_iret (by decide +kernel) ⟨.int, rfl, rfl⟩ H
  · replace H := H.1 c3
    refine wm_aload_n 0 15 (by decide +kernel) rfl rfl ?_
    refine wm_ldc (-1000000001) 17 co_RX8_96 (by decide +kernel) rfl ?_
    refine wm_callVi mX8_finds 1 8 [_] [] _ _ 20 mo_X8_finds np_X8_finds ml_RX8_129 im_X8_finds se_X8_finds (by decide +kernel) (by decide +kernel) rfl rfl rfl (Nat.le_of_ble_eq_true rfl) (by decide +kernel) rfl (Nat.le_of_ble_eq_true rfl) _ (ent_pad 0 rfl) (l_X8_finds g _ _ _ H) (fun v9 h8 H hzv9 => ?_)
    exact wm_iret (by decide +kernel) ⟨.int, rfl, rfl⟩ H
