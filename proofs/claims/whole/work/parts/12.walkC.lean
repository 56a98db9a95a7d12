def f_X7_found (x1 : Int32) (h : HP) (Q : Int32 → HP → Prop) : Prop :=
  ∀ x2_1 : Int32, x2_1 = ((-1000000001 : Int32) - x1) →
  f_X7_isIn x2_1 0 7 h (fun v3 h2 =>
  (((v3 = 0) →
    Q x1 h2) ∧
   (¬ (v3 = 0) →
    vp_in x2_1 8 ∧
    vp_in x2_1 8 ∧
    ∀ h7 : HP, h7 = si h2 108 (ix x2_1) ((gi h2 108 (ix x2_1)) + 1) →
    Q x1 h7)))
set_option maxRecDepth 20000 in
theorem l_X7_found (g : GE) (x1 : Int32)  (h : HP) (Q : Int32 → HP → Prop) (H : f_X7_found x1 h Q) : Wm g mX7_found 0 [some (.ref 0), some (.int x1), none] [] h (qi Q) := by
  unfold f_X7_found at H
  refine wm_ldc (-1000000001) 2 co_RX7_58 (by decide +kernel) rfl ?_
  refine wm_iload_n 1 3 (by decide +kernel) rfl rfl ?_
  refine wm_isub 4 (by decide +kernel) rfl ?_
  replace H := H _ rfl
  refine wm_istore_n 2 5 [some _, some _, some _] (by decide +kernel) rfl (by decide +kernel) (okS_spec rfl) rfl ?_
  refine wm_iload_n 2 6 (by decide +kernel) rfl rfl ?_
  refine wm_iconst 0 7 (by decide +kernel : decode cX7_found 6 = .ok (.iconst 0, 1)) rfl (by decide +kernel) ?_
  refine wm_bipush 7 9 (by decide +kernel : decode cX7_found 7 = .ok (.bipush 7, 2)) rfl (by decide +kernel) ?_
  refine wm_callSi mX7_isIn 3 [_, _, _] [] _ _ 12 mo_X7_isIn np_X7_isIn ml_RX7_54 sc_X7_isIn (by decide +kernel) (by decide +kernel) rfl rfl rfl (Nat.le_of_ble_eq_true rfl) (Nat.le_of_ble_eq_true rfl) _ (ent_pad 0 rfl) (l_X7_isIn g _ _ _ _ _ H) (fun v3 h2 H hzv3 => ?_)
  refine wm_if_eq 15 25 (by decide +kernel : decode cX7_found 12 = .ok (.ifCond .eq 13, 3)) (by decide) rfl (fun c4 => ?_) (fun c4 => ?_)
  · replace H := H.1 c4
    refine wm_iload_n 1 26 (by decide +kernel) rfl rfl ?_
    exact wm_iret (by decide +kernel) ⟨.int, rfl, rfl⟩ H
  · replace H := H.2 c4
    refine wm_aload_n 0 16 (by decide +kernel) rfl rfl ?_
    refine wm_getr 7 7 108 108 19 fl_RX7_49 (by decide +kernel) rfl (by decide +kernel) rfl rfl (by decide) ?_
    refine wm_iload_n 2 20 (by decide +kernel) rfl rfl ?_
    refine wm_dup2 21 (by decide +kernel) rfl rfl rfl ?_
    obtain ⟨o5, H⟩ := H
    refine wm_iald 8 22 (by decide +kernel) rfl (by decide +kernel) (by decide +kernel) o5 ?_
    refine wm_iconst 1 23 (by decide +kernel : decode cX7_found 22 = .ok (.iconst 1, 1)) rfl (by decide +kernel) ?_
    refine wm_iadd 24 (by decide +kernel) rfl ?_
    obtain ⟨o6, H⟩ := H
    replace H := H _ rfl
    refine wm_iast 8 25 (by decide +kernel) rfl (by decide +kernel) (by decide +kernel) o6 ?_
    refine wm_iload_n 1 26 (by decide +kernel) rfl rfl ?_
    exact wm_iret (by decide +kernel) ⟨.int, rfl, rfl⟩ H
def f_X7_station (x1 : Int32) (x2 : Int32) (h : HP) (Q : Int32 → HP → Prop) : Prop :=
  f_X7_isIn x1 0 3 h (fun v2 h1 =>
  (((v2 = 0) →
    f_X7_found (-1000000001 : Int32) h1 (fun v5 h4 =>
    Q v5 h4)) ∧
   (¬ (v2 = 0) →
    f_X7_isIn x2 0 999 h1 (fun v7 h6 =>
    (((v7 = 0) →
      f_X7_found (-1000000001 : Int32) h6 (fun v15 h14 =>
      Q v15 h14)) ∧
     (¬ (v7 = 0) →
      ((((gi h6 1 2) < 6) →
        f_X6_addStation 1 x1 x2 h6 (fun v11 h10 =>
        Q v11 h10)) ∧
       (¬ ((gi h6 1 2) < 6) →
        f_X7_found (-1000000002 : Int32) h6 (fun v13 h12 =>
        Q v13 h12)))))))))
set_option maxRecDepth 20000 in
theorem l_X7_station (g : GE) (x1 : Int32) (x2 : Int32)  (h : HP) (Q : Int32 → HP → Prop) (H : f_X7_station x1 x2 h Q) : Wm g mX7_station 0 [some (.ref 0), some (.int x1), some (.int x2)] [] h (qi Q) := by
  unfold f_X7_station at H
  refine wm_iload_n 1 1 (by decide +kernel) rfl rfl ?_
  refine wm_iconst 0 2 (by decide +kernel : decode cX7_station 1 = .ok (.iconst 0, 1)) rfl (by decide +kernel) ?_
  refine wm_iconst 3 3 (by decide +kernel : decode cX7_station 2 = .ok (.iconst 3, 1)) rfl (by decide +kernel) ?_
  refine wm_callSi mX7_isIn 3 [_, _, _] [] _ _ 6 mo_X7_isIn np_X7_isIn ml_RX7_54 sc_X7_isIn (by decide +kernel) (by decide +kernel) rfl rfl rfl (Nat.le_of_ble_eq_true rfl) (Nat.le_of_ble_eq_true rfl) _ (ent_pad 0 rfl) (l_X7_isIn g _ _ _ _ _ H) (fun v2 h1 H hzv2 => ?_)
  refine wm_if_eq 9 20 (by decide +kernel : decode cX7_station 6 = .ok (.ifCond .eq 14, 3)) (by decide) rfl (fun c3 => ?_) (fun c3 => ?_)
  · replace H := H.1 c3
    refine wm_aload_n 0 21 (by decide +kernel) rfl rfl ?_
    refine wm_ldc (-1000000001) 23 co_RX7_58 (by decide +kernel) rfl ?_
    refine wm_callVi mX7_found 1 7 [_] [] _ _ 26 mo_X7_found np_X7_found ml_RX7_59 im_X7_found se_X7_found (by decide +kernel) (by decide +kernel) rfl rfl rfl (Nat.le_of_ble_eq_true rfl) (by decide +kernel) rfl (Nat.le_of_ble_eq_true rfl) _ (ent_pad 1 rfl) (l_X7_found g _ _ _ H) (fun v5 h4 H hzv5 => ?_)
    exact wm_iret (by decide +kernel) ⟨.int, rfl, rfl⟩ H
  · replace H := H.2 c3
    refine wm_iload_n 2 10 (by decide +kernel) rfl rfl ?_
    refine wm_iconst 0 11 (by decide +kernel : decode cX7_station 10 = .ok (.iconst 0, 1)) rfl (by decide +kernel) ?_
    refine wm_sipush 999 14 (by decide +kernel : decode cX7_station 11 = .ok (.sipush 999, 3)) rfl (by decide +kernel) ?_
    refine wm_callSi mX7_isIn 3 [_, _, _] [] _ _ 17 mo_X7_isIn np_X7_isIn ml_RX7_54 sc_X7_isIn (by decide +kernel) (by decide +kernel) rfl rfl rfl (Nat.le_of_ble_eq_true rfl) (Nat.le_of_ble_eq_true rfl) _ (ent_pad 0 rfl) (l_X7_isIn g _ _ _ _ _ H) (fun v7 h6 H hzv7 => ?_)
    refine wm_if_ne 20 27 (by decide +kernel : decode cX7_station 17 = .ok (.ifCond .ne 10, 3)) (by decide) rfl (fun c8 => ?_) (fun c8 => ?_)
    · replace H := H.2 c8
      refine wm_aload_n 0 28 (by decide +kernel) rfl rfl ?_
      refine wm_getr 7 0 1 1 31 fl_RX7_10 (by decide +kernel) rfl (by decide +kernel) rfl rfl (by decide) ?_
      refine wm_geti 6 2 34 fl_RX7_63 (by decide +kernel) rfl (by decide +kernel) rfl ?_
      refine wm_bipush 6 36 (by decide +kernel : decode cX7_station 34 = .ok (.bipush 6, 2)) rfl (by decide +kernel) ?_
      refine wm_icmp_lt 39 46 (by decide +kernel : decode cX7_station 36 = .ok (.if_icmp .lt 10, 3)) (by decide) rfl (fun c9 => ?_) (fun c9 => ?_)
      · replace H := H.1 c9
        refine wm_aload_n 0 47 (by decide +kernel) rfl rfl ?_
        refine wm_getr 7 0 1 1 50 fl_RX7_10 (by decide +kernel) rfl (by decide +kernel) rfl rfl (by decide) ?_
        refine wm_iload_n 1 51 (by decide +kernel) rfl rfl ?_
        refine wm_iload_n 2 52 (by decide +kernel) rfl rfl ?_
        refine wm_callVi mX6_addStation 2 6 [_, _] [] _ _ 55 mo_X6_addStation np_X6_addStation ml_RX7_68 im_X6_addStation se_X6_addStation (by decide +kernel) (by decide +kernel) rfl rfl rfl (Nat.le_of_ble_eq_true rfl) (by decide +kernel) rfl (Nat.le_of_ble_eq_true rfl) _ (ent_pad 1 rfl) (l_X6_addStation g _ _ _ (by decide +kernel) _ _ H) (fun v11 h10 H hzv11 => ?_)
        exact wm_iret (by decide +kernel) ⟨.int, rfl, rfl⟩ H
      · replace H := H.2 c9
        refine wm_aload_n 0 40 (by decide +kernel) rfl rfl ?_
        refine wm_ldc (-1000000002) 42 co_RX7_67 (by decide +kernel) rfl ?_
        refine wm_callVi mX7_found 1 7 [_] [] _ _ 45 mo_X7_found np_X7_found ml_RX7_59 im_X7_found se_X7_found (by decide +kernel) (by decide +kernel) rfl rfl rfl (Nat.le_of_ble_eq_true rfl) (by decide +kernel) rfl (Nat.le_of_ble_eq_true rfl) _ (ent_pad 1 rfl) (l_X7_found g _ _ _ H) (fun v13 h12 H hzv13 => ?_)
        exact wm_iret (by decide +kernel) ⟨.int, rfl, rfl⟩ H
    · replace H := H.1 c8
      refine wm_aload_n 0 21 (by decide +kernel) rfl rfl ?_
      refine wm_ldc (-1000000001) 23 co_RX7_58 (by decide +kernel) rfl ?_
      refine wm_callVi mX7_found 1 7 [_] [] _ _ 26 mo_X7_found np_X7_found ml_RX7_59 im_X7_found se_X7_found (by decide +kernel) (by decide +kernel) rfl rfl rfl (Nat.le_of_ble_eq_true rfl) (by decide +kernel) rfl (Nat.le_of_ble_eq_true rfl) _ (ent_pad 1 rfl) (l_X7_found g _ _ _ H) (fun v15 h14 H hzv15 => ?_)
      exact wm_iret (by decide +kernel) ⟨.int, rfl, rfl⟩ H
def f_X7_line (x1 : Int32) (x2 : Int32) (x3 : Int32) (x4 : Int32) (x5 : Int32) (h : HP) (Q : Int32 → HP → Prop) : Prop :=
  f_X7_isIn x1 0 5 h (fun v2 h1 =>
  (((v2 = 0) →
    f_X7_found (-1000000001 : Int32) h1 (fun v5 h4 =>
    Q v5 h4)) ∧
   (¬ (v2 = 0) →
    f_X6_areTwo 1 x2 x3 h1 (fun v7 h6 =>
    (((v7 = 0) →
      f_X7_found (-1000000001 : Int32) h6 (fun v10 h9 =>
      Q v10 h9)) ∧
     (¬ (v7 = 0) →
      f_X7_isIn x4 0 99 h6 (fun v12 h11 =>
      (((v12 = 0) →
        f_X7_found (-1000000001 : Int32) h11 (fun v15 h14 =>
        Q v15 h14)) ∧
       (¬ (v12 = 0) →
        f_X7_isIn x5 1 9 h11 (fun v17 h16 =>
        (((v17 = 0) →
          f_X7_found (-1000000001 : Int32) h16 (fun v29 h28 =>
          Q v29 h28)) ∧
         (¬ (v17 = 0) →
          ((((gi h16 1 3) < 10) →
            f_X6_addLine 1 x1 x2 x3 h16 (fun v21 h20 =>
            vp_in v21 10 ∧
            ∀ h23 : HP, h23 = si h20 (3 + 7 + 2 * ix v21) 3 x4 →
            vp_in v21 10 ∧
            ∀ h25 : HP, h25 = si h23 (3 + 7 + 2 * ix v21) 4 x5 →
            Q v21 h25)) ∧
           (¬ ((gi h16 1 3) < 10) →
            f_X7_found (-1000000002 : Int32) h16 (fun v27 h26 =>
            Q v27 h26)))))))))))))))
set_option maxRecDepth 20000 in
theorem l_X7_line (g : GE) (x1 : Int32) (x2 : Int32) (x3 : Int32) (x4 : Int32) (x5 : Int32)  (h : HP) (Q : Int32 → HP → Prop) (H : f_X7_line x1 x2 x3 x4 x5 h Q) : Wm g mX7_line 0 [some (.ref 0), some (.int x1), some (.int x2), some (.int x3), some (.int x4), some (.int x5), none] [] h (qi Q) := by
  unfold f_X7_line at H
  refine wm_iload_n 1 1 (by decide +kernel) rfl rfl ?_
  refine wm_iconst 0 2 (by decide +kernel : decode cX7_line 1 = .ok (.iconst 0, 1)) rfl (by decide +kernel) ?_
  refine wm_iconst 5 3 (by decide +kernel : decode cX7_line 2 = .ok (.iconst 5, 1)) rfl (by decide +kernel) ?_
  refine wm_callSi mX7_isIn 3 [_, _, _] [] _ _ 6 mo_X7_isIn np_X7_isIn ml_RX7_54 sc_X7_isIn (by decide +kernel) (by decide +kernel) rfl rfl rfl (Nat.le_of_ble_eq_true rfl) (Nat.le_of_ble_eq_true rfl) _ (ent_pad 0 rfl) (l_X7_isIn g _ _ _ _ _ H) (fun v2 h1 H hzv2 => ?_)
  refine wm_if_eq 9 43 (by decide +kernel : decode cX7_line 6 = .ok (.ifCond .eq 37, 3)) (by decide) rfl (fun c3 => ?_) (fun c3 => ?_)
  · replace H := H.1 c3
    refine wm_aload_n 0 44 (by decide +kernel) rfl rfl ?_
    refine wm_ldc (-1000000001) 46 co_RX7_58 (by decide +kernel) rfl ?_
    refine wm_callVi mX7_found 1 7 [_] [] _ _ 49 mo_X7_found np_X7_found ml_RX7_59 im_X7_found se_X7_found (by decide +kernel) (by decide +kernel) rfl rfl rfl (Nat.le_of_ble_eq_true rfl) (by decide +kernel) rfl (Nat.le_of_ble_eq_true rfl) _ (ent_pad 1 rfl) (l_X7_found g _ _ _ H) (fun v5 h4 H hzv5 => ?_)
    exact wm_iret (by decide +kernel) ⟨.int, rfl, rfl⟩ H
  · replace H := H.2 c3
    refine wm_aload_n 0 10 (by decide +kernel) rfl rfl ?_
    refine wm_getr 7 0 1 1 13 fl_RX7_10 (by decide +kernel) rfl (by decide +kernel) rfl rfl (by decide) ?_
    refine wm_iload_n 2 14 (by decide +kernel) rfl rfl ?_
    refine wm_iload_n 3 15 (by decide +kernel) rfl rfl ?_
    refine wm_callVi mX6_areTwo 2 6 [_, _] [] _ _ 18 mo_X6_areTwo np_X6_areTwo ml_RX7_72 im_X6_areTwo se_X6_areTwo (by decide +kernel) (by decide +kernel) rfl rfl rfl (Nat.le_of_ble_eq_true rfl) (by decide +kernel) rfl (Nat.le_of_ble_eq_true rfl) _ (ent_pad 0 rfl) (l_X6_areTwo g _ _ _ (by decide +kernel) _ _ H) (fun v7 h6 H hzv7 => ?_)
    refine wm_if_eq 21 43 (by decide +kernel : decode cX7_line 18 = .ok (.ifCond .eq 25, 3)) (by decide) rfl (fun c8 => ?_) (fun c8 => ?_)
    · replace H := H.1 c8
      refine wm_aload_n 0 44 (by decide +kernel) rfl rfl ?_
      refine wm_ldc (-1000000001) 46 co_RX7_58 (by decide +kernel) rfl ?_
      refine wm_callVi mX7_found 1 7 [_] [] _ _ 49 mo_X7_found np_X7_found ml_RX7_59 im_X7_found se_X7_found (by decide +kernel) (by decide +kernel) rfl rfl rfl (Nat.le_of_ble_eq_true rfl) (by decide +kernel) rfl (Nat.le_of_ble_eq_true rfl) _ (ent_pad 1 rfl) (l_X7_found g _ _ _ H) (fun v10 h9 H hzv10 => ?_)
      exact wm_iret (by decide +kernel) ⟨.int, rfl, rfl⟩ H
    · replace H := H.2 c8
      refine wm_iload 4 23 (by decide +kernel) rfl rfl ?_
      refine wm_iconst 0 24 (by decide +kernel : decode cX7_line 23 = .ok (.iconst 0, 1)) rfl (by decide +kernel) ?_
      refine wm_bipush 99 26 (by decide +kernel : decode cX7_line 24 = .ok (.bipush 99, 2)) rfl (by decide +kernel) ?_
      refine wm_callSi mX7_isIn 3 [_, _, _] [] _ _ 29 mo_X7_isIn np_X7_isIn ml_RX7_54 sc_X7_isIn (by decide +kernel) (by decide +kernel) rfl rfl rfl (Nat.le_of_ble_eq_true rfl) (Nat.le_of_ble_eq_true rfl) _ (ent_pad 0 rfl) (l_X7_isIn g _ _ _ _ _ H) (fun v12 h11 H hzv12 => ?_)
      refine wm_if_eq 32 43 (by decide +kernel : decode cX7_line 29 = .ok (.ifCond .eq 14, 3)) (by decide) rfl (fun c13 => ?_) (fun c13 => ?_)
      · replace H := H.1 c13
        refine wm_aload_n 0 44 (by decide +kernel) rfl rfl ?_
        refine wm_ldc (-1000000001) 46 co_RX7_58 (by decide +kernel) rfl ?_
        refine wm_callVi mX7_found 1 7 [_] [] _ _ 49 mo_X7_found np_X7_found ml_RX7_59 im_X7_found se_X7_found (by decide +kernel) (by decide +kernel) rfl rfl rfl (Nat.le_of_ble_eq_true rfl) (by decide +kernel) rfl (Nat.le_of_ble_eq_true rfl) _ (ent_pad 1 rfl) (l_X7_found g _ _ _ H) (fun v15 h14 H hzv15 => ?_)
        exact wm_iret (by decide +kernel) ⟨.int, rfl, rfl⟩ H
      · replace H := H.2 c13
        refine wm_iload 5 34 (by decide +kernel) rfl rfl ?_
        refine wm_iconst 1 35 (by decide +kernel : decode cX7_line 34 = .ok (.iconst 1, 1)) rfl (by decide +kernel) ?_
        refine wm_bipush 9 37 (by decide +kernel : decode cX7_line 35 = .ok (.bipush 9, 2)) rfl (by decide +kernel) ?_
        refine wm_callSi mX7_isIn 3 [_, _, _] [] _ _ 40 mo_X7_isIn np_X7_isIn ml_RX7_54 sc_X7_isIn (by decide +kernel) (by decide +kernel) rfl rfl rfl (Nat.le_of_ble_eq_true rfl) (Nat.le_of_ble_eq_true rfl) _ (ent_pad 0 rfl) (l_X7_isIn g _ _ _ _ _ H) (fun v17 h16 H hzv17 => ?_)
        refine wm_if_ne 43 50 (by decide +kernel : decode cX7_line 40 = .ok (.ifCond .ne 10, 3)) (by decide) rfl (fun c18 => ?_) (fun c18 => ?_)
        · replace H := H.2 c18
          refine wm_aload_n 0 51 (by decide +kernel) rfl rfl ?_
          refine wm_getr 7 0 1 1 54 fl_RX7_10 (by decide +kernel) rfl (by decide +kernel) rfl rfl (by decide) ?_
          refine wm_geti 6 3 57 fl_RX7_76 (by decide +kernel) rfl (by decide +kernel) rfl ?_
          refine wm_bipush 10 59 (by decide +kernel : decode cX7_line 57 = .ok (.bipush 10, 2)) rfl (by decide +kernel) ?_
          refine wm_icmp_lt 62 69 (by decide +kernel : decode cX7_line 59 = .ok (.if_icmp .lt 10, 3)) (by decide) rfl (fun c19 => ?_) (fun c19 => ?_)
          · replace H := H.1 c19
            refine wm_aload_n 0 70 (by decide +kernel) rfl rfl ?_
            refine wm_getr 7 0 1 1 73 fl_RX7_10 (by decide +kernel) rfl (by decide +kernel) rfl rfl (by decide) ?_
            refine wm_iload_n 1 74 (by decide +kernel) rfl rfl ?_
            refine wm_iload_n 2 75 (by decide +kernel) rfl rfl ?_
            refine wm_iload_n 3 76 (by decide +kernel) rfl rfl ?_
            refine wm_callVi mX6_addLine 3 6 [_, _, _] [] _ _ 79 mo_X6_addLine np_X6_addLine ml_RX7_79 im_X6_addLine se_X6_addLine (by decide +kernel) (by decide +kernel) rfl rfl rfl (Nat.le_of_ble_eq_true rfl) (by decide +kernel) rfl (Nat.le_of_ble_eq_true rfl) _ (ent_pad 1 rfl) (l_X6_addLine g _ _ _ _ (by decide +kernel) _ _ H) (fun v21 h20 H hzv21 => ?_)
            refine wm_istore 6 81 [some _, some _, some _, some _, some _, some _, some _] (by decide +kernel) rfl (by decide +kernel) (okS_spec rfl) rfl ?_
            refine wm_aload_n 0 82 (by decide +kernel) rfl rfl ?_
            refine wm_getr 7 0 1 1 85 fl_RX7_10 (by decide +kernel) rfl (by decide +kernel) rfl rfl (by decide) ?_
            refine wm_getr 6 5 2 3 88 fl_RX7_83 (by decide +kernel) rfl (by decide +kernel) rfl rfl (by decide) ?_
            refine wm_iload 6 90 (by decide +kernel) rfl rfl ?_
            obtain ⟨o22, H⟩ := H
            refine wm_aald 10 _ 91 (by decide +kernel) rfl (Or.inr (Or.inl ⟨(by decide +kernel), rfl⟩)) (by decide +kernel) o22 ?_
            refine wm_iload 4 93 (by decide +kernel) rfl rfl ?_
            replace H := H _ rfl
            refine wm_puti 0 3 96 fl_RX7_87 (by decide +kernel) rfl (E_ln (by decide +kernel) (vp_in_lt o22)) rfl rfl ⟨rfl, rfl⟩ ?_
            refine wm_aload_n 0 97 (by decide +kernel) rfl rfl ?_
            refine wm_getr 7 0 1 1 100 fl_RX7_10 (by decide +kernel) rfl (by decide +kernel) rfl rfl (by decide) ?_
            refine wm_getr 6 5 2 3 103 fl_RX7_83 (by decide +kernel) rfl (by decide +kernel) rfl rfl (by decide) ?_
            refine wm_iload 6 105 (by decide +kernel) rfl rfl ?_
            obtain ⟨o24, H⟩ := H
            refine wm_aald 10 _ 106 (by decide +kernel) rfl (Or.inr (Or.inl ⟨(by decide +kernel), rfl⟩)) (by decide +kernel) o24 ?_
            refine wm_iload 5 108 (by decide +kernel) rfl rfl ?_
            replace H := H _ rfl
            refine wm_puti 0 4 111 fl_RX7_92 (by decide +kernel) rfl (E_ln (by decide +kernel) (vp_in_lt o24)) rfl rfl ⟨rfl, rfl⟩ ?_
            refine wm_iload 6 113 (by decide +kernel) rfl rfl ?_
            exact wm_iret (by decide +kernel) ⟨.int, rfl, rfl⟩ H
          · replace H := H.2 c19
            refine wm_aload_n 0 63 (by decide +kernel) rfl rfl ?_
            refine wm_ldc (-1000000002) 65 co_RX7_67 (by decide +kernel) rfl ?_
            refine wm_callVi mX7_found 1 7 [_] [] _ _ 68 mo_X7_found np_X7_found ml_RX7_59 im_X7_found se_X7_found (by decide +kernel) (by decide +kernel) rfl rfl rfl (Nat.le_of_ble_eq_true rfl) (by decide +kernel) rfl (Nat.le_of_ble_eq_true rfl) _ (ent_pad 1 rfl) (l_X7_found g _ _ _ H) (fun v27 h26 H hzv27 => ?_)
            exact wm_iret (by decide +kernel) ⟨.int, rfl, rfl⟩ H
        · replace H := H.1 c18
          refine wm_aload_n 0 44 (by decide +kernel) rfl rfl ?_
          refine wm_ldc (-1000000001) 46 co_RX7_58 (by decide +kernel) rfl ?_
          refine wm_callVi mX7_found 1 7 [_] [] _ _ 49 mo_X7_found np_X7_found ml_RX7_59 im_X7_found se_X7_found (by decide +kernel) (by decide +kernel) rfl rfl rfl (Nat.le_of_ble_eq_true rfl) (by decide +kernel) rfl (Nat.le_of_ble_eq_true rfl) _ (ent_pad 1 rfl) (l_X7_found g _ _ _ H) (fun v29 h28 H hzv29 => ?_)
          exact wm_iret (by decide +kernel) ⟨.int, rfl, rfl⟩ H
def f_X7_of (x1 : Int32) (x2 : Int32) (h : HP) (Q : Int32 → HP → Prop) : Prop :=
  f_X6_hasStation 1 x1 h (fun v2 h1 =>
  (((v2 = 0) →
    f_X7_found (-1000000001 : Int32) h1 (fun v17 h16 =>
    Q v17 h16)) ∧
   (¬ (v2 = 0) →
    vp_in x1 6 ∧
    (((x2 = 0) →
      Q (gi h1 (2 + 2 + ix x1) 0) h1) ∧
     (¬ (x2 = 0) →
      (((x2 = 1) →
        Q (gi h1 (2 + 2 + ix x1) 1) h1) ∧
       (¬ (x2 = 1) →
        (((x2 = 2) →
          Q (gi h1 (2 + 2 + ix x1) 2) h1) ∧
         (¬ (x2 = 2) →
          (((x2 = 3) →
            f_X3_holds (2 + 2 + ix x1) (gi h1 1 0) h1 (fun v10 h9 =>
            Q v10 h9)) ∧
           (¬ (x2 = 3) →
            (((x2 = 4) →
              f_X6_comingTo 1 x1 h1 (fun v13 h12 =>
              Q v13 h12)) ∧
             (¬ (x2 = 4) →
              f_X7_found (-1000000001 : Int32) h1 (fun v15 h14 =>
              Q v15 h14))))))))))))))
set_option maxRecDepth 20000 in
theorem l_X7_of (g : GE) (x1 : Int32) (x2 : Int32)  (h : HP) (Q : Int32 → HP → Prop) (H : f_X7_of x1 x2 h Q) : Wm g mX7_of 0 [some (.ref 0), some (.int x1), some (.int x2), none] [] h (qi Q) := by
  unfold f_X7_of at H
  refine wm_aload_n 0 1 (by decide +kernel) rfl rfl ?_
  refine wm_getr 7 0 1 1 4 fl_RX7_10 (by decide +kernel) rfl (by decide +kernel) rfl rfl (by decide) ?_
  refine wm_iload_n 1 5 (by decide +kernel) rfl rfl ?_
  refine wm_callVi mX6_hasStation 1 6 [_] [] _ _ 8 mo_X6_hasStation np_X6_hasStation ml_RX7_95 im_X6_hasStation se_X6_hasStation (by decide +kernel) (by decide +kernel) rfl rfl rfl (Nat.le_of_ble_eq_true rfl) (by decide +kernel) rfl (Nat.le_of_ble_eq_true rfl) _ (ent_pad 0 rfl) (l_X6_hasStation g _ _ (by decide +kernel) _ _ H) (fun v2 h1 H hzv2 => ?_)
  refine wm_if_ne 11 18 (by decide +kernel : decode cX7_of 8 = .ok (.ifCond .ne 10, 3)) (by decide) rfl (fun c3 => ?_) (fun c3 => ?_)
  · replace H := H.2 c3
    refine wm_aload_n 0 19 (by decide +kernel) rfl rfl ?_
    refine wm_getr 7 0 1 1 22 fl_RX7_10 (by decide +kernel) rfl (by decide +kernel) rfl rfl (by decide) ?_
    refine wm_getr 6 4 1 2 25 fl_RX7_99 (by decide +kernel) rfl (by decide +kernel) rfl rfl (by decide) ?_
    refine wm_iload_n 1 26 (by decide +kernel) rfl rfl ?_
    obtain ⟨o4, H⟩ := H
    refine wm_aald 6 _ 27 (by decide +kernel) rfl (Or.inl ⟨(by decide +kernel), rfl⟩) (by decide +kernel) o4 ?_
    refine wm_astore_n 3 28 [some _, some _, some _, some _] (by decide +kernel) rfl (by decide +kernel) (okS_spec rfl) rfl ?_
    refine wm_iload_n 2 29 (by decide +kernel) rfl rfl ?_
    refine em_go H (fun c5 H => ?_) (fun c5 H => ?_)
    · refine wm_tin (off := 35) 0 64 c5 (by decide +kernel : decode cX7_of 29 = .ok (.tableswitch 71 0 4 #[35, 40, 45, 50, 62], 35)) (by decide +kernel) (by decide +kernel) (by decide +kernel) (by decide) ?_
      refine wm_aload_n 3 65 (by decide +kernel) rfl rfl ?_
      refine wm_geti 3 0 68 fl_RX7_103 (by decide +kernel) rfl (E_st (by decide +kernel) (vp_in_lt o4)) rfl ?_
      exact wm_iret (by decide +kernel) ⟨.int, rfl, rfl⟩ H
    · skip
      refine em_go H (fun c6 H => ?_) (fun c6 H => ?_)
      · refine wm_tin (off := 40) 1 69 c6 (by decide +kernel : decode cX7_of 29 = .ok (.tableswitch 71 0 4 #[35, 40, 45, 50, 62], 35)) (by decide +kernel) (by decide +kernel) (by decide +kernel) (by decide) ?_
        refine wm_aload_n 3 70 (by decide +kernel) rfl rfl ?_
        refine wm_geti 3 1 73 fl_RX7_108 (by decide +kernel) rfl (E_st (by decide +kernel) (vp_in_lt o4)) rfl ?_
        exact wm_iret (by decide +kernel) ⟨.int, rfl, rfl⟩ H
      · skip
        refine em_go H (fun c7 H => ?_) (fun c7 H => ?_)
        · refine wm_tin (off := 45) 2 74 c7 (by decide +kernel : decode cX7_of 29 = .ok (.tableswitch 71 0 4 #[35, 40, 45, 50, 62], 35)) (by decide +kernel) (by decide +kernel) (by decide +kernel) (by decide) ?_
          refine wm_aload_n 3 75 (by decide +kernel) rfl rfl ?_
          refine wm_geti 3 2 78 fl_RX7_111 (by decide +kernel) rfl (E_st (by decide +kernel) (vp_in_lt o4)) rfl ?_
          exact wm_iret (by decide +kernel) ⟨.int, rfl, rfl⟩ H
        · skip
          refine em_go H (fun c8 H => ?_) (fun c8 H => ?_)
          · refine wm_tin (off := 50) 3 79 c8 (by decide +kernel : decode cX7_of 29 = .ok (.tableswitch 71 0 4 #[35, 40, 45, 50, 62], 35)) (by decide +kernel) (by decide +kernel) (by decide +kernel) (by decide) ?_
            refine wm_aload_n 3 80 (by decide +kernel) rfl rfl ?_
            refine wm_aload_n 0 81 (by decide +kernel) rfl rfl ?_
            refine wm_getr 7 0 1 1 84 fl_RX7_10 (by decide +kernel) rfl (by decide +kernel) rfl rfl (by decide) ?_
            refine wm_geti 6 0 87 fl_RX7_114 (by decide +kernel) rfl (by decide +kernel) rfl ?_
            refine wm_callVi mX3_holds 1 3 [_] [] _ _ 90 mo_X3_holds np_X3_holds ml_RX7_117 im_X3_holds se_X3_holds (by decide +kernel) (by decide +kernel) rfl rfl rfl (Nat.le_of_ble_eq_true rfl) (E_st (by decide +kernel) (vp_in_lt o4)) rfl (Nat.le_of_ble_eq_true rfl) _ (ent_pad 0 rfl) (l_X3_holds g _ _ (E_st (by decide +kernel) (vp_in_lt o4)) _ _ H) (fun v10 h9 H hzv10 => ?_)
            exact wm_iret (by decide +kernel) ⟨.int, rfl, rfl⟩ H
          · skip
            refine em_go H (fun c11 H => ?_) (fun c11 H => ?_)
            · refine wm_tin (off := 62) 4 91 c11 (by decide +kernel : decode cX7_of 29 = .ok (.tableswitch 71 0 4 #[35, 40, 45, 50, 62], 35)) (by decide +kernel) (by decide +kernel) (by decide +kernel) (by decide) ?_
              refine wm_aload_n 0 92 (by decide +kernel) rfl rfl ?_
              refine wm_getr 7 0 1 1 95 fl_RX7_10 (by decide +kernel) rfl (by decide +kernel) rfl rfl (by decide) ?_
              refine wm_iload_n 1 96 (by decide +kernel) rfl rfl ?_
              refine wm_callVi mX6_comingTo 1 6 [_] [] _ _ 99 mo_X6_comingTo np_X6_comingTo ml_RX7_120 im_X6_comingTo se_X6_comingTo (by decide +kernel) (by decide +kernel) rfl rfl rfl (Nat.le_of_ble_eq_true rfl) (by decide +kernel) rfl (Nat.le_of_ble_eq_true rfl) _ (ent_pad 2 rfl) (l_X6_comingTo g _ _ (by decide +kernel) _ _ H) (fun v13 h12 H hzv13 => ?_)
              exact wm_iret (by decide +kernel) ⟨.int, rfl, rfl⟩ H
            · skip
              refine wm_tout 100 (by decide +kernel : decode cX7_of 29 = .ok (.tableswitch 71 0 4 #[35, 40, 45, 50, 62], 35)) (by have q0 := ne_toInt 0 (by decide +kernel) c5; have q1 := ne_toInt 1 (by decide +kernel) c6; have q2 := ne_toInt 2 (by decide +kernel) c7; have q3 := ne_toInt 3 (by decide +kernel) c8; have q4 := ne_toInt 4 (by decide +kernel) c11; omega) (by decide) ?_
              refine wm_aload_n 0 101 (by decide +kernel) rfl rfl ?_
              refine wm_ldc (-1000000001) 103 co_RX7_58 (by decide +kernel) rfl ?_
              refine wm_callVi mX7_found 1 7 [_] [] _ _ 106 mo_X7_found np_X7_found ml_RX7_59 im_X7_found se_X7_found (by decide +kernel) (by decide +kernel) rfl rfl rfl (Nat.le_of_ble_eq_true rfl) (by decide +kernel) rfl (Nat.le_of_ble_eq_true rfl) _ (ent_pad 1 rfl) (l_X7_found g _ _ _ H) (fun v15 h14 H hzv15 => ?_)
              exact wm_iret (by decide +kernel) ⟨.int, rfl, rfl⟩ H
  · replace H := H.1 c3
    refine wm_aload_n 0 12 (by decide +kernel) rfl rfl ?_
    refine wm_ldc (-1000000001) 14 co_RX7_58 (by decide +kernel) rfl ?_
    refine wm_callVi mX7_found 1 7 [_] [] _ _ 17 mo_X7_found np_X7_found ml_RX7_59 im_X7_found se_X7_found (by decide +kernel) (by decide +kernel) rfl rfl rfl (Nat.le_of_ble_eq_true rfl) (by decide +kernel) rfl (Nat.le_of_ble_eq_true rfl) _ (ent_pad 1 rfl) (l_X7_found g _ _ _ H) (fun v17 h16 H hzv17 => ?_)
    exact wm_iret (by decide +kernel) ⟨.int, rfl, rfl⟩ H
def f_X7_its (x1 : Int32) (x2 : Int32) (h : HP) (Q : Int32 → HP → Prop) : Prop :=
  f_X6_hasLine 1 x1 h (fun v2 h1 =>
  (((v2 = 0) →
    f_X7_found (-1000000001 : Int32) h1 (fun v23 h22 =>
    Q v23 h22)) ∧
   (¬ (v2 = 0) →
    vp_in x1 10 ∧
    (((x2 = 8) →
      f_X0_room (3 + 7 + 2 * ix x1) (gi h1 1 0) h1 (fun v7 h6 =>
      Q v7 h6)) ∧
     (¬ (x2 = 8) →
      (((x2 = 9) →
        f_X0_takes (3 + 7 + 2 * ix x1) h1 (fun v10 h9 =>
        Q v10 h9)) ∧
       (¬ (x2 = 9) →
        (((x2 = 10) →
          Q (gi h1 (3 + 7 + 2 * ix x1) 8) h1) ∧
         (¬ (x2 = 10) →
          (((x2 = 11) →
            f_X0_underWay (3 + 7 + 2 * ix x1) h1 (fun v14 h13 =>
            Q v14 h13)) ∧
           (¬ (x2 = 11) →
            f_X7_isIn x2 0 7 h1 (fun v16 h15 =>
            (((v16 = 0) →
              f_X7_found (-1000000001 : Int32) h15 (fun v19 h18 =>
              Q v19 h18)) ∧
             (¬ (v16 = 0) →
              f_X0_setting (3 + 7 + 2 * ix x1) x2 h15 (fun v21 h20 =>
              Q v21 h20)))))))))))))))
set_option maxRecDepth 20000 in
theorem l_X7_its (g : GE) (x1 : Int32) (x2 : Int32)  (h : HP) (Q : Int32 → HP → Prop) (H : f_X7_its x1 x2 h Q) : Wm g mX7_its 0 [some (.ref 0), some (.int x1), some (.int x2), none] [] h (qi Q) := by
  unfold f_X7_its at H
  refine wm_aload_n 0 1 (by decide +kernel) rfl rfl ?_
  refine wm_getr 7 0 1 1 4 fl_RX7_10 (by decide +kernel) rfl (by decide +kernel) rfl rfl (by decide) ?_
  refine wm_iload_n 1 5 (by decide +kernel) rfl rfl ?_
  refine wm_callVi mX6_hasLine 1 6 [_] [] _ _ 8 mo_X6_hasLine np_X6_hasLine ml_RX7_123 im_X6_hasLine se_X6_hasLine (by decide +kernel) (by decide +kernel) rfl rfl rfl (Nat.le_of_ble_eq_true rfl) (by decide +kernel) rfl (Nat.le_of_ble_eq_true rfl) _ (ent_pad 0 rfl) (l_X6_hasLine g _ _ (by decide +kernel) _ _ H) (fun v2 h1 H hzv2 => ?_)
  refine wm_if_ne 11 18 (by decide +kernel : decode cX7_its 8 = .ok (.ifCond .ne 10, 3)) (by decide) rfl (fun c3 => ?_) (fun c3 => ?_)
  · replace H := H.2 c3
    refine wm_aload_n 0 19 (by decide +kernel) rfl rfl ?_
    refine wm_getr 7 0 1 1 22 fl_RX7_10 (by decide +kernel) rfl (by decide +kernel) rfl rfl (by decide) ?_
    refine wm_getr 6 5 2 3 25 fl_RX7_83 (by decide +kernel) rfl (by decide +kernel) rfl rfl (by decide) ?_
    refine wm_iload_n 1 26 (by decide +kernel) rfl rfl ?_
    obtain ⟨o4, H⟩ := H
    refine wm_aald 10 _ 27 (by decide +kernel) rfl (Or.inr (Or.inl ⟨(by decide +kernel), rfl⟩)) (by decide +kernel) o4 ?_
    refine wm_astore_n 3 28 [some _, some _, some _, some _] (by decide +kernel) rfl (by decide +kernel) (okS_spec rfl) rfl ?_
    refine wm_iload_n 2 29 (by decide +kernel) rfl rfl ?_
    refine em_go H (fun c5 H => ?_) (fun c5 H => ?_)
    · refine wm_tin (off := 31) 8 60 c5 (by decide +kernel : decode cX7_its 29 = .ok (.tableswitch 58 8 11 #[31, 43, 48, 53], 31)) (by decide +kernel) (by decide +kernel) (by decide +kernel) (by decide) ?_
      refine wm_aload_n 3 61 (by decide +kernel) rfl rfl ?_
      refine wm_aload_n 0 62 (by decide +kernel) rfl rfl ?_
      refine wm_getr 7 0 1 1 65 fl_RX7_10 (by decide +kernel) rfl (by decide +kernel) rfl rfl (by decide) ?_
      refine wm_geti 6 0 68 fl_RX7_114 (by decide +kernel) rfl (by decide +kernel) rfl ?_
      refine wm_callVi mX0_room 1 0 [_] [] _ _ 71 mo_X0_room np_X0_room ml_RX7_126 im_X0_room se_X0_room (by decide +kernel) (by decide +kernel) rfl rfl rfl (Nat.le_of_ble_eq_true rfl) (E_ln (by decide +kernel) (vp_in_lt o4)) rfl (Nat.le_of_ble_eq_true rfl) _ (ent_pad 3 rfl) (l_X0_room g _ _ (E_ln (by decide +kernel) (vp_in_lt o4)) _ _ H) (fun v7 h6 H hzv7 => ?_)
      exact wm_iret (by decide +kernel) ⟨.int, rfl, rfl⟩ H
    · skip
      refine em_go H (fun c8 H => ?_) (fun c8 H => ?_)
      · refine wm_tin (off := 43) 9 72 c8 (by decide +kernel : decode cX7_its 29 = .ok (.tableswitch 58 8 11 #[31, 43, 48, 53], 31)) (by decide +kernel) (by decide +kernel) (by decide +kernel) (by decide) ?_
        refine wm_aload_n 3 73 (by decide +kernel) rfl rfl ?_
        refine wm_callVi mX0_takes 0 0 [] [] _ _ 76 mo_X0_takes np_X0_takes ml_RX7_129 im_X0_takes se_X0_takes (by decide +kernel) (by decide +kernel) rfl rfl rfl (Nat.le_of_ble_eq_true rfl) (E_ln (by decide +kernel) (vp_in_lt o4)) rfl (Nat.le_of_ble_eq_true rfl) _ (ent_pad 0 rfl) (l_X0_takes g _ (E_ln (by decide +kernel) (vp_in_lt o4)) _ _ H) (fun v10 h9 H hzv10 => ?_)
        exact wm_iret (by decide +kernel) ⟨.int, rfl, rfl⟩ H
      · skip
        refine em_go H (fun c11 H => ?_) (fun c11 H => ?_)
        · refine wm_tin (off := 48) 10 77 c11 (by decide +kernel : decode cX7_its 29 = .ok (.tableswitch 58 8 11 #[31, 43, 48, 53], 31)) (by decide +kernel) (by decide +kernel) (by decide +kernel) (by decide) ?_
          refine wm_aload_n 3 78 (by decide +kernel) rfl rfl ?_
          refine wm_geti 0 8 81 fl_RX7_133 (by decide +kernel) rfl (E_ln (by decide +kernel) (vp_in_lt o4)) rfl ?_
          exact wm_iret (by decide +kernel) ⟨.int, rfl, rfl⟩ H
        · skip
          refine em_go H (fun c12 H => ?_) (fun c12 H => ?_)
          · refine wm_tin (off := 53) 11 82 c12 (by decide +kernel : decode cX7_its 29 = .ok (.tableswitch 58 8 11 #[31, 43, 48, 53], 31)) (by decide +kernel) (by decide +kernel) (by decide +kernel) (by decide) ?_
            refine wm_aload_n 3 83 (by decide +kernel) rfl rfl ?_
            refine wm_callVi mX0_underWay 0 0 [] [] _ _ 86 mo_X0_underWay np_X0_underWay ml_RX7_136 im_X0_underWay se_X0_underWay (by decide +kernel) (by decide +kernel) rfl rfl rfl (Nat.le_of_ble_eq_true rfl) (E_ln (by decide +kernel) (vp_in_lt o4)) rfl (Nat.le_of_ble_eq_true rfl) _ (ent_pad 2 rfl) (l_X0_underWay g _ (E_ln (by decide +kernel) (vp_in_lt o4)) _ _ H) (fun v14 h13 H hzv14 => ?_)
            exact wm_iret (by decide +kernel) ⟨.int, rfl, rfl⟩ H
          · skip
            refine wm_tout 87 (by decide +kernel : decode cX7_its 29 = .ok (.tableswitch 58 8 11 #[31, 43, 48, 53], 31)) (by have q0 := ne_toInt 8 (by decide +kernel) c5; have q1 := ne_toInt 9 (by decide +kernel) c8; have q2 := ne_toInt 10 (by decide +kernel) c11; have q3 := ne_toInt 11 (by decide +kernel) c12; omega) (by decide) ?_
            refine wm_iload_n 2 88 (by decide +kernel) rfl rfl ?_
            refine wm_iconst 0 89 (by decide +kernel : decode cX7_its 88 = .ok (.iconst 0, 1)) rfl (by decide +kernel) ?_
            refine wm_bipush 7 91 (by decide +kernel : decode cX7_its 89 = .ok (.bipush 7, 2)) rfl (by decide +kernel) ?_
            refine wm_callSi mX7_isIn 3 [_, _, _] [] _ _ 94 mo_X7_isIn np_X7_isIn ml_RX7_54 sc_X7_isIn (by decide +kernel) (by decide +kernel) rfl rfl rfl (Nat.le_of_ble_eq_true rfl) (Nat.le_of_ble_eq_true rfl) _ (ent_pad 0 rfl) (l_X7_isIn g _ _ _ _ _ H) (fun v16 h15 H hzv16 => ?_)
            refine wm_if_eq 97 105 (by decide +kernel : decode cX7_its 94 = .ok (.ifCond .eq 11, 3)) (by decide) rfl (fun c17 => ?_) (fun c17 => ?_)
            · replace H := H.1 c17
              refine wm_aload_n 0 106 (by decide +kernel) rfl rfl ?_
              refine wm_ldc (-1000000001) 108 co_RX7_58 (by decide +kernel) rfl ?_
              refine wm_callVi mX7_found 1 7 [_] [] _ _ 111 mo_X7_found np_X7_found ml_RX7_59 im_X7_found se_X7_found (by decide +kernel) (by decide +kernel) rfl rfl rfl (Nat.le_of_ble_eq_true rfl) (by decide +kernel) rfl (Nat.le_of_ble_eq_true rfl) _ (ent_pad 1 rfl) (l_X7_found g _ _ _ H) (fun v19 h18 H hzv19 => ?_)
              exact wm_iret (by decide +kernel) ⟨.int, rfl, rfl⟩ H
            · replace H := H.2 c17
              refine wm_aload_n 3 98 (by decide +kernel) rfl rfl ?_
              refine wm_iload_n 2 99 (by decide +kernel) rfl rfl ?_
              refine wm_callVi mX0_setting 1 0 [_] [] _ _ 102 mo_X0_setting np_X0_setting ml_RX7_139 im_X0_setting se_X0_setting (by decide +kernel) (by decide +kernel) rfl rfl rfl (Nat.le_of_ble_eq_true rfl) (E_ln (by decide +kernel) (vp_in_lt o4)) rfl (Nat.le_of_ble_eq_true rfl) _ (ent_pad 0 rfl) (l_X0_setting g _ _ (E_ln (by decide +kernel) (vp_in_lt o4)) _ _ H) (fun v21 h20 H hzv21 => ?_)
              refine wm_goto 111 (by decide +kernel : decode cX7_its 102 = .ok (.goto 9, 3)) (by decide) ?_
              exact wm_iret (by decide +kernel) ⟨.int, rfl, rfl⟩ H
  · replace H := H.1 c3
    refine wm_aload_n 0 12 (by decide +kernel) rfl rfl ?_
    refine wm_ldc (-1000000001) 14 co_RX7_58 (by decide +kernel) rfl ?_
    refine wm_callVi mX7_found 1 7 [_] [] _ _ 17 mo_X7_found np_X7_found ml_RX7_59 im_X7_found se_X7_found (by decide +kernel) (by decide +kernel) rfl rfl rfl (Nat.le_of_ble_eq_true rfl) (by decide +kernel) rfl (Nat.le_of_ble_eq_true rfl) _ (ent_pad 1 rfl) (l_X7_found g _ _ _ H) (fun v23 h22 H hzv23 => ?_)
    exact wm_iret (by decide +kernel) ⟨.int, rfl, rfl⟩ H
def f_X7_set (x1 : Int32) (x2 : Int32) (x3 : Int32) (h : HP) (Q : Int32 → HP → Prop) : Prop :=
  f_X6_hasStation 1 x1 h (fun v2 h1 =>
  (((v2 = 0) →
    f_X7_found (-1000000001 : Int32) h1 (fun v5 h4 =>
    Q v5 h4)) ∧
   (¬ (v2 = 0) →
    f_X7_isIn x2 0 2 h1 (fun v7 h6 =>
    (((v7 = 0) →
      f_X7_found (-1000000001 : Int32) h6 (fun v10 h9 =>
      Q v10 h9)) ∧
     (¬ (v7 = 0) →
      f_X3_greatest x2 h6 (fun v12 h11 =>
      f_X7_isIn x3 0 v12 h11 (fun v14 h13 =>
      (((v14 = 0) →
        f_X7_found (-1000000001 : Int32) h13 (fun v20 h19 =>
        Q v20 h19)) ∧
       (¬ (v14 = 0) →
        vp_in x1 6 ∧
        f_X3_replace (2 + 2 + ix x1) x2 x3 h13 (fun v18 h17 =>
        Q v18 h17)))))))))))
set_option maxRecDepth 20000 in
theorem l_X7_set (g : GE) (x1 : Int32) (x2 : Int32) (x3 : Int32)  (h : HP) (Q : Int32 → HP → Prop) (H : f_X7_set x1 x2 x3 h Q) : Wm g mX7_set 0 [some (.ref 0), some (.int x1), some (.int x2), some (.int x3)] [] h (qi Q) := by
  unfold f_X7_set at H
  refine wm_aload_n 0 1 (by decide +kernel) rfl rfl ?_
  refine wm_getr 7 0 1 1 4 fl_RX7_10 (by decide +kernel) rfl (by decide +kernel) rfl rfl (by decide) ?_
  refine wm_iload_n 1 5 (by decide +kernel) rfl rfl ?_
  refine wm_callVi mX6_hasStation 1 6 [_] [] _ _ 8 mo_X6_hasStation np_X6_hasStation ml_RX7_95 im_X6_hasStation se_X6_hasStation (by decide +kernel) (by decide +kernel) rfl rfl rfl (Nat.le_of_ble_eq_true rfl) (by decide +kernel) rfl (Nat.le_of_ble_eq_true rfl) _ (ent_pad 0 rfl) (l_X6_hasStation g _ _ (by decide +kernel) _ _ H) (fun v2 h1 H hzv2 => ?_)
  refine wm_if_eq 11 32 (by decide +kernel : decode cX7_set 8 = .ok (.ifCond .eq 24, 3)) (by decide) rfl (fun c3 => ?_) (fun c3 => ?_)
  · replace H := H.1 c3
    refine wm_aload_n 0 33 (by decide +kernel) rfl rfl ?_
    refine wm_ldc (-1000000001) 35 co_RX7_58 (by decide +kernel) rfl ?_
    refine wm_callVi mX7_found 1 7 [_] [] _ _ 38 mo_X7_found np_X7_found ml_RX7_59 im_X7_found se_X7_found (by decide +kernel) (by decide +kernel) rfl rfl rfl (Nat.le_of_ble_eq_true rfl) (by decide +kernel) rfl (Nat.le_of_ble_eq_true rfl) _ (ent_pad 1 rfl) (l_X7_found g _ _ _ H) (fun v5 h4 H hzv5 => ?_)
    exact wm_iret (by decide +kernel) ⟨.int, rfl, rfl⟩ H
  · replace H := H.2 c3
    refine wm_iload_n 2 12 (by decide +kernel) rfl rfl ?_
    refine wm_iconst 0 13 (by decide +kernel : decode cX7_set 12 = .ok (.iconst 0, 1)) rfl (by decide +kernel) ?_
    refine wm_iconst 2 14 (by decide +kernel : decode cX7_set 13 = .ok (.iconst 2, 1)) rfl (by decide +kernel) ?_
    refine wm_callSi mX7_isIn 3 [_, _, _] [] _ _ 17 mo_X7_isIn np_X7_isIn ml_RX7_54 sc_X7_isIn (by decide +kernel) (by decide +kernel) rfl rfl rfl (Nat.le_of_ble_eq_true rfl) (Nat.le_of_ble_eq_true rfl) _ (ent_pad 0 rfl) (l_X7_isIn g _ _ _ _ _ H) (fun v7 h6 H hzv7 => ?_)
    refine wm_if_eq 20 32 (by decide +kernel : decode cX7_set 17 = .ok (.ifCond .eq 15, 3)) (by decide) rfl (fun c8 => ?_) (fun c8 => ?_)
    · replace H := H.1 c8
      refine wm_aload_n 0 33 (by decide +kernel) rfl rfl ?_
      refine wm_ldc (-1000000001) 35 co_RX7_58 (by decide +kernel) rfl ?_
      refine wm_callVi mX7_found 1 7 [_] [] _ _ 38 mo_X7_found np_X7_found ml_RX7_59 im_X7_found se_X7_found (by decide +kernel) (by decide +kernel) rfl rfl rfl (Nat.le_of_ble_eq_true rfl) (by decide +kernel) rfl (Nat.le_of_ble_eq_true rfl) _ (ent_pad 1 rfl) (l_X7_found g _ _ _ H) (fun v10 h9 H hzv10 => ?_)
      exact wm_iret (by decide +kernel) ⟨.int, rfl, rfl⟩ H
    · replace H := H.2 c8
      refine wm_iload_n 3 21 (by decide +kernel) rfl rfl ?_
      refine wm_iconst 0 22 (by decide +kernel : decode cX7_set 21 = .ok (.iconst 0, 1)) rfl (by decide +kernel) ?_
      refine wm_iload_n 2 23 (by decide +kernel) rfl rfl ?_
      refine wm_callSi mX3_greatest 1 [_] [_, _] _ _ 26 mo_X3_greatest np_X3_greatest ml_RX7_142 sc_X3_greatest (by decide +kernel) (by decide +kernel) rfl rfl rfl (Nat.le_of_ble_eq_true rfl) (Nat.le_of_ble_eq_true rfl) _ (ent_pad 0 rfl) (l_X3_greatest g _ _ _ H) (fun v12 h11 H hzv12 => ?_)
      refine wm_callSi mX7_isIn 3 [_, _, _] [] _ _ 29 mo_X7_isIn np_X7_isIn ml_RX7_54 sc_X7_isIn (by decide +kernel) (by decide +kernel) rfl rfl rfl (Nat.le_of_ble_eq_true rfl) (Nat.le_of_ble_eq_true rfl) _ (ent_pad 0 rfl) (l_X7_isIn g _ _ _ _ _ H) (fun v14 h13 H hzv14 => ?_)
      refine wm_if_ne 32 39 (by decide +kernel : decode cX7_set 29 = .ok (.ifCond .ne 10, 3)) (by decide) rfl (fun c15 => ?_) (fun c15 => ?_)
      · replace H := H.2 c15
        refine wm_aload_n 0 40 (by decide +kernel) rfl rfl ?_
        refine wm_getr 7 0 1 1 43 fl_RX7_10 (by decide +kernel) rfl (by decide +kernel) rfl rfl (by decide) ?_
        refine wm_getr 6 4 1 2 46 fl_RX7_99 (by decide +kernel) rfl (by decide +kernel) rfl rfl (by decide) ?_
        refine wm_iload_n 1 47 (by decide +kernel) rfl rfl ?_
        obtain ⟨o16, H⟩ := H
        refine wm_aald 6 _ 48 (by decide +kernel) rfl (Or.inl ⟨(by decide +kernel), rfl⟩) (by decide +kernel) o16 ?_
        refine wm_iload_n 2 49 (by decide +kernel) rfl rfl ?_
        refine wm_iload_n 3 50 (by decide +kernel) rfl rfl ?_
        refine wm_callVi mX3_replace 2 3 [_, _] [] _ _ 53 mo_X3_replace np_X3_replace ml_RX7_145 im_X3_replace se_X3_replace (by decide +kernel) (by decide +kernel) rfl rfl rfl (Nat.le_of_ble_eq_true rfl) (E_st (by decide +kernel) (vp_in_lt o16)) rfl (Nat.le_of_ble_eq_true rfl) _ (ent_pad 1 rfl) (l_X3_replace g _ _ _ (E_st (by decide +kernel) (vp_in_lt o16)) _ _ H) (fun v18 h17 H hzv18 => ?_)
        exact wm_iret (by decide +kernel) ⟨.int, rfl, rfl⟩ H
      · replace H := H.1 c15
        refine wm_aload_n 0 33 (by decide +kernel) rfl rfl ?_
        refine wm_ldc (-1000000001) 35 co_RX7_58 (by decide +kernel) rfl ?_
        refine wm_callVi mX7_found 1 7 [_] [] _ _ 38 mo_X7_found np_X7_found ml_RX7_59 im_X7_found se_X7_found (by decide +kernel) (by decide +kernel) rfl rfl rfl (Nat.le_of_ble_eq_true rfl) (by decide +kernel) rfl (Nat.le_of_ble_eq_true rfl) _ (ent_pad 1 rfl) (l_X7_found g _ _ _ H) (fun v20 h19 H hzv20 => ?_)
        exact wm_iret (by decide +kernel) ⟨.int, rfl, rfl⟩ H
def f_X7_change_J99 (x2 : Int32) (x3 : Int32) (a4 : Nat) (x5 : Int32)  (Q : Int32 → HP → Prop) (h : HP) : Prop :=
  (((x5 = 0) →
    f_X7_found (-1000000001 : Int32) h (fun v20 h19 =>
    Q v20 h19)) ∧
   (¬ (x5 = 0) →
    f_X0_replace a4 x2 x3 h (fun v22 h21 =>
    Q v22 h21)))
def f_X7_change (x1 : Int32) (x2 : Int32) (x3 : Int32) (h : HP) (Q : Int32 → HP → Prop) : Prop :=
  f_X6_hasLine 1 x1 h (fun v2 h1 =>
  (((v2 = 0) →
    f_X7_found (-1000000001 : Int32) h1 (fun v5 h4 =>
    Q v5 h4)) ∧
   (¬ (v2 = 0) →
    f_X7_isIn x2 0 7 h1 (fun v7 h6 =>
    (((v7 = 0) →
      f_X7_found (-1000000001 : Int32) h6 (fun v28 h27 =>
      Q v28 h27)) ∧
     (¬ (v7 = 0) →
      vp_in x1 10 ∧
      (((x2 = 1) →
        f_X6_areTwo 1 x3 (gi h6 (3 + 7 + 2 * ix x1) 2) h6 (fun v26 h25 =>
        f_X7_change_J99 x2 x3 (3 + 7 + 2 * ix x1) v26  Q h25)) ∧
       (¬ (x2 = 1) →
        (((x2 = 2) →
          f_X6_areTwo 1 (gi h6 (3 + 7 + 2 * ix x1) 1) x3 h6 (fun v24 h23 =>
          f_X7_change_J99 x2 x3 (3 + 7 + 2 * ix x1) v24  Q h23)) ∧
         (¬ (x2 = 2) →
          f_X0_least x2 h6 (fun v13 h12 =>
          f_X0_greatest x2 h12 (fun v15 h14 =>
          f_X7_isIn x3 v13 v15 h14 (fun v17 h16 =>
          f_X7_change_J99 x2 x3 (3 + 7 + 2 * ix x1) v17  Q h16)))))))))))))
set_option maxRecDepth 20000 in
theorem l_X7_change_J99 (g : GE) (x2 : Int32) (x3 : Int32) (a4 : Nat) (x5 : Int32) (ha4 : kd a4 = 0) (hzx5 : narrow .boolean (.int x5) = .int x5)  (Q : Int32 → HP → Prop)  (h : HP) (H : f_X7_change_J99 x2 x3 a4 x5  Q h) : Wm g mX7_change 99 [some (.ref 0), none, some (.int x2), some (.int x3), some (.ref a4), some (.int x5)] [] h (qi Q) := by
  unfold f_X7_change_J99 at H
  refine wm_iload 5 101 (by decide +kernel) rfl rfl ?_
  refine wm_if_eq 104 114 (by decide +kernel : decode cX7_change 101 = .ok (.ifCond .eq 13, 3)) (by decide) rfl (fun c18 => ?_) (fun c18 => ?_)
  · replace H := H.1 c18
    refine wm_aload_n 0 115 (by decide +kernel) rfl rfl ?_
    refine wm_ldc (-1000000001) 117 co_RX7_58 (by decide +kernel) rfl ?_
    refine wm_callVi mX7_found 1 7 [_] [] _ _ 120 mo_X7_found np_X7_found ml_RX7_59 im_X7_found se_X7_found (by decide +kernel) (by decide +kernel) rfl rfl rfl (Nat.le_of_ble_eq_true rfl) (by decide +kernel) rfl (Nat.le_of_ble_eq_true rfl) _ (ent_pad 1 rfl) (l_X7_found g _ _ _ H) (fun v20 h19 H hzv20 => ?_)
    exact wm_iret (by decide +kernel) ⟨.int, rfl, rfl⟩ H
  · replace H := H.2 c18
    refine wm_aload 4 106 (by decide +kernel) rfl rfl ?_
    refine wm_iload_n 2 107 (by decide +kernel) rfl rfl ?_
    refine wm_iload_n 3 108 (by decide +kernel) rfl rfl ?_
    refine wm_callVi mX0_replace 2 0 [_, _] [] _ _ 111 mo_X0_replace np_X0_replace ml_RX7_158 im_X0_replace se_X0_replace (by decide +kernel) (by decide +kernel) rfl rfl rfl (Nat.le_of_ble_eq_true rfl) ha4 rfl (Nat.le_of_ble_eq_true rfl) _ (ent_pad 1 rfl) (l_X0_replace g _ _ _ ha4 _ _ H) (fun v22 h21 H hzv22 => ?_)
    refine wm_goto 120 (by decide +kernel : decode cX7_change 111 = .ok (.goto 9, 3)) (by decide) ?_
    exact wm_iret (by decide +kernel) ⟨.int, rfl, rfl⟩ H
set_option maxRecDepth 20000 in
theorem l_X7_change (g : GE) (x1 : Int32) (x2 : Int32) (x3 : Int32)  (h : HP) (Q : Int32 → HP → Prop) (H : f_X7_change x1 x2 x3 h Q) : Wm g mX7_change 0 [some (.ref 0), some (.int x1), some (.int x2), some (.int x3), none, none] [] h (qi Q) := by
  unfold f_X7_change at H
  refine wm_aload_n 0 1 (by decide +kernel) rfl rfl ?_
  refine wm_getr 7 0 1 1 4 fl_RX7_10 (by decide +kernel) rfl (by decide +kernel) rfl rfl (by decide) ?_
  refine wm_iload_n 1 5 (by decide +kernel) rfl rfl ?_
  refine wm_callVi mX6_hasLine 1 6 [_] [] _ _ 8 mo_X6_hasLine np_X6_hasLine ml_RX7_123 im_X6_hasLine se_X6_hasLine (by decide +kernel) (by decide +kernel) rfl rfl rfl (Nat.le_of_ble_eq_true rfl) (by decide +kernel) rfl (Nat.le_of_ble_eq_true rfl) _ (ent_pad 0 rfl) (l_X6_hasLine g _ _ (by decide +kernel) _ _ H) (fun v2 h1 H hzv2 => ?_)
  refine wm_if_eq 11 21 (by decide +kernel : decode cX7_change 8 = .ok (.ifCond .eq 13, 3)) (by decide) rfl (fun c3 => ?_) (fun c3 => ?_)
  · replace H := H.1 c3
    refine wm_aload_n 0 22 (by decide +kernel) rfl rfl ?_
    refine wm_ldc (-1000000001) 24 co_RX7_58 (by decide +kernel) rfl ?_
    refine wm_callVi mX7_found 1 7 [_] [] _ _ 27 mo_X7_found np_X7_found ml_RX7_59 im_X7_found se_X7_found (by decide +kernel) (by decide +kernel) rfl rfl rfl (Nat.le_of_ble_eq_true rfl) (by decide +kernel) rfl (Nat.le_of_ble_eq_true rfl) _ (ent_pad 1 rfl) (l_X7_found g _ _ _ H) (fun v5 h4 H hzv5 => ?_)
    exact wm_iret (by decide +kernel) ⟨.int, rfl, rfl⟩ H
  · replace H := H.2 c3
    refine wm_iload_n 2 12 (by decide +kernel) rfl rfl ?_
    refine wm_iconst 0 13 (by decide +kernel : decode cX7_change 12 = .ok (.iconst 0, 1)) rfl (by decide +kernel) ?_
    refine wm_bipush 7 15 (by decide +kernel : decode cX7_change 13 = .ok (.bipush 7, 2)) rfl (by decide +kernel) ?_
    refine wm_callSi mX7_isIn 3 [_, _, _] [] _ _ 18 mo_X7_isIn np_X7_isIn ml_RX7_54 sc_X7_isIn (by decide +kernel) (by decide +kernel) rfl rfl rfl (Nat.le_of_ble_eq_true rfl) (Nat.le_of_ble_eq_true rfl) _ (ent_pad 0 rfl) (l_X7_isIn g _ _ _ _ _ H) (fun v7 h6 H hzv7 => ?_)
    refine wm_if_ne 21 28 (by decide +kernel : decode cX7_change 18 = .ok (.ifCond .ne 10, 3)) (by decide) rfl (fun c8 => ?_) (fun c8 => ?_)
    · replace H := H.2 c8
      refine wm_aload_n 0 29 (by decide +kernel) rfl rfl ?_
      refine wm_getr 7 0 1 1 32 fl_RX7_10 (by decide +kernel) rfl (by decide +kernel) rfl rfl (by decide) ?_
      refine wm_getr 6 5 2 3 35 fl_RX7_83 (by decide +kernel) rfl (by decide +kernel) rfl rfl (by decide) ?_
      refine wm_iload_n 1 36 (by decide +kernel) rfl rfl ?_
      obtain ⟨o9, H⟩ := H
      refine wm_aald 10 _ 37 (by decide +kernel) rfl (Or.inr (Or.inl ⟨(by decide +kernel), rfl⟩)) (by decide +kernel) o9 ?_
      refine wm_astore 4 39 [some _, some _, some _, some _, some _, none] (by decide +kernel) rfl (by decide +kernel) (okS_spec rfl) rfl ?_
      refine wm_iload_n 2 40 (by decide +kernel) rfl rfl ?_
      refine wm_iconst 1 41 (by decide +kernel : decode cX7_change 40 = .ok (.iconst 1, 1)) rfl (by decide +kernel) ?_
      refine wm_icmp_ne 44 62 (by decide +kernel : decode cX7_change 41 = .ok (.if_icmp .ne 21, 3)) (by decide) rfl (fun c10 => ?_) (fun c10 => ?_)
      · replace H := H.2 c10
        refine wm_iload_n 2 63 (by decide +kernel) rfl rfl ?_
        refine wm_iconst 2 64 (by decide +kernel : decode cX7_change 63 = .ok (.iconst 2, 1)) rfl (by decide +kernel) ?_
        refine wm_icmp_ne 67 85 (by decide +kernel : decode cX7_change 64 = .ok (.if_icmp .ne 21, 3)) (by decide) rfl (fun c11 => ?_) (fun c11 => ?_)
        · replace H := H.2 c11
          refine wm_iload_n 3 86 (by decide +kernel) rfl rfl ?_
          refine wm_iload_n 2 87 (by decide +kernel) rfl rfl ?_
          refine wm_callSi mX0_least 1 [_] [_] _ _ 90 mo_X0_least np_X0_least ml_RX7_154 sc_X0_least (by decide +kernel) (by decide +kernel) rfl rfl rfl (Nat.le_of_ble_eq_true rfl) (Nat.le_of_ble_eq_true rfl) _ (ent_pad 0 rfl) (l_X0_least g _ _ _ H) (fun v13 h12 H hzv13 => ?_)
          refine wm_iload_n 2 91 (by decide +kernel) rfl rfl ?_
          refine wm_callSi mX0_greatest 1 [_] [_, _] _ _ 94 mo_X0_greatest np_X0_greatest ml_RX7_157 sc_X0_greatest (by decide +kernel) (by decide +kernel) rfl rfl rfl (Nat.le_of_ble_eq_true rfl) (Nat.le_of_ble_eq_true rfl) _ (ent_pad 0 rfl) (l_X0_greatest g _ _ _ H) (fun v15 h14 H hzv15 => ?_)
          refine wm_callSi mX7_isIn 3 [_, _, _] [] _ _ 97 mo_X7_isIn np_X7_isIn ml_RX7_54 sc_X7_isIn (by decide +kernel) (by decide +kernel) rfl rfl rfl (Nat.le_of_ble_eq_true rfl) (Nat.le_of_ble_eq_true rfl) _ (ent_pad 0 rfl) (l_X7_isIn g _ _ _ _ _ H) (fun v17 h16 H hzv17 => ?_)
          refine wm_istore 5 99 [some _, some _, some _, some _, some _, some _] (by decide +kernel) rfl (by decide +kernel) (okS_spec rfl) rfl ?_
          refine wm_mask [true, false, true, true, true, true] [some _, none, some _, some _, some _, some _] rfl ?_
          exact l_X7_change_J99 g _ _ _ _ (E_ln (by decide +kernel) (vp_in_lt o9)) (rv_bool hzv17 rfl) _  _ H
        · replace H := H.1 c11
          refine wm_aload_n 0 68 (by decide +kernel) rfl rfl ?_
          refine wm_getr 7 0 1 1 71 fl_RX7_10 (by decide +kernel) rfl (by decide +kernel) rfl rfl (by decide) ?_
          refine wm_aload 4 73 (by decide +kernel) rfl rfl ?_
          refine wm_geti 0 1 76 fl_RX7_151 (by decide +kernel) rfl (E_ln (by decide +kernel) (vp_in_lt o9)) rfl ?_
          refine wm_iload_n 3 77 (by decide +kernel) rfl rfl ?_
          refine wm_callVi mX6_areTwo 2 6 [_, _] [] _ _ 80 mo_X6_areTwo np_X6_areTwo ml_RX7_72 im_X6_areTwo se_X6_areTwo (by decide +kernel) (by decide +kernel) rfl rfl rfl (Nat.le_of_ble_eq_true rfl) (by decide +kernel) rfl (Nat.le_of_ble_eq_true rfl) _ (ent_pad 0 rfl) (l_X6_areTwo g _ _ _ (by decide +kernel) _ _ H) (fun v24 h23 H hzv24 => ?_)
          refine wm_istore 5 82 [some _, some _, some _, some _, some _, some _] (by decide +kernel) rfl (by decide +kernel) (okS_spec rfl) rfl ?_
          refine wm_goto 99 (by decide +kernel : decode cX7_change 82 = .ok (.goto 17, 3)) (by decide) ?_
          refine wm_mask [true, false, true, true, true, true] [some _, none, some _, some _, some _, some _] rfl ?_
          exact l_X7_change_J99 g _ _ _ _ (E_ln (by decide +kernel) (vp_in_lt o9)) (rv_bool hzv24 rfl) _  _ H
      · replace H := H.1 c10
        refine wm_aload_n 0 45 (by decide +kernel) rfl rfl ?_
        refine wm_getr 7 0 1 1 48 fl_RX7_10 (by decide +kernel) rfl (by decide +kernel) rfl rfl (by decide) ?_
        refine wm_iload_n 3 49 (by decide +kernel) rfl rfl ?_
        refine wm_aload 4 51 (by decide +kernel) rfl rfl ?_
        refine wm_geti 0 2 54 fl_RX7_148 (by decide +kernel) rfl (E_ln (by decide +kernel) (vp_in_lt o9)) rfl ?_
        refine wm_callVi mX6_areTwo 2 6 [_, _] [] _ _ 57 mo_X6_areTwo np_X6_areTwo ml_RX7_72 im_X6_areTwo se_X6_areTwo (by decide +kernel) (by decide +kernel) rfl rfl rfl (Nat.le_of_ble_eq_true rfl) (by decide +kernel) rfl (Nat.le_of_ble_eq_true rfl) _ (ent_pad 0 rfl) (l_X6_areTwo g _ _ _ (by decide +kernel) _ _ H) (fun v26 h25 H hzv26 => ?_)
        refine wm_istore 5 59 [some _, some _, some _, some _, some _, some _] (by decide +kernel) rfl (by decide +kernel) (okS_spec rfl) rfl ?_
        refine wm_goto 99 (by decide +kernel : decode cX7_change 59 = .ok (.goto 40, 3)) (by decide) ?_
        refine wm_mask [true, false, true, true, true, true] [some _, none, some _, some _, some _, some _] rfl ?_
        exact l_X7_change_J99 g _ _ _ _ (E_ln (by decide +kernel) (vp_in_lt o9)) (rv_bool hzv26 rfl) _  _ H
    · replace H := H.1 c8
      refine wm_aload_n 0 22 (by decide +kernel) rfl rfl ?_
      refine wm_ldc (-1000000001) 24 co_RX7_58 (by decide +kernel) rfl ?_
      refine wm_callVi mX7_found 1 7 [_] [] _ _ 27 mo_X7_found np_X7_found ml_RX7_59 im_X7_found se_X7_found (by decide +kernel) (by decide +kernel) rfl rfl rfl (Nat.le_of_ble_eq_true rfl) (by decide +kernel) rfl (Nat.le_of_ble_eq_true rfl) _ (ent_pad 1 rfl) (l_X7_found g _ _ _ H) (fun v28 h27 H hzv28 => ?_)
      exact wm_iret (by decide +kernel) ⟨.int, rfl, rfl⟩ H
def f_X7_as (x1 : Int32) (x2 : Int32) (h : HP) (Q : Int32 → HP → Prop) : Prop :=
  f_X6_hasLine 1 x1 h (fun v2 h1 =>
  (((v2 = 0) →
    f_X7_found (-1000000001 : Int32) h1 (fun v5 h4 =>
    Q v5 h4)) ∧
   (¬ (v2 = 0) →
    f_X7_isIn x2 0 5 h1 (fun v7 h6 =>
    (((v7 = 0) →
      f_X7_found (-1000000001 : Int32) h6 (fun v16 h15 =>
      Q v16 h15)) ∧
     (¬ (v7 = 0) →
      vp_in x1 10 ∧
      f_X7_isUnder 5001 (gi h6 (3 + 7 + 2 * ix x1) 0) x2 h6 (fun v11 h10 =>
      (((v11 = 0) →
        f_X7_found (-1000000003 : Int32) h10 (fun v14 h13 =>
        Q v14 h13)) ∧
       (¬ (v11 = 0) →
        Q (gi h10 (3 + 7 + 2 * ix x1) 3) h10)))))))))
set_option maxRecDepth 20000 in
theorem l_X7_as (g : GE) (x1 : Int32) (x2 : Int32)  (h : HP) (Q : Int32 → HP → Prop) (H : f_X7_as x1 x2 h Q) : Wm g mX7_as 0 [some (.ref 0), some (.int x1), some (.int x2), none] [] h (qi Q) := by
  unfold f_X7_as at H
  refine wm_aload_n 0 1 (by decide +kernel) rfl rfl ?_
  refine wm_getr 7 0 1 1 4 fl_RX7_10 (by decide +kernel) rfl (by decide +kernel) rfl rfl (by decide) ?_
  refine wm_iload_n 1 5 (by decide +kernel) rfl rfl ?_
  refine wm_callVi mX6_hasLine 1 6 [_] [] _ _ 8 mo_X6_hasLine np_X6_hasLine ml_RX7_123 im_X6_hasLine se_X6_hasLine (by decide +kernel) (by decide +kernel) rfl rfl rfl (Nat.le_of_ble_eq_true rfl) (by decide +kernel) rfl (Nat.le_of_ble_eq_true rfl) _ (ent_pad 0 rfl) (l_X6_hasLine g _ _ (by decide +kernel) _ _ H) (fun v2 h1 H hzv2 => ?_)
  refine wm_if_eq 11 20 (by decide +kernel : decode cX7_as 8 = .ok (.ifCond .eq 12, 3)) (by decide) rfl (fun c3 => ?_) (fun c3 => ?_)
  · replace H := H.1 c3
    refine wm_aload_n 0 21 (by decide +kernel) rfl rfl ?_
    refine wm_ldc (-1000000001) 23 co_RX7_58 (by decide +kernel) rfl ?_
    refine wm_callVi mX7_found 1 7 [_] [] _ _ 26 mo_X7_found np_X7_found ml_RX7_59 im_X7_found se_X7_found (by decide +kernel) (by decide +kernel) rfl rfl rfl (Nat.le_of_ble_eq_true rfl) (by decide +kernel) rfl (Nat.le_of_ble_eq_true rfl) _ (ent_pad 1 rfl) (l_X7_found g _ _ _ H) (fun v5 h4 H hzv5 => ?_)
    exact wm_iret (by decide +kernel) ⟨.int, rfl, rfl⟩ H
  · replace H := H.2 c3
    refine wm_iload_n 2 12 (by decide +kernel) rfl rfl ?_
    refine wm_iconst 0 13 (by decide +kernel : decode cX7_as 12 = .ok (.iconst 0, 1)) rfl (by decide +kernel) ?_
    refine wm_iconst 5 14 (by decide +kernel : decode cX7_as 13 = .ok (.iconst 5, 1)) rfl (by decide +kernel) ?_
    refine wm_callSi mX7_isIn 3 [_, _, _] [] _ _ 17 mo_X7_isIn np_X7_isIn ml_RX7_54 sc_X7_isIn (by decide +kernel) (by decide +kernel) rfl rfl rfl (Nat.le_of_ble_eq_true rfl) (Nat.le_of_ble_eq_true rfl) _ (ent_pad 0 rfl) (l_X7_isIn g _ _ _ _ _ H) (fun v7 h6 H hzv7 => ?_)
    refine wm_if_ne 20 27 (by decide +kernel : decode cX7_as 17 = .ok (.ifCond .ne 10, 3)) (by decide) rfl (fun c8 => ?_) (fun c8 => ?_)
    · replace H := H.2 c8
      refine wm_aload_n 0 28 (by decide +kernel) rfl rfl ?_
      refine wm_getr 7 0 1 1 31 fl_RX7_10 (by decide +kernel) rfl (by decide +kernel) rfl rfl (by decide) ?_
      refine wm_getr 6 5 2 3 34 fl_RX7_83 (by decide +kernel) rfl (by decide +kernel) rfl rfl (by decide) ?_
      refine wm_iload_n 1 35 (by decide +kernel) rfl rfl ?_
      obtain ⟨o9, H⟩ := H
      refine wm_aald 10 _ 36 (by decide +kernel) rfl (Or.inr (Or.inl ⟨(by decide +kernel), rfl⟩)) (by decide +kernel) o9 ?_
      refine wm_astore_n 3 37 [some _, some _, some _, some _] (by decide +kernel) rfl (by decide +kernel) (okS_spec rfl) rfl ?_
      refine wm_gets (i := 159) 5001 40 (Or.inl ⟨rfl, lwg_2 196 (by decide +kernel) rfl⟩) (by decide +kernel) rfl ?_
      refine wm_aload_n 3 41 (by decide +kernel) rfl rfl ?_
      refine wm_geti 0 0 44 fl_RX7_162 (by decide +kernel) rfl (E_ln (by decide +kernel) (vp_in_lt o9)) rfl ?_
      refine wm_iload_n 2 45 (by decide +kernel) rfl rfl ?_
      refine wm_callSi mX7_isUnder 3 [_, _, _] [] _ _ 48 mo_X7_isUnder np_X7_isUnder ml_RX7_163 sc_X7_isUnder (by decide +kernel) (by decide +kernel) rfl rfl rfl (Nat.le_of_ble_eq_true rfl) (Nat.le_of_ble_eq_true rfl) _ (ent_pad 2 rfl) (l_X7_isUnder g _ _ _ (Or.inl rfl) _ _ H) (fun v11 h10 H hzv11 => ?_)
      refine wm_if_eq 51 58 (by decide +kernel : decode cX7_as 48 = .ok (.ifCond .eq 10, 3)) (by decide) rfl (fun c12 => ?_) (fun c12 => ?_)
      · replace H := H.1 c12
        refine wm_aload_n 0 59 (by decide +kernel) rfl rfl ?_
        refine wm_ldc (-1000000003) 61 co_RX7_167 (by decide +kernel) rfl ?_
        refine wm_callVi mX7_found 1 7 [_] [] _ _ 64 mo_X7_found np_X7_found ml_RX7_59 im_X7_found se_X7_found (by decide +kernel) (by decide +kernel) rfl rfl rfl (Nat.le_of_ble_eq_true rfl) (by decide +kernel) rfl (Nat.le_of_ble_eq_true rfl) _ (ent_pad 1 rfl) (l_X7_found g _ _ _ H) (fun v14 h13 H hzv14 => ?_)
        exact wm_iret (by decide +kernel) ⟨.int, rfl, rfl⟩ H
      · replace H := H.2 c12
        refine wm_aload_n 3 52 (by decide +kernel) rfl rfl ?_
        refine wm_geti 0 3 55 fl_RX7_87 (by decide +kernel) rfl (E_ln (by decide +kernel) (vp_in_lt o9)) rfl ?_
        refine wm_goto 64 (by decide +kernel : decode cX7_as 55 = .ok (.goto 9, 3)) (by decide) ?_
        exact wm_iret (by decide +kernel) ⟨.int, rfl, rfl⟩ H
    · replace H := H.1 c8
      refine wm_aload_n 0 21 (by decide +kernel) rfl rfl ?_
      refine wm_ldc (-1000000001) 23 co_RX7_58 (by decide +kernel) rfl ?_
      refine wm_callVi mX7_found 1 7 [_] [] _ _ 26 mo_X7_found np_X7_found ml_RX7_59 im_X7_found se_X7_found (by decide +kernel) (by decide +kernel) rfl rfl rfl (Nat.le_of_ble_eq_true rfl) (by decide +kernel) rfl (Nat.le_of_ble_eq_true rfl) _ (ent_pad 1 rfl) (l_X7_found g _ _ _ H) (fun v16 h15 H hzv16 => ?_)
      exact wm_iret (by decide +kernel) ⟨.int, rfl, rfl⟩ H
def f_X7_stands (x1 : Int32) (x2 : Int32) (h : HP) (Q : Int32 → HP → Prop) : Prop :=
  f_X6_hasStation 1 x1 h (fun v2 h1 =>
  (((v2 = 0) →
    f_X7_found (-1000000001 : Int32) h1 (fun v5 h4 =>
    Q v5 h4)) ∧
   (¬ (v2 = 0) →
    f_X7_isIn x2 0 3 h1 (fun v7 h6 =>
    (((v7 = 0) →
      f_X7_found (-1000000001 : Int32) h6 (fun v16 h15 =>
      Q v16 h15)) ∧
     (¬ (v7 = 0) →
      vp_in x1 6 ∧
      f_X7_isUnder 5002 (gi h6 (2 + 2 + ix x1) 0) x2 h6 (fun v11 h10 =>
      (((v11 = 0) →
        f_X7_found (-1000000003 : Int32) h10 (fun v14 h13 =>
        Q v14 h13)) ∧
       (¬ (v11 = 0) →
        Q (gi h10 (2 + 2 + ix x1) 2) h10)))))))))
set_option maxRecDepth 20000 in
theorem l_X7_stands (g : GE) (x1 : Int32) (x2 : Int32)  (h : HP) (Q : Int32 → HP → Prop) (H : f_X7_stands x1 x2 h Q) : Wm g mX7_stands 0 [some (.ref 0), some (.int x1), some (.int x2), none] [] h (qi Q) := by
  unfold f_X7_stands at H
  refine wm_aload_n 0 1 (by decide +kernel) rfl rfl ?_
  refine wm_getr 7 0 1 1 4 fl_RX7_10 (by decide +kernel) rfl (by decide +kernel) rfl rfl (by decide) ?_
  refine wm_iload_n 1 5 (by decide +kernel) rfl rfl ?_
  refine wm_callVi mX6_hasStation 1 6 [_] [] _ _ 8 mo_X6_hasStation np_X6_hasStation ml_RX7_95 im_X6_hasStation se_X6_hasStation (by decide +kernel) (by decide +kernel) rfl rfl rfl (Nat.le_of_ble_eq_true rfl) (by decide +kernel) rfl (Nat.le_of_ble_eq_true rfl) _ (ent_pad 0 rfl) (l_X6_hasStation g _ _ (by decide +kernel) _ _ H) (fun v2 h1 H hzv2 => ?_)
  refine wm_if_eq 11 20 (by decide +kernel : decode cX7_stands 8 = .ok (.ifCond .eq 12, 3)) (by decide) rfl (fun c3 => ?_) (fun c3 => ?_)
  · replace H := H.1 c3
    refine wm_aload_n 0 21 (by decide +kernel) rfl rfl ?_
    refine wm_ldc (-1000000001) 23 co_RX7_58 (by decide +kernel) rfl ?_
    refine wm_callVi mX7_found 1 7 [_] [] _ _ 26 mo_X7_found np_X7_found ml_RX7_59 im_X7_found se_X7_found (by decide +kernel) (by decide +kernel) rfl rfl rfl (Nat.le_of_ble_eq_true rfl) (by decide +kernel) rfl (Nat.le_of_ble_eq_true rfl) _ (ent_pad 1 rfl) (l_X7_found g _ _ _ H) (fun v5 h4 H hzv5 => ?_)
    exact wm_iret (by decide +kernel) ⟨.int, rfl, rfl⟩ H
  · replace H := H.2 c3
    refine wm_iload_n 2 12 (by decide +kernel) rfl rfl ?_
    refine wm_iconst 0 13 (by decide +kernel : decode cX7_stands 12 = .ok (.iconst 0, 1)) rfl (by decide +kernel) ?_
    refine wm_iconst 3 14 (by decide +kernel : decode cX7_stands 13 = .ok (.iconst 3, 1)) rfl (by decide +kernel) ?_
    refine wm_callSi mX7_isIn 3 [_, _, _] [] _ _ 17 mo_X7_isIn np_X7_isIn ml_RX7_54 sc_X7_isIn (by decide +kernel) (by decide +kernel) rfl rfl rfl (Nat.le_of_ble_eq_true rfl) (Nat.le_of_ble_eq_true rfl) _ (ent_pad 0 rfl) (l_X7_isIn g _ _ _ _ _ H) (fun v7 h6 H hzv7 => ?_)
    refine wm_if_ne 20 27 (by decide +kernel : decode cX7_stands 17 = .ok (.ifCond .ne 10, 3)) (by decide) rfl (fun c8 => ?_) (fun c8 => ?_)
    · replace H := H.2 c8
      refine wm_aload_n 0 28 (by decide +kernel) rfl rfl ?_
      refine wm_getr 7 0 1 1 31 fl_RX7_10 (by decide +kernel) rfl (by decide +kernel) rfl rfl (by decide) ?_
      refine wm_getr 6 4 1 2 34 fl_RX7_99 (by decide +kernel) rfl (by decide +kernel) rfl rfl (by decide) ?_
      refine wm_iload_n 1 35 (by decide +kernel) rfl rfl ?_
      obtain ⟨o9, H⟩ := H
      refine wm_aald 6 _ 36 (by decide +kernel) rfl (Or.inl ⟨(by decide +kernel), rfl⟩) (by decide +kernel) o9 ?_
      refine wm_astore_n 3 37 [some _, some _, some _, some _] (by decide +kernel) rfl (by decide +kernel) (okS_spec rfl) rfl ?_
      refine wm_gets (i := 168) 5002 40 (Or.inr ⟨rfl, lwg_2 206 (by decide +kernel) rfl⟩) (by decide +kernel) rfl ?_
      refine wm_aload_n 3 41 (by decide +kernel) rfl rfl ?_
      refine wm_geti 3 0 44 fl_RX7_103 (by decide +kernel) rfl (E_st (by decide +kernel) (vp_in_lt o9)) rfl ?_
      refine wm_iload_n 2 45 (by decide +kernel) rfl rfl ?_
      refine wm_callSi mX7_isUnder 3 [_, _, _] [] _ _ 48 mo_X7_isUnder np_X7_isUnder ml_RX7_163 sc_X7_isUnder (by decide +kernel) (by decide +kernel) rfl rfl rfl (Nat.le_of_ble_eq_true rfl) (Nat.le_of_ble_eq_true rfl) _ (ent_pad 2 rfl) (l_X7_isUnder g _ _ _ (Or.inr rfl) _ _ H) (fun v11 h10 H hzv11 => ?_)
      refine wm_if_eq 51 58 (by decide +kernel : decode cX7_stands 48 = .ok (.ifCond .eq 10, 3)) (by decide) rfl (fun c12 => ?_) (fun c12 => ?_)
      · replace H := H.1 c12
        refine wm_aload_n 0 59 (by decide +kernel) rfl rfl ?_
        refine wm_ldc (-1000000003) 61 co_RX7_167 (by decide +kernel) rfl ?_
        refine wm_callVi mX7_found 1 7 [_] [] _ _ 64 mo_X7_found np_X7_found ml_RX7_59 im_X7_found se_X7_found (by decide +kernel) (by decide +kernel) rfl rfl rfl (Nat.le_of_ble_eq_true rfl) (by decide +kernel) rfl (Nat.le_of_ble_eq_true rfl) _ (ent_pad 1 rfl) (l_X7_found g _ _ _ H) (fun v14 h13 H hzv14 => ?_)
        exact wm_iret (by decide +kernel) ⟨.int, rfl, rfl⟩ H
      · replace H := H.2 c12
        refine wm_aload_n 3 52 (by decide +kernel) rfl rfl ?_
        refine wm_geti 3 2 55 fl_RX7_111 (by decide +kernel) rfl (E_st (by decide +kernel) (vp_in_lt o9)) rfl ?_
        refine wm_goto 64 (by decide +kernel : decode cX7_stands 55 = .ok (.goto 9, 3)) (by decide) ?_
        exact wm_iret (by decide +kernel) ⟨.int, rfl, rfl⟩ H
    · replace H := H.1 c8
      refine wm_aload_n 0 21 (by decide +kernel) rfl rfl ?_
      refine wm_ldc (-1000000001) 23 co_RX7_58 (by decide +kernel) rfl ?_
      refine wm_callVi mX7_found 1 7 [_] [] _ _ 26 mo_X7_found np_X7_found ml_RX7_59 im_X7_found se_X7_found (by decide +kernel) (by decide +kernel) rfl rfl rfl (Nat.le_of_ble_eq_true rfl) (by decide +kernel) rfl (Nat.le_of_ble_eq_true rfl) _ (ent_pad 1 rfl) (l_X7_found g _ _ _ H) (fun v16 h15 H hzv16 => ?_)
      exact wm_iret (by decide +kernel) ⟨.int, rfl, rfl⟩ H
def f_X7_send (x1 : Int32) (x2 : Int32) (h : HP) (Q : Int32 → HP → Prop) : Prop :=
  f_X6_hasLine 1 x1 h (fun v2 h1 =>
  (((v2 = 0) →
    f_X7_found (-1000000001 : Int32) h1 (fun v5 h4 =>
    Q v5 h4)) ∧
   (¬ (v2 = 0) →
    f_X7_isIn x2 0 9999 h1 (fun v7 h6 =>
    (((v7 = 0) →
      f_X7_found (-1000000001 : Int32) h6 (fun v17 h16 =>
      Q v17 h16)) ∧
     (¬ (v7 = 0) →
      f_X6_dispatch 1 ((x1 : Int32).toInt64) ((x2 : Int32).toInt64) h6 (fun v10 h9 =>
      (((v10 = 0) →
        f_X7_found (-1000000005 : Int32) h9 (fun v15 h14 =>
        Q v15 h14)) ∧
       (¬ (v10 = 0) →
        vp_in x1 10 ∧
        vp_in (gi h9 (3 + 7 + 2 * ix x1) 1) 6 ∧
        Q (gi h9 (2 + 2 + ix (gi h9 (3 + 7 + 2 * ix x1) 1)) 1) h9)))))))))
set_option maxRecDepth 20000 in
theorem l_X7_send (g : GE) (x1 : Int32) (x2 : Int32)  (h : HP) (Q : Int32 → HP → Prop) (H : f_X7_send x1 x2 h Q) : Wm g mX7_send 0 [some (.ref 0), some (.int x1), some (.int x2)] [] h (qi Q) := by
  unfold f_X7_send at H
  refine wm_aload_n 0 1 (by decide +kernel) rfl rfl ?_
  refine wm_getr 7 0 1 1 4 fl_RX7_10 (by decide +kernel) rfl (by decide +kernel) rfl rfl (by decide) ?_
  refine wm_iload_n 1 5 (by decide +kernel) rfl rfl ?_
  refine wm_callVi mX6_hasLine 1 6 [_] [] _ _ 8 mo_X6_hasLine np_X6_hasLine ml_RX7_123 im_X6_hasLine se_X6_hasLine (by decide +kernel) (by decide +kernel) rfl rfl rfl (Nat.le_of_ble_eq_true rfl) (by decide +kernel) rfl (Nat.le_of_ble_eq_true rfl) _ (ent_pad 0 rfl) (l_X6_hasLine g _ _ (by decide +kernel) _ _ H) (fun v2 h1 H hzv2 => ?_)
  refine wm_if_eq 11 22 (by decide +kernel : decode cX7_send 8 = .ok (.ifCond .eq 14, 3)) (by decide) rfl (fun c3 => ?_) (fun c3 => ?_)
  · replace H := H.1 c3
    refine wm_aload_n 0 23 (by decide +kernel) rfl rfl ?_
    refine wm_ldc (-1000000001) 25 co_RX7_58 (by decide +kernel) rfl ?_
    refine wm_callVi mX7_found 1 7 [_] [] _ _ 28 mo_X7_found np_X7_found ml_RX7_59 im_X7_found se_X7_found (by decide +kernel) (by decide +kernel) rfl rfl rfl (Nat.le_of_ble_eq_true rfl) (by decide +kernel) rfl (Nat.le_of_ble_eq_true rfl) _ (ent_pad 1 rfl) (l_X7_found g _ _ _ H) (fun v5 h4 H hzv5 => ?_)
    exact wm_iret (by decide +kernel) ⟨.int, rfl, rfl⟩ H
  · replace H := H.2 c3
    refine wm_iload_n 2 12 (by decide +kernel) rfl rfl ?_
    refine wm_iconst 0 13 (by decide +kernel : decode cX7_send 12 = .ok (.iconst 0, 1)) rfl (by decide +kernel) ?_
    refine wm_sipush 9999 16 (by decide +kernel : decode cX7_send 13 = .ok (.sipush 9999, 3)) rfl (by decide +kernel) ?_
    refine wm_callSi mX7_isIn 3 [_, _, _] [] _ _ 19 mo_X7_isIn np_X7_isIn ml_RX7_54 sc_X7_isIn (by decide +kernel) (by decide +kernel) rfl rfl rfl (Nat.le_of_ble_eq_true rfl) (Nat.le_of_ble_eq_true rfl) _ (ent_pad 0 rfl) (l_X7_isIn g _ _ _ _ _ H) (fun v7 h6 H hzv7 => ?_)
    refine wm_if_ne 22 29 (by decide +kernel : decode cX7_send 19 = .ok (.ifCond .ne 10, 3)) (by decide) rfl (fun c8 => ?_) (fun c8 => ?_)
    · replace H := H.2 c8
      refine wm_aload_n 0 30 (by decide +kernel) rfl rfl ?_
      refine wm_getr 7 0 1 1 33 fl_RX7_10 (by decide +kernel) rfl (by decide +kernel) rfl rfl (by decide) ?_
      refine wm_iload_n 1 34 (by decide +kernel) rfl rfl ?_
      refine wm_i2l 35 (by decide +kernel) rfl ?_
      refine wm_iload_n 2 36 (by decide +kernel) rfl rfl ?_
      refine wm_i2l 37 (by decide +kernel) rfl ?_
      refine wm_callVi mX6_dispatch 2 6 [_, _] [] _ _ 40 mo_X6_dispatch np_X6_dispatch ml_RX7_171 im_X6_dispatch se_X6_dispatch (by decide +kernel) (by decide +kernel) rfl rfl rfl (Nat.le_of_ble_eq_true rfl) (by decide +kernel) rfl (Nat.le_of_ble_eq_true rfl) _ (ent_pad 2 rfl) (l_X6_dispatch g _ _ _ (by decide +kernel) _ _ H) (fun v10 h9 H hzv10 => ?_)
      refine wm_if_ne 43 50 (by decide +kernel : decode cX7_send 40 = .ok (.ifCond .ne 10, 3)) (by decide) rfl (fun c11 => ?_) (fun c11 => ?_)
      · replace H := H.2 c11
        refine wm_aload_n 0 51 (by decide +kernel) rfl rfl ?_
        refine wm_getr 7 0 1 1 54 fl_RX7_10 (by decide +kernel) rfl (by decide +kernel) rfl rfl (by decide) ?_
        refine wm_getr 6 4 1 2 57 fl_RX7_99 (by decide +kernel) rfl (by decide +kernel) rfl rfl (by decide) ?_
        refine wm_aload_n 0 58 (by decide +kernel) rfl rfl ?_
        refine wm_getr 7 0 1 1 61 fl_RX7_10 (by decide +kernel) rfl (by decide +kernel) rfl rfl (by decide) ?_
        refine wm_getr 6 5 2 3 64 fl_RX7_83 (by decide +kernel) rfl (by decide +kernel) rfl rfl (by decide) ?_
        refine wm_iload_n 1 65 (by decide +kernel) rfl rfl ?_
        obtain ⟨o12, H⟩ := H
        refine wm_aald 10 _ 66 (by decide +kernel) rfl (Or.inr (Or.inl ⟨(by decide +kernel), rfl⟩)) (by decide +kernel) o12 ?_
        refine wm_geti 0 1 69 fl_RX7_151 (by decide +kernel) rfl (E_ln (by decide +kernel) (vp_in_lt o12)) rfl ?_
        obtain ⟨o13, H⟩ := H
        refine wm_aald 6 _ 70 (by decide +kernel) rfl (Or.inl ⟨(by decide +kernel), rfl⟩) (by decide +kernel) o13 ?_
        refine wm_geti 3 1 73 fl_RX7_108 (by decide +kernel) rfl (E_st (by decide +kernel) (vp_in_lt o13)) rfl ?_
        exact wm_iret (by decide +kernel) ⟨.int, rfl, rfl⟩ H
      · replace H := H.1 c11
        refine wm_aload_n 0 44 (by decide +kernel) rfl rfl ?_
        refine wm_ldc (-1000000005) 46 co_RX7_175 (by decide +kernel) rfl ?_
        refine wm_callVi mX7_found 1 7 [_] [] _ _ 49 mo_X7_found np_X7_found ml_RX7_59 im_X7_found se_X7_found (by decide +kernel) (by decide +kernel) rfl rfl rfl (Nat.le_of_ble_eq_true rfl) (by decide +kernel) rfl (Nat.le_of_ble_eq_true rfl) _ (ent_pad 1 rfl) (l_X7_found g _ _ _ H) (fun v15 h14 H hzv15 => ?_)
        exact wm_iret (by decide +kernel) ⟨.int, rfl, rfl⟩ H
    · replace H := H.1 c8
      refine wm_aload_n 0 23 (by decide +kernel) rfl rfl ?_
      refine wm_ldc (-1000000001) 25 co_RX7_58 (by decide +kernel) rfl ?_
      refine wm_callVi mX7_found 1 7 [_] [] _ _ 28 mo_X7_found np_X7_found ml_RX7_59 im_X7_found se_X7_found (by decide +kernel) (by decide +kernel) rfl rfl rfl (Nat.le_of_ble_eq_true rfl) (by decide +kernel) rfl (Nat.le_of_ble_eq_true rfl) _ (ent_pad 1 rfl) (l_X7_found g _ _ _ H) (fun v17 h16 H hzv17 => ?_)
      exact wm_iret (by decide +kernel) ⟨.int, rfl, rfl⟩ H
def f_X7_go_L40 (x1 : Int32)  (Q : Int32 → HP → Prop) : Nat → Int32 → HP → Prop
  | 0, _, _ => False
  | n + 1, x2, h =>
    (((x1 ≤ x2) →
      Q (gi h 1 1) h) ∧
     (¬ (x1 ≤ x2) →
      f_X6_passTick 1 h (fun h6 =>
      ∀ x2_7 : Int32, x2_7 = (x2 + 1) →
      f_X7_go_L40 x1 Q n x2_7 h6)))
def f_X7_go (x1 : Int32) (h : HP) (Q : Int32 → HP → Prop) : Prop :=
  f_X7_isIn x1 1 60 h (fun v2 h1 =>
  (((v2 = 0) →
    f_X7_found (-1000000001 : Int32) h1 (fun v12 h11 =>
    Q v12 h11)) ∧
   (¬ (v2 = 0) →
    (((((gi h1 1 0) + x1) ≤ 99999) →
      ∃ n8, f_X7_go_L40 x1
        Q n8 0 h1) ∧
     (¬ (((gi h1 1 0) + x1) ≤ 99999) →
      f_X7_found (-1000000005 : Int32) h1 (fun v10 h9 =>
      Q v10 h9))))))
set_option maxRecDepth 20000 in
theorem l_X7_go_L40 (g : GE) (x1 : Int32)   (Q : Int32 → HP → Prop)  : ∀ (n : Nat) (x2 : Int32) (h : HP), f_X7_go_L40 x1 Q n x2 h → Wm g mX7_go 40 [some (.ref 0), some (.int x1), some (.int x2)] [] h (qi Q) := by
  intro n
  induction n with
  | zero => intro x2 h H; exact H.elim
  | succ n ih =>
    intro x2 h H
    unfold f_X7_go_L40 at H
    refine wm_iload_n 2 41 (by decide +kernel) rfl rfl ?_
    refine wm_iload_n 1 42 (by decide +kernel) rfl rfl ?_
    refine wm_icmp_ge 45 58 (by decide +kernel : decode cX7_go 42 = .ok (.if_icmp .ge 16, 3)) (by decide) rfl (fun c5 => ?_) (fun c5 => ?_)
    · replace H := H.1 c5
      refine wm_aload_n 0 59 (by decide +kernel) rfl rfl ?_
      refine wm_getr 7 0 1 1 62 fl_RX7_10 (by decide +kernel) rfl (by decide +kernel) rfl rfl (by decide) ?_
      refine wm_geti 6 1 65 fl_RX7_180 (by decide +kernel) rfl (by decide +kernel) rfl ?_
      exact wm_iret (by decide +kernel) ⟨.int, rfl, rfl⟩ H
    · replace H := H.2 c5
      refine wm_aload_n 0 46 (by decide +kernel) rfl rfl ?_
      refine wm_getr 7 0 1 1 49 fl_RX7_10 (by decide +kernel) rfl (by decide +kernel) rfl rfl (by decide) ?_
      refine wm_callVv mX6_passTick 0 6 [] [] _ _ 52 mo_X6_passTick np_X6_passTick ml_RX7_177 im_X6_passTick se_X6_passTick (by decide +kernel) (by decide +kernel) rfl rfl rfl (Nat.le_of_ble_eq_true rfl) (by decide +kernel) rfl (Nat.le_of_ble_eq_true rfl) _ (ent_pad 3 rfl) (l_X6_passTick g _ (by decide +kernel) _ _ H) (fun h6 H => ?_)
      replace H := H _ rfl
      refine wm_iinc 2 (_ + 1) 55 [some _, some _, some _] (by decide +kernel : decode cX7_go 52 = .ok (.iinc 2 1, 3)) rfl (by decide +kernel) rfl (ofI_eq (by decide +kernel)) (okS_spec rfl) rfl ?_
      refine wm_goto 40 (by decide +kernel : decode cX7_go 55 = .ok (.goto (-15), 3)) (by decide) ?_
      exact ih _ _ H
set_option maxRecDepth 20000 in
theorem l_X7_go (g : GE) (x1 : Int32)  (h : HP) (Q : Int32 → HP → Prop) (H : f_X7_go x1 h Q) : Wm g mX7_go 0 [some (.ref 0), some (.int x1), none] [] h (qi Q) := by
  unfold f_X7_go at H
  refine wm_iload_n 1 1 (by decide +kernel) rfl rfl ?_
  refine wm_iconst 1 2 (by decide +kernel : decode cX7_go 1 = .ok (.iconst 1, 1)) rfl (by decide +kernel) ?_
  refine wm_bipush 60 4 (by decide +kernel : decode cX7_go 2 = .ok (.bipush 60, 2)) rfl (by decide +kernel) ?_
  refine wm_callSi mX7_isIn 3 [_, _, _] [] _ _ 7 mo_X7_isIn np_X7_isIn ml_RX7_54 sc_X7_isIn (by decide +kernel) (by decide +kernel) rfl rfl rfl (Nat.le_of_ble_eq_true rfl) (Nat.le_of_ble_eq_true rfl) _ (ent_pad 0 rfl) (l_X7_isIn g _ _ _ _ _ H) (fun v2 h1 H hzv2 => ?_)
  refine wm_if_ne 10 17 (by decide +kernel : decode cX7_go 7 = .ok (.ifCond .ne 10, 3)) (by decide) rfl (fun c3 => ?_) (fun c3 => ?_)
  · replace H := H.2 c3
    refine wm_aload_n 0 18 (by decide +kernel) rfl rfl ?_
    refine wm_getr 7 0 1 1 21 fl_RX7_10 (by decide +kernel) rfl (by decide +kernel) rfl rfl (by decide) ?_
    refine wm_geti 6 0 24 fl_RX7_114 (by decide +kernel) rfl (by decide +kernel) rfl ?_
    refine wm_iload_n 1 25 (by decide +kernel) rfl rfl ?_
    refine wm_iadd 26 (by decide +kernel) rfl ?_
    refine wm_ldc 99999 28 co_RX7_176 (by decide +kernel) rfl ?_
    refine wm_icmp_le 31 38 (by decide +kernel : decode cX7_go 28 = .ok (.if_icmp .le 10, 3)) (by decide) rfl (fun c4 => ?_) (fun c4 => ?_)
    · replace H := H.1 c4
      refine wm_iconst 0 39 (by decide +kernel : decode cX7_go 38 = .ok (.iconst 0, 1)) rfl (by decide +kernel) ?_
      refine wm_istore_n 2 40 [some _, some _, some _] (by decide +kernel) rfl (by decide +kernel) (okS_spec rfl) rfl ?_
      obtain ⟨n8, H⟩ := H
      refine l_X7_go_L40 g _ _  _ _ _ H
    · replace H := H.2 c4
      refine wm_aload_n 0 32 (by decide +kernel) rfl rfl ?_
      refine wm_ldc (-1000000005) 34 co_RX7_175 (by decide +kernel) rfl ?_
      refine wm_callVi mX7_found 1 7 [_] [] _ _ 37 mo_X7_found np_X7_found ml_RX7_59 im_X7_found se_X7_found (by decide +kernel) (by decide +kernel) rfl rfl rfl (Nat.le_of_ble_eq_true rfl) (by decide +kernel) rfl (Nat.le_of_ble_eq_true rfl) _ (ent_pad 1 rfl) (l_X7_found g _ _ _ H) (fun v10 h9 H hzv10 => ?_)
      exact wm_iret (by decide +kernel) ⟨.int, rfl, rfl⟩ H
  · replace H := H.1 c3
    refine wm_aload_n 0 11 (by decide +kernel) rfl rfl ?_
    refine wm_ldc (-1000000001) 13 co_RX7_58 (by decide +kernel) rfl ?_
    refine wm_callVi mX7_found 1 7 [_] [] _ _ 16 mo_X7_found np_X7_found ml_RX7_59 im_X7_found se_X7_found (by decide +kernel) (by decide +kernel) rfl rfl rfl (Nat.le_of_ble_eq_true rfl) (by decide +kernel) rfl (Nat.le_of_ble_eq_true rfl) _ (ent_pad 1 rfl) (l_X7_found g _ _ _ H) (fun v12 h11 H hzv12 => ?_)
    exact wm_iret (by decide +kernel) ⟨.int, rfl, rfl⟩ H
def f_X7_now (x1 : Int32) (h : HP) (Q : Int32 → HP → Prop) : Prop :=
  (((x1 = 0) →
    Q (gi h 1 0) h) ∧
   (¬ (x1 = 0) →
    (((x1 = 1) →
      f_X6_allStock 1 h (fun v4 h3 =>
      Q v4 h3)) ∧
     (¬ (x1 = 1) →
      (((x1 = 2) →
        f_X6_allUnderWay 1 h (fun v7 h6 =>
        Q v7 h6)) ∧
       (¬ (x1 = 2) →
        (((x1 = 3) →
          Q (gi h 1 1) h) ∧
         (¬ (x1 = 3) →
          (((x1 = 4) →
            f_X6_allSent 1 h (fun v11 h10 =>
            Q v11 h10)) ∧
           (¬ (x1 = 4) →
            (((x1 = 5) →
              f_X6_allRoom 1 h (fun v14 h13 =>
              Q v14 h13)) ∧
             (¬ (x1 = 5) →
              (((x1 = 6) →
                f_X6_losingStations 1 h (fun v17 h16 =>
                Q v17 h16)) ∧
               (¬ (x1 = 6) →
                (((x1 = 7) →
                  f_X6_openLines 1 h (fun v20 h19 =>
                  Q v20 h19)) ∧
                 (¬ (x1 = 7) →
                  f_X7_found (-1000000001 : Int32) h (fun v22 h21 =>
                  Q v22 h21)))))))))))))))))
set_option maxRecDepth 20000 in
theorem l_X7_now (g : GE) (x1 : Int32)  (h : HP) (Q : Int32 → HP → Prop) (H : f_X7_now x1 h Q) : Wm g mX7_now 0 [some (.ref 0), some (.int x1)] [] h (qi Q) := by
  unfold f_X7_now at H
  refine wm_iload_n 1 1 (by decide +kernel) rfl rfl ?_
  refine em_go H (fun c1 H => ?_) (fun c1 H => ?_)
  · refine wm_tin (off := 47) 0 48 c1 (by decide +kernel : decode cX7_now 1 = .ok (.tableswitch 111 0 7 #[47, 55, 63, 71, 79, 87, 95, 103], 47)) (by decide +kernel) (by decide +kernel) (by decide +kernel) (by decide) ?_
    refine wm_aload_n 0 49 (by decide +kernel) rfl rfl ?_
    refine wm_getr 7 0 1 1 52 fl_RX7_10 (by decide +kernel) rfl (by decide +kernel) rfl rfl (by decide) ?_
    refine wm_geti 6 0 55 fl_RX7_114 (by decide +kernel) rfl (by decide +kernel) rfl ?_
    exact wm_iret (by decide +kernel) ⟨.int, rfl, rfl⟩ H
  · skip
    refine em_go H (fun c2 H => ?_) (fun c2 H => ?_)
    · refine wm_tin (off := 55) 1 56 c2 (by decide +kernel : decode cX7_now 1 = .ok (.tableswitch 111 0 7 #[47, 55, 63, 71, 79, 87, 95, 103], 47)) (by decide +kernel) (by decide +kernel) (by decide +kernel) (by decide) ?_
      refine wm_aload_n 0 57 (by decide +kernel) rfl rfl ?_
      refine wm_getr 7 0 1 1 60 fl_RX7_10 (by decide +kernel) rfl (by decide +kernel) rfl rfl (by decide) ?_
      refine wm_callVi mX6_allStock 0 6 [] [] _ _ 63 mo_X6_allStock np_X6_allStock ml_RX7_183 im_X6_allStock se_X6_allStock (by decide +kernel) (by decide +kernel) rfl rfl rfl (Nat.le_of_ble_eq_true rfl) (by decide +kernel) rfl (Nat.le_of_ble_eq_true rfl) _ (ent_pad 2 rfl) (l_X6_allStock g _ (by decide +kernel) _ _ H) (fun v4 h3 H hzv4 => ?_)
      exact wm_iret (by decide +kernel) ⟨.int, rfl, rfl⟩ H
    · skip
      refine em_go H (fun c5 H => ?_) (fun c5 H => ?_)
      · refine wm_tin (off := 63) 2 64 c5 (by decide +kernel : decode cX7_now 1 = .ok (.tableswitch 111 0 7 #[47, 55, 63, 71, 79, 87, 95, 103], 47)) (by decide +kernel) (by decide +kernel) (by decide +kernel) (by decide) ?_
        refine wm_aload_n 0 65 (by decide +kernel) rfl rfl ?_
        refine wm_getr 7 0 1 1 68 fl_RX7_10 (by decide +kernel) rfl (by decide +kernel) rfl rfl (by decide) ?_
        refine wm_callVi mX6_allUnderWay 0 6 [] [] _ _ 71 mo_X6_allUnderWay np_X6_allUnderWay ml_RX7_186 im_X6_allUnderWay se_X6_allUnderWay (by decide +kernel) (by decide +kernel) rfl rfl rfl (Nat.le_of_ble_eq_true rfl) (by decide +kernel) rfl (Nat.le_of_ble_eq_true rfl) _ (ent_pad 2 rfl) (l_X6_allUnderWay g _ (by decide +kernel) _ _ H) (fun v7 h6 H hzv7 => ?_)
        exact wm_iret (by decide +kernel) ⟨.int, rfl, rfl⟩ H
      · skip
        refine em_go H (fun c8 H => ?_) (fun c8 H => ?_)
        · refine wm_tin (off := 71) 3 72 c8 (by decide +kernel : decode cX7_now 1 = .ok (.tableswitch 111 0 7 #[47, 55, 63, 71, 79, 87, 95, 103], 47)) (by decide +kernel) (by decide +kernel) (by decide +kernel) (by decide) ?_
          refine wm_aload_n 0 73 (by decide +kernel) rfl rfl ?_
          refine wm_getr 7 0 1 1 76 fl_RX7_10 (by decide +kernel) rfl (by decide +kernel) rfl rfl (by decide) ?_
          refine wm_geti 6 1 79 fl_RX7_180 (by decide +kernel) rfl (by decide +kernel) rfl ?_
          exact wm_iret (by decide +kernel) ⟨.int, rfl, rfl⟩ H
        · skip
          refine em_go H (fun c9 H => ?_) (fun c9 H => ?_)
          · refine wm_tin (off := 79) 4 80 c9 (by decide +kernel : decode cX7_now 1 = .ok (.tableswitch 111 0 7 #[47, 55, 63, 71, 79, 87, 95, 103], 47)) (by decide +kernel) (by decide +kernel) (by decide +kernel) (by decide) ?_
            refine wm_aload_n 0 81 (by decide +kernel) rfl rfl ?_
            refine wm_getr 7 0 1 1 84 fl_RX7_10 (by decide +kernel) rfl (by decide +kernel) rfl rfl (by decide) ?_
            refine wm_callVi mX6_allSent 0 6 [] [] _ _ 87 mo_X6_allSent np_X6_allSent ml_RX7_189 im_X6_allSent se_X6_allSent (by decide +kernel) (by decide +kernel) rfl rfl rfl (Nat.le_of_ble_eq_true rfl) (by decide +kernel) rfl (Nat.le_of_ble_eq_true rfl) _ (ent_pad 2 rfl) (l_X6_allSent g _ (by decide +kernel) _ _ H) (fun v11 h10 H hzv11 => ?_)
            exact wm_iret (by decide +kernel) ⟨.int, rfl, rfl⟩ H
          · skip
            refine em_go H (fun c12 H => ?_) (fun c12 H => ?_)
            · refine wm_tin (off := 87) 5 88 c12 (by decide +kernel : decode cX7_now 1 = .ok (.tableswitch 111 0 7 #[47, 55, 63, 71, 79, 87, 95, 103], 47)) (by decide +kernel) (by decide +kernel) (by decide +kernel) (by decide) ?_
              refine wm_aload_n 0 89 (by decide +kernel) rfl rfl ?_
              refine wm_getr 7 0 1 1 92 fl_RX7_10 (by decide +kernel) rfl (by decide +kernel) rfl rfl (by decide) ?_
              refine wm_callVi mX6_allRoom 0 6 [] [] _ _ 95 mo_X6_allRoom np_X6_allRoom ml_RX7_192 im_X6_allRoom se_X6_allRoom (by decide +kernel) (by decide +kernel) rfl rfl rfl (Nat.le_of_ble_eq_true rfl) (by decide +kernel) rfl (Nat.le_of_ble_eq_true rfl) _ (ent_pad 2 rfl) (l_X6_allRoom g _ (by decide +kernel) _ _ H) (fun v14 h13 H hzv14 => ?_)
              exact wm_iret (by decide +kernel) ⟨.int, rfl, rfl⟩ H
            · skip
              refine em_go H (fun c15 H => ?_) (fun c15 H => ?_)
              · refine wm_tin (off := 95) 6 96 c15 (by decide +kernel : decode cX7_now 1 = .ok (.tableswitch 111 0 7 #[47, 55, 63, 71, 79, 87, 95, 103], 47)) (by decide +kernel) (by decide +kernel) (by decide +kernel) (by decide) ?_
                refine wm_aload_n 0 97 (by decide +kernel) rfl rfl ?_
                refine wm_getr 7 0 1 1 100 fl_RX7_10 (by decide +kernel) rfl (by decide +kernel) rfl rfl (by decide) ?_
                refine wm_callVi mX6_losingStations 0 6 [] [] _ _ 103 mo_X6_losingStations np_X6_losingStations ml_RX7_195 im_X6_losingStations se_X6_losingStations (by decide +kernel) (by decide +kernel) rfl rfl rfl (Nat.le_of_ble_eq_true rfl) (by decide +kernel) rfl (Nat.le_of_ble_eq_true rfl) _ (ent_pad 2 rfl) (l_X6_losingStations g _ (by decide +kernel) _ _ H) (fun v17 h16 H hzv17 => ?_)
                exact wm_iret (by decide +kernel) ⟨.int, rfl, rfl⟩ H
              · skip
                refine em_go H (fun c18 H => ?_) (fun c18 H => ?_)
                · refine wm_tin (off := 103) 7 104 c18 (by decide +kernel : decode cX7_now 1 = .ok (.tableswitch 111 0 7 #[47, 55, 63, 71, 79, 87, 95, 103], 47)) (by decide +kernel) (by decide +kernel) (by decide +kernel) (by decide) ?_
                  refine wm_aload_n 0 105 (by decide +kernel) rfl rfl ?_
                  refine wm_getr 7 0 1 1 108 fl_RX7_10 (by decide +kernel) rfl (by decide +kernel) rfl rfl (by decide) ?_
                  refine wm_callVi mX6_openLines 0 6 [] [] _ _ 111 mo_X6_openLines np_X6_openLines ml_RX7_198 im_X6_openLines se_X6_openLines (by decide +kernel) (by decide +kernel) rfl rfl rfl (Nat.le_of_ble_eq_true rfl) (by decide +kernel) rfl (Nat.le_of_ble_eq_true rfl) _ (ent_pad 3 rfl) (l_X6_openLines g _ (by decide +kernel) _ _ H) (fun v20 h19 H hzv20 => ?_)
                  exact wm_iret (by decide +kernel) ⟨.int, rfl, rfl⟩ H
                · skip
                  refine wm_tout 112 (by decide +kernel : decode cX7_now 1 = .ok (.tableswitch 111 0 7 #[47, 55, 63, 71, 79, 87, 95, 103], 47)) (by have q0 := ne_toInt 0 (by decide +kernel) c1; have q1 := ne_toInt 1 (by decide +kernel) c2; have q2 := ne_toInt 2 (by decide +kernel) c5; have q3 := ne_toInt 3 (by decide +kernel) c8; have q4 := ne_toInt 4 (by decide +kernel) c9; have q5 := ne_toInt 5 (by decide +kernel) c12; have q6 := ne_toInt 6 (by decide +kernel) c15; have q7 := ne_toInt 7 (by decide +kernel) c18; omega) (by decide) ?_
                  refine wm_aload_n 0 113 (by decide +kernel) rfl rfl ?_
                  refine wm_ldc (-1000000001) 115 co_RX7_58 (by decide +kernel) rfl ?_
                  refine wm_callVi mX7_found 1 7 [_] [] _ _ 118 mo_X7_found np_X7_found ml_RX7_59 im_X7_found se_X7_found (by decide +kernel) (by decide +kernel) rfl rfl rfl (Nat.le_of_ble_eq_true rfl) (by decide +kernel) rfl (Nat.le_of_ble_eq_true rfl) _ (ent_pad 1 rfl) (l_X7_found g _ _ _ H) (fun v22 h21 H hzv22 => ?_)
                  exact wm_iret (by decide +kernel) ⟨.int, rfl, rfl⟩ H
def f_X7_isAsked (x1 : Int32) (x2 : Int32) (h : HP) (Q : Int32 → HP → Prop) : Prop :=
  f_X6_hasStation 1 x1 h (fun v2 h1 =>
  (((v2 = 0) →
    Q 0 h1) ∧
   (¬ (v2 = 0) →
    f_X7_isIn x2 0 24 h1 (fun v5 h4 =>
    (((v5 = 0) →
      Q 0 h4) ∧
     (¬ (v5 = 0) →
      Q 1 h4))))))
set_option maxRecDepth 20000 in
theorem l_X7_isAsked (g : GE) (x1 : Int32) (x2 : Int32)  (h : HP) (Q : Int32 → HP → Prop) (H : f_X7_isAsked x1 x2 h Q) : Wm g mX7_isAsked 0 [some (.ref 0), some (.int x1), some (.int x2)] [] h (qi Q) := by
  unfold f_X7_isAsked at H
  refine wm_aload_n 0 1 (by decide +kernel) rfl rfl ?_
  refine wm_getr 7 0 1 1 4 fl_RX7_10 (by decide +kernel) rfl (by decide +kernel) rfl rfl (by decide) ?_
  refine wm_iload_n 1 5 (by decide +kernel) rfl rfl ?_
  refine wm_callVi mX6_hasStation 1 6 [_] [] _ _ 8 mo_X6_hasStation np_X6_hasStation ml_RX7_95 im_X6_hasStation se_X6_hasStation (by decide +kernel) (by decide +kernel) rfl rfl rfl (Nat.le_of_ble_eq_true rfl) (by decide +kernel) rfl (Nat.le_of_ble_eq_true rfl) _ (ent_pad 0 rfl) (l_X6_hasStation g _ _ (by decide +kernel) _ _ H) (fun v2 h1 H hzv2 => ?_)
  refine wm_if_eq 11 25 (by decide +kernel : decode cX7_isAsked 8 = .ok (.ifCond .eq 17, 3)) (by decide) rfl (fun c3 => ?_) (fun c3 => ?_)
  · replace H := H.1 c3
    refine wm_iconst 0 26 (by decide +kernel : decode cX7_isAsked 25 = .ok (.iconst 0, 1)) rfl (by decide +kernel) ?_
    exact wm_iret (by decide +kernel) ⟨.boolean, rfl, (by decide +kernel)⟩ H
  · replace H := H.2 c3
    refine wm_iload_n 2 12 (by decide +kernel) rfl rfl ?_
    refine wm_iconst 0 13 (by decide +kernel : decode cX7_isAsked 12 = .ok (.iconst 0, 1)) rfl (by decide +kernel) ?_
    refine wm_bipush 24 15 (by decide +kernel : decode cX7_isAsked 13 = .ok (.bipush 24, 2)) rfl (by decide +kernel) ?_
    refine wm_callSi mX7_isIn 3 [_, _, _] [] _ _ 18 mo_X7_isIn np_X7_isIn ml_RX7_54 sc_X7_isIn (by decide +kernel) (by decide +kernel) rfl rfl rfl (Nat.le_of_ble_eq_true rfl) (Nat.le_of_ble_eq_true rfl) _ (ent_pad 0 rfl) (l_X7_isIn g _ _ _ _ _ H) (fun v5 h4 H hzv5 => ?_)
    refine wm_if_eq 21 25 (by decide +kernel : decode cX7_isAsked 18 = .ok (.ifCond .eq 7, 3)) (by decide) rfl (fun c6 => ?_) (fun c6 => ?_)
    · replace H := H.1 c6
      refine wm_iconst 0 26 (by decide +kernel : decode cX7_isAsked 25 = .ok (.iconst 0, 1)) rfl (by decide +kernel) ?_
      exact wm_iret (by decide +kernel) ⟨.boolean, rfl, (by decide +kernel)⟩ H
    · replace H := H.2 c6
      refine wm_iconst 1 22 (by decide +kernel : decode cX7_isAsked 21 = .ok (.iconst 1, 1)) rfl (by decide +kernel) ?_
      refine wm_goto 26 (by decide +kernel : decode cX7_isAsked 22 = .ok (.goto 4, 3)) (by decide) ?_
      exact wm_iret (by decide +kernel) ⟨.boolean, rfl, (by decide +kernel)⟩ H
def f_X7_mostIn (a1 : Nat) (x2 : Int32) (x3 : Int32) (h : HP) (Q : Int32 → HP → Prop) : Prop :=
  f_X1_open a1 x2 h (fun h1 =>
  f_X1_flowBehind x3 h1 (fun v3 h2 =>
  Q v3 h2))
set_option maxRecDepth 20000 in
theorem l_X7_mostIn (g : GE) (a1 : Nat) (x2 : Int32) (x3 : Int32) (ha1 : kd a1 = 6) (h : HP) (Q : Int32 → HP → Prop) (H : f_X7_mostIn a1 x2 x3 h Q) : Wm g mX7_mostIn 0 [some (.ref 0), some (.ref a1), some (.int x2), some (.int x3)] [] h (qi Q) := by
  unfold f_X7_mostIn at H
  refine wm_aload_n 0 1 (by decide +kernel) rfl rfl ?_
  refine wm_getr 7 3 88 88 4 fl_RX7_25 (by decide +kernel) rfl (by decide +kernel) rfl rfl (by decide) ?_
  refine wm_aload_n 1 5 (by decide +kernel) rfl rfl ?_
  refine wm_iload_n 2 6 (by decide +kernel) rfl rfl ?_
  refine wm_callVv mX1_open 2 1 [_, _] [] _ _ 9 mo_X1_open np_X1_open ml_RX7_334 im_X1_open se_X1_open (by decide +kernel) (by decide +kernel) rfl rfl rfl (Nat.le_of_ble_eq_true rfl) (by decide +kernel) rfl (Nat.le_of_ble_eq_true rfl) _ (ent_pad 0 rfl) (l_X1_open g _ _ ha1 _ _ H) (fun h1 H => ?_)
  refine wm_aload_n 0 10 (by decide +kernel) rfl rfl ?_
  refine wm_getr 7 3 88 88 13 fl_RX7_25 (by decide +kernel) rfl (by decide +kernel) rfl rfl (by decide) ?_
  refine wm_iload_n 3 14 (by decide +kernel) rfl rfl ?_
  refine wm_callVi mX1_flowBehind 1 1 [_] [] _ _ 17 mo_X1_flowBehind np_X1_flowBehind ml_RX7_338 im_X1_flowBehind se_X1_flowBehind (by decide +kernel) (by decide +kernel) rfl rfl rfl (Nat.le_of_ble_eq_true rfl) (by decide +kernel) rfl (Nat.le_of_ble_eq_true rfl) _ (ent_pad 1 rfl) (l_X1_flowBehind g _ _ _ H) (fun v3 h2 H hzv3 => ?_)
  exact wm_iret (by decide +kernel) ⟨.int, rfl, rfl⟩ H
def f_X7_most (x1 : Int32) (x2 : Int32) (h : HP) (Q : Int32 → HP → Prop) : Prop :=
  f_X7_isAsked x1 x2 h (fun v2 h1 =>
  (((v2 = 0) →
    f_X7_found (-1000000001 : Int32) h1 (fun v7 h6 =>
    Q v7 h6)) ∧
   (¬ (v2 = 0) →
    f_X7_mostIn 1 x1 x2 h1 (fun v5 h4 =>
    Q v5 h4))))
set_option maxRecDepth 20000 in
theorem l_X7_most (g : GE) (x1 : Int32) (x2 : Int32)  (h : HP) (Q : Int32 → HP → Prop) (H : f_X7_most x1 x2 h Q) : Wm g mX7_most 0 [some (.ref 0), some (.int x1), some (.int x2)] [] h (qi Q) := by
  unfold f_X7_most at H
  refine wm_aload_n 0 1 (by decide +kernel) rfl rfl ?_
  refine wm_iload_n 1 2 (by decide +kernel) rfl rfl ?_
  refine wm_iload_n 2 3 (by decide +kernel) rfl rfl ?_
  refine wm_callVi mX7_isAsked 2 7 [_, _] [] _ _ 6 mo_X7_isAsked np_X7_isAsked ml_RX7_201 im_X7_isAsked se_X7_isAsked (by decide +kernel) (by decide +kernel) rfl rfl rfl (Nat.le_of_ble_eq_true rfl) (by decide +kernel) rfl (Nat.le_of_ble_eq_true rfl) _ (ent_pad 0 rfl) (l_X7_isAsked g _ _ _ _ H) (fun v2 h1 H hzv2 => ?_)
  refine wm_if_ne 9 16 (by decide +kernel : decode cX7_most 6 = .ok (.ifCond .ne 10, 3)) (by decide) rfl (fun c3 => ?_) (fun c3 => ?_)
  · replace H := H.2 c3
    refine wm_aload_n 0 17 (by decide +kernel) rfl rfl ?_
    refine wm_aload_n 0 18 (by decide +kernel) rfl rfl ?_
    refine wm_getr 7 0 1 1 21 fl_RX7_10 (by decide +kernel) rfl (by decide +kernel) rfl rfl (by decide) ?_
    refine wm_iload_n 1 22 (by decide +kernel) rfl rfl ?_
    refine wm_iload_n 2 23 (by decide +kernel) rfl rfl ?_
    refine wm_callVi mX7_mostIn 3 7 [_, _, _] [] _ _ 26 mo_X7_mostIn np_X7_mostIn ml_RX7_204 im_X7_mostIn se_X7_mostIn (by decide +kernel) (by decide +kernel) rfl rfl rfl (Nat.le_of_ble_eq_true rfl) (by decide +kernel) rfl (Nat.le_of_ble_eq_true rfl) _ (ent_pad 0 rfl) (l_X7_mostIn g _ _ _ (by decide +kernel) _ _ H) (fun v5 h4 H hzv5 => ?_)
    exact wm_iret (by decide +kernel) ⟨.int, rfl, rfl⟩ H
  · replace H := H.1 c3
    refine wm_aload_n 0 10 (by decide +kernel) rfl rfl ?_
    refine wm_ldc (-1000000001) 12 co_RX7_58 (by decide +kernel) rfl ?_
    refine wm_callVi mX7_found 1 7 [_] [] _ _ 15 mo_X7_found np_X7_found ml_RX7_59 im_X7_found se_X7_found (by decide +kernel) (by decide +kernel) rfl rfl rfl (Nat.le_of_ble_eq_true rfl) (by decide +kernel) rfl (Nat.le_of_ble_eq_true rfl) _ (ent_pad 1 rfl) (l_X7_found g _ _ _ H) (fun v7 h6 H hzv7 => ?_)
    exact wm_iret (by decide +kernel) ⟨.int, rfl, rfl⟩ H
def f_X7_ticksUntil_L14 (x2 : Int32)  (Q : Int32 → HP → Prop) : Nat → Int32 → HP → Prop
  | 0, _, _ => False
  | n + 1, x3, h =>
    (((24 < x3) →
      Q (-1 : Int32) h) ∧
     (¬ (24 < x3) →
      f_X1_flowBehind x3 h (fun v4 h3 =>
      (((v4 < x2) →
        ∀ x3_6 : Int32, x3_6 = (x3 + 1) →
        f_X7_ticksUntil_L14 x2 Q n x3_6 h3) ∧
       (¬ (v4 < x2) →
        Q x3 h3)))))
def f_X7_ticksUntil (x1 : Int32) (x2 : Int32) (h : HP) (Q : Int32 → HP → Prop) : Prop :=
  f_X1_open 1 x1 h (fun h1 =>
  ∃ n7, f_X7_ticksUntil_L14 x2
    Q n7 0 h1)
set_option maxRecDepth 20000 in
theorem l_X7_ticksUntil_L14 (g : GE) (x2 : Int32)   (Q : Int32 → HP → Prop)  : ∀ (n : Nat) (x3 : Int32) (h : HP), f_X7_ticksUntil_L14 x2 Q n x3 h → Wm g mX7_ticksUntil 14 [some (.ref 0), none, some (.int x2), some (.int x3)] [] h (qi Q) := by
  intro n
  induction n with
  | zero => intro x3 h H; exact H.elim
  | succ n ih =>
    intro x3 h H
    unfold f_X7_ticksUntil_L14 at H
    refine wm_iload_n 3 15 (by decide +kernel) rfl rfl ?_
    refine wm_bipush 24 17 (by decide +kernel : decode cX7_ticksUntil 15 = .ok (.bipush 24, 2)) rfl (by decide +kernel) ?_
    refine wm_icmp_gt 20 40 (by decide +kernel : decode cX7_ticksUntil 17 = .ok (.if_icmp .gt 23, 3)) (by decide) rfl (fun c2 => ?_) (fun c2 => ?_)
    · replace H := H.1 c2
      refine wm_iconst (-1) 41 (by decide +kernel : decode cX7_ticksUntil 40 = .ok (.iconst (-1), 1)) rfl (by decide +kernel) ?_
      exact wm_iret (by decide +kernel) ⟨.int, rfl, rfl⟩ H
    · replace H := H.2 c2
      refine wm_aload_n 0 21 (by decide +kernel) rfl rfl ?_
      refine wm_getr 7 3 88 88 24 fl_RX7_25 (by decide +kernel) rfl (by decide +kernel) rfl rfl (by decide) ?_
      refine wm_iload_n 3 25 (by decide +kernel) rfl rfl ?_
      refine wm_callVi mX1_flowBehind 1 1 [_] [] _ _ 28 mo_X1_flowBehind np_X1_flowBehind ml_RX7_338 im_X1_flowBehind se_X1_flowBehind (by decide +kernel) (by decide +kernel) rfl rfl rfl (Nat.le_of_ble_eq_true rfl) (by decide +kernel) rfl (Nat.le_of_ble_eq_true rfl) _ (ent_pad 1 rfl) (l_X1_flowBehind g _ _ _ H) (fun v4 h3 H hzv4 => ?_)
      refine wm_iload_n 2 29 (by decide +kernel) rfl rfl ?_
      refine wm_icmp_lt 32 34 (by decide +kernel : decode cX7_ticksUntil 29 = .ok (.if_icmp .lt 5, 3)) (by decide) rfl (fun c5 => ?_) (fun c5 => ?_)
      · replace H := H.1 c5
        replace H := H _ rfl
        refine wm_iinc 3 (_ + 1) 37 [some _, none, some _, some _] (by decide +kernel : decode cX7_ticksUntil 34 = .ok (.iinc 3 1, 3)) rfl (by decide +kernel) rfl (ofI_eq (by decide +kernel)) (okS_spec rfl) rfl ?_
        refine wm_goto 14 (by decide +kernel : decode cX7_ticksUntil 37 = .ok (.goto (-23), 3)) (by decide) ?_
        exact ih _ _ H
      · replace H := H.2 c5
        refine wm_iload_n 3 33 (by decide +kernel) rfl rfl ?_
        exact wm_iret (by decide +kernel) ⟨.int, rfl, rfl⟩ H
set_option maxRecDepth 20000 in
theorem l_X7_ticksUntil (g : GE) (x1 : Int32) (x2 : Int32)  (h : HP) (Q : Int32 → HP → Prop) (H : f_X7_ticksUntil x1 x2 h Q) : Wm g mX7_ticksUntil 0 [some (.ref 0), some (.int x1), some (.int x2), none] [] h (qi Q) := by
  unfold f_X7_ticksUntil at H
  refine wm_aload_n 0 1 (by decide +kernel) rfl rfl ?_
  refine wm_getr 7 3 88 88 4 fl_RX7_25 (by decide +kernel) rfl (by decide +kernel) rfl rfl (by decide) ?_
  refine wm_aload_n 0 5 (by decide +kernel) rfl rfl ?_
  refine wm_getr 7 0 1 1 8 fl_RX7_10 (by decide +kernel) rfl (by decide +kernel) rfl rfl (by decide) ?_
  refine wm_iload_n 1 9 (by decide +kernel) rfl rfl ?_
  refine wm_callVv mX1_open 2 1 [_, _] [] _ _ 12 mo_X1_open np_X1_open ml_RX7_334 im_X1_open se_X1_open (by decide +kernel) (by decide +kernel) rfl rfl rfl (Nat.le_of_ble_eq_true rfl) (by decide +kernel) rfl (Nat.le_of_ble_eq_true rfl) _ (ent_pad 0 rfl) (l_X1_open g _ _ (by decide +kernel) _ _ H) (fun h1 H => ?_)
  refine wm_iconst 0 13 (by decide +kernel : decode cX7_ticksUntil 12 = .ok (.iconst 0, 1)) rfl (by decide +kernel) ?_
  refine wm_istore_n 3 14 [some _, some _, some _, some _] (by decide +kernel) rfl (by decide +kernel) (okS_spec rfl) rfl ?_
  obtain ⟨n7, H⟩ := H
  refine wm_mask [true, false, true, true] [some _, none, some _, some _] rfl ?_
  refine l_X7_ticksUntil_L14 g _ _  _ _ _ H
def f_X7_quick (x1 : Int32) (x2 : Int32) (h : HP) (Q : Int32 → HP → Prop) : Prop :=
  f_X6_hasStation 1 x1 h (fun v2 h1 =>
  (((v2 = 0) →
    f_X7_found (-1000000001 : Int32) h1 (fun v5 h4 =>
    Q v5 h4)) ∧
   (¬ (v2 = 0) →
    (((0 ≤ x2) →
      f_X7_ticksUntil x1 x2 h1 (fun v8 h7 =>
      (((0 ≤ v8) →
        Q v8 h7) ∧
       (¬ (0 ≤ v8) →
        f_X7_found (-1000000004 : Int32) h7 (fun v11 h10 =>
        Q v11 h10))))) ∧
     (¬ (0 ≤ x2) →
      f_X7_found (-1000000001 : Int32) h1 (fun v13 h12 =>
      Q v13 h12))))))
set_option maxRecDepth 20000 in
theorem l_X7_quick (g : GE) (x1 : Int32) (x2 : Int32)  (h : HP) (Q : Int32 → HP → Prop) (H : f_X7_quick x1 x2 h Q) : Wm g mX7_quick 0 [some (.ref 0), some (.int x1), some (.int x2), none] [] h (qi Q) := by
  unfold f_X7_quick at H
  refine wm_aload_n 0 1 (by decide +kernel) rfl rfl ?_
  refine wm_getr 7 0 1 1 4 fl_RX7_10 (by decide +kernel) rfl (by decide +kernel) rfl rfl (by decide) ?_
  refine wm_iload_n 1 5 (by decide +kernel) rfl rfl ?_
  refine wm_callVi mX6_hasStation 1 6 [_] [] _ _ 8 mo_X6_hasStation np_X6_hasStation ml_RX7_95 im_X6_hasStation se_X6_hasStation (by decide +kernel) (by decide +kernel) rfl rfl rfl (Nat.le_of_ble_eq_true rfl) (by decide +kernel) rfl (Nat.le_of_ble_eq_true rfl) _ (ent_pad 0 rfl) (l_X6_hasStation g _ _ (by decide +kernel) _ _ H) (fun v2 h1 H hzv2 => ?_)
  refine wm_if_eq 11 15 (by decide +kernel : decode cX7_quick 8 = .ok (.ifCond .eq 7, 3)) (by decide) rfl (fun c3 => ?_) (fun c3 => ?_)
  · replace H := H.1 c3
    refine wm_aload_n 0 16 (by decide +kernel) rfl rfl ?_
    refine wm_ldc (-1000000001) 18 co_RX7_58 (by decide +kernel) rfl ?_
    refine wm_callVi mX7_found 1 7 [_] [] _ _ 21 mo_X7_found np_X7_found ml_RX7_59 im_X7_found se_X7_found (by decide +kernel) (by decide +kernel) rfl rfl rfl (Nat.le_of_ble_eq_true rfl) (by decide +kernel) rfl (Nat.le_of_ble_eq_true rfl) _ (ent_pad 1 rfl) (l_X7_found g _ _ _ H) (fun v5 h4 H hzv5 => ?_)
    exact wm_iret (by decide +kernel) ⟨.int, rfl, rfl⟩ H
  · replace H := H.2 c3
    refine wm_iload_n 2 12 (by decide +kernel) rfl rfl ?_
    refine wm_if_ge 15 22 (by decide +kernel : decode cX7_quick 12 = .ok (.ifCond .ge 10, 3)) (by decide) rfl (fun c6 => ?_) (fun c6 => ?_)
    · replace H := H.1 c6
      refine wm_aload_n 0 23 (by decide +kernel) rfl rfl ?_
      refine wm_iload_n 1 24 (by decide +kernel) rfl rfl ?_
      refine wm_iload_n 2 25 (by decide +kernel) rfl rfl ?_
      refine wm_callVi mX7_ticksUntil 2 7 [_, _] [] _ _ 28 mo_X7_ticksUntil np_X7_ticksUntil ml_RX7_208 im_X7_ticksUntil se_X7_ticksUntil (by decide +kernel) (by decide +kernel) rfl rfl rfl (Nat.le_of_ble_eq_true rfl) (by decide +kernel) rfl (Nat.le_of_ble_eq_true rfl) _ (ent_pad 1 rfl) (l_X7_ticksUntil g _ _ _ _ H) (fun v8 h7 H hzv8 => ?_)
      refine wm_istore_n 3 29 [some _, some _, some _, some _] (by decide +kernel) rfl (by decide +kernel) (okS_spec rfl) rfl ?_
      refine wm_iload_n 3 30 (by decide +kernel) rfl rfl ?_
      refine wm_if_ge 33 42 (by decide +kernel : decode cX7_quick 30 = .ok (.ifCond .ge 12, 3)) (by decide) rfl (fun c9 => ?_) (fun c9 => ?_)
      · replace H := H.1 c9
        refine wm_iload_n 3 43 (by decide +kernel) rfl rfl ?_
        exact wm_iret (by decide +kernel) ⟨.int, rfl, rfl⟩ H
      · replace H := H.2 c9
        refine wm_aload_n 0 34 (by decide +kernel) rfl rfl ?_
        refine wm_ldc (-1000000004) 36 co_RX7_211 (by decide +kernel) rfl ?_
        refine wm_callVi mX7_found 1 7 [_] [] _ _ 39 mo_X7_found np_X7_found ml_RX7_59 im_X7_found se_X7_found (by decide +kernel) (by decide +kernel) rfl rfl rfl (Nat.le_of_ble_eq_true rfl) (by decide +kernel) rfl (Nat.le_of_ble_eq_true rfl) _ (ent_pad 1 rfl) (l_X7_found g _ _ _ H) (fun v11 h10 H hzv11 => ?_)
        refine wm_goto 43 (by decide +kernel : decode cX7_quick 39 = .ok (.goto 4, 3)) (by decide) ?_
        exact wm_iret (by decide +kernel) ⟨.int, rfl, rfl⟩ H
    · replace H := H.2 c6
      refine wm_aload_n 0 16 (by decide +kernel) rfl rfl ?_
      refine wm_ldc (-1000000001) 18 co_RX7_58 (by decide +kernel) rfl ?_
      refine wm_callVi mX7_found 1 7 [_] [] _ _ 21 mo_X7_found np_X7_found ml_RX7_59 im_X7_found se_X7_found (by decide +kernel) (by decide +kernel) rfl rfl rfl (Nat.le_of_ble_eq_true rfl) (by decide +kernel) rfl (Nat.le_of_ble_eq_true rfl) _ (ent_pad 1 rfl) (l_X7_found g _ _ _ H) (fun v13 h12 H hzv13 => ?_)
      exact wm_iret (by decide +kernel) ⟨.int, rfl, rfl⟩ H
def f_X7_all (x1 : Int32) (h : HP) (Q : Int32 → HP → Prop) : Prop :=
  f_X6_hasStation 1 x1 h (fun v2 h1 =>
  (((v2 = 0) →
    f_X7_found (-1000000001 : Int32) h1 (fun v12 h11 =>
    Q v12 h11)) ∧
   (¬ (v2 = 0) →
    f_X6_allGoods 1 h1 (fun v5 h4 =>
    f_X7_ticksUntil x1 v5 h4 (fun v7 h6 =>
    (((0 ≤ v7) →
      Q v7 h6) ∧
     (¬ (0 ≤ v7) →
      f_X7_found (-1000000004 : Int32) h6 (fun v10 h9 =>
      Q v10 h9))))))))
set_option maxRecDepth 20000 in
theorem l_X7_all (g : GE) (x1 : Int32)  (h : HP) (Q : Int32 → HP → Prop) (H : f_X7_all x1 h Q) : Wm g mX7_all 0 [some (.ref 0), some (.int x1), none] [] h (qi Q) := by
  unfold f_X7_all at H
  refine wm_aload_n 0 1 (by decide +kernel) rfl rfl ?_
  refine wm_getr 7 0 1 1 4 fl_RX7_10 (by decide +kernel) rfl (by decide +kernel) rfl rfl (by decide) ?_
  refine wm_iload_n 1 5 (by decide +kernel) rfl rfl ?_
  refine wm_callVi mX6_hasStation 1 6 [_] [] _ _ 8 mo_X6_hasStation np_X6_hasStation ml_RX7_95 im_X6_hasStation se_X6_hasStation (by decide +kernel) (by decide +kernel) rfl rfl rfl (Nat.le_of_ble_eq_true rfl) (by decide +kernel) rfl (Nat.le_of_ble_eq_true rfl) _ (ent_pad 0 rfl) (l_X6_hasStation g _ _ (by decide +kernel) _ _ H) (fun v2 h1 H hzv2 => ?_)
  refine wm_if_ne 11 18 (by decide +kernel : decode cX7_all 8 = .ok (.ifCond .ne 10, 3)) (by decide) rfl (fun c3 => ?_) (fun c3 => ?_)
  · replace H := H.2 c3
    refine wm_aload_n 0 19 (by decide +kernel) rfl rfl ?_
    refine wm_iload_n 1 20 (by decide +kernel) rfl rfl ?_
    refine wm_aload_n 0 21 (by decide +kernel) rfl rfl ?_
    refine wm_getr 7 0 1 1 24 fl_RX7_10 (by decide +kernel) rfl (by decide +kernel) rfl rfl (by decide) ?_
    refine wm_callVi mX6_allGoods 0 6 [] [_, _] _ _ 27 mo_X6_allGoods np_X6_allGoods ml_RX7_212 im_X6_allGoods se_X6_allGoods (by decide +kernel) (by decide +kernel) rfl rfl rfl (Nat.le_of_ble_eq_true rfl) (by decide +kernel) rfl (Nat.le_of_ble_eq_true rfl) _ (ent_pad 0 rfl) (l_X6_allGoods g _ (by decide +kernel) _ _ H) (fun v5 h4 H hzv5 => ?_)
    refine wm_callVi mX7_ticksUntil 2 7 [_, _] [] _ _ 30 mo_X7_ticksUntil np_X7_ticksUntil ml_RX7_208 im_X7_ticksUntil se_X7_ticksUntil (by decide +kernel) (by decide +kernel) rfl rfl rfl (Nat.le_of_ble_eq_true rfl) (by decide +kernel) rfl (Nat.le_of_ble_eq_true rfl) _ (ent_pad 1 rfl) (l_X7_ticksUntil g _ _ _ _ H) (fun v7 h6 H hzv7 => ?_)
    refine wm_istore_n 2 31 [some _, some _, some _] (by decide +kernel) rfl (by decide +kernel) (okS_spec rfl) rfl ?_
    refine wm_iload_n 2 32 (by decide +kernel) rfl rfl ?_
    refine wm_if_ge 35 44 (by decide +kernel : decode cX7_all 32 = .ok (.ifCond .ge 12, 3)) (by decide) rfl (fun c8 => ?_) (fun c8 => ?_)
    · replace H := H.1 c8
      refine wm_iload_n 2 45 (by decide +kernel) rfl rfl ?_
      exact wm_iret (by decide +kernel) ⟨.int, rfl, rfl⟩ H
    · replace H := H.2 c8
      refine wm_aload_n 0 36 (by decide +kernel) rfl rfl ?_
      refine wm_ldc (-1000000004) 38 co_RX7_211 (by decide +kernel) rfl ?_
      refine wm_callVi mX7_found 1 7 [_] [] _ _ 41 mo_X7_found np_X7_found ml_RX7_59 im_X7_found se_X7_found (by decide +kernel) (by decide +kernel) rfl rfl rfl (Nat.le_of_ble_eq_true rfl) (by decide +kernel) rfl (Nat.le_of_ble_eq_true rfl) _ (ent_pad 1 rfl) (l_X7_found g _ _ _ H) (fun v10 h9 H hzv10 => ?_)
      refine wm_goto 45 (by decide +kernel : decode cX7_all 41 = .ok (.goto 4, 3)) (by decide) ?_
      exact wm_iret (by decide +kernel) ⟨.int, rfl, rfl⟩ H
  · replace H := H.1 c3
    refine wm_aload_n 0 12 (by decide +kernel) rfl rfl ?_
    refine wm_ldc (-1000000001) 14 co_RX7_58 (by decide +kernel) rfl ?_
    refine wm_callVi mX7_found 1 7 [_] [] _ _ 17 mo_X7_found np_X7_found ml_RX7_59 im_X7_found se_X7_found (by decide +kernel) (by decide +kernel) rfl rfl rfl (Nat.le_of_ble_eq_true rfl) (by decide +kernel) rfl (Nat.le_of_ble_eq_true rfl) _ (ent_pad 1 rfl) (l_X7_found g _ _ _ H) (fun v12 h11 H hzv12 => ?_)
    exact wm_iret (by decide +kernel) ⟨.int, rfl, rfl⟩ H
def f_X7_near (x1 : Int32) (x2 : Int32) (x3 : Int32) (h : HP) (Q : Int32 → HP → Prop) : Prop :=
  f_X6_hasStation 1 x1 h (fun v2 h1 =>
  (((v2 = 0) →
    f_X7_found (-1000000001 : Int32) h1 (fun v5 h4 =>
    Q v5 h4)) ∧
   (¬ (v2 = 0) →
    f_X7_isAsked x2 x3 h1 (fun v7 h6 =>
    (((v7 = 0) →
      f_X7_found (-1000000001 : Int32) h6 (fun v15 h14 =>
      Q v15 h14)) ∧
     (¬ (v7 = 0) →
      f_X7_mostIn 1 x2 x3 h6 (fun v10 h9 =>
      f_X1_searchNear h9 (fun h11 =>
      f_X1_ticksNear x1 h11 (fun v13 h12 =>
      Q v13 h12)))))))))
set_option maxRecDepth 20000 in
theorem l_X7_near (g : GE) (x1 : Int32) (x2 : Int32) (x3 : Int32)  (h : HP) (Q : Int32 → HP → Prop) (H : f_X7_near x1 x2 x3 h Q) : Wm g mX7_near 0 [some (.ref 0), some (.int x1), some (.int x2), some (.int x3)] [] h (qi Q) := by
  unfold f_X7_near at H
  refine wm_aload_n 0 1 (by decide +kernel) rfl rfl ?_
  refine wm_getr 7 0 1 1 4 fl_RX7_10 (by decide +kernel) rfl (by decide +kernel) rfl rfl (by decide) ?_
  refine wm_iload_n 1 5 (by decide +kernel) rfl rfl ?_
  refine wm_callVi mX6_hasStation 1 6 [_] [] _ _ 8 mo_X6_hasStation np_X6_hasStation ml_RX7_95 im_X6_hasStation se_X6_hasStation (by decide +kernel) (by decide +kernel) rfl rfl rfl (Nat.le_of_ble_eq_true rfl) (by decide +kernel) rfl (Nat.le_of_ble_eq_true rfl) _ (ent_pad 0 rfl) (l_X6_hasStation g _ _ (by decide +kernel) _ _ H) (fun v2 h1 H hzv2 => ?_)
  refine wm_if_eq 11 20 (by decide +kernel : decode cX7_near 8 = .ok (.ifCond .eq 12, 3)) (by decide) rfl (fun c3 => ?_) (fun c3 => ?_)
  · replace H := H.1 c3
    refine wm_aload_n 0 21 (by decide +kernel) rfl rfl ?_
    refine wm_ldc (-1000000001) 23 co_RX7_58 (by decide +kernel) rfl ?_
    refine wm_callVi mX7_found 1 7 [_] [] _ _ 26 mo_X7_found np_X7_found ml_RX7_59 im_X7_found se_X7_found (by decide +kernel) (by decide +kernel) rfl rfl rfl (Nat.le_of_ble_eq_true rfl) (by decide +kernel) rfl (Nat.le_of_ble_eq_true rfl) _ (ent_pad 1 rfl) (l_X7_found g _ _ _ H) (fun v5 h4 H hzv5 => ?_)
    exact wm_iret (by decide +kernel) ⟨.int, rfl, rfl⟩ H
  · replace H := H.2 c3
    refine wm_aload_n 0 12 (by decide +kernel) rfl rfl ?_
    refine wm_iload_n 2 13 (by decide +kernel) rfl rfl ?_
    refine wm_iload_n 3 14 (by decide +kernel) rfl rfl ?_
    refine wm_callVi mX7_isAsked 2 7 [_, _] [] _ _ 17 mo_X7_isAsked np_X7_isAsked ml_RX7_201 im_X7_isAsked se_X7_isAsked (by decide +kernel) (by decide +kernel) rfl rfl rfl (Nat.le_of_ble_eq_true rfl) (by decide +kernel) rfl (Nat.le_of_ble_eq_true rfl) _ (ent_pad 0 rfl) (l_X7_isAsked g _ _ _ _ H) (fun v7 h6 H hzv7 => ?_)
    refine wm_if_ne 20 27 (by decide +kernel : decode cX7_near 17 = .ok (.ifCond .ne 10, 3)) (by decide) rfl (fun c8 => ?_) (fun c8 => ?_)
    · replace H := H.2 c8
      refine wm_aload_n 0 28 (by decide +kernel) rfl rfl ?_
      refine wm_aload_n 0 29 (by decide +kernel) rfl rfl ?_
      refine wm_getr 7 0 1 1 32 fl_RX7_10 (by decide +kernel) rfl (by decide +kernel) rfl rfl (by decide) ?_
      refine wm_iload_n 2 33 (by decide +kernel) rfl rfl ?_
      refine wm_iload_n 3 34 (by decide +kernel) rfl rfl ?_
      refine wm_callVi mX7_mostIn 3 7 [_, _, _] [] _ _ 37 mo_X7_mostIn np_X7_mostIn ml_RX7_204 im_X7_mostIn se_X7_mostIn (by decide +kernel) (by decide +kernel) rfl rfl rfl (Nat.le_of_ble_eq_true rfl) (by decide +kernel) rfl (Nat.le_of_ble_eq_true rfl) _ (ent_pad 0 rfl) (l_X7_mostIn g _ _ _ (by decide +kernel) _ _ H) (fun v10 h9 H hzv10 => ?_)
      refine wm_pop 38 (by decide +kernel) rfl rfl ?_
      refine wm_aload_n 0 39 (by decide +kernel) rfl rfl ?_
      refine wm_getr 7 3 88 88 42 fl_RX7_25 (by decide +kernel) rfl (by decide +kernel) rfl rfl (by decide) ?_
      refine wm_callVv mX1_searchNear 0 1 [] [] _ _ 45 mo_X1_searchNear np_X1_searchNear ml_RX7_215 im_X1_searchNear se_X1_searchNear (by decide +kernel) (by decide +kernel) rfl rfl rfl (Nat.le_of_ble_eq_true rfl) (by decide +kernel) rfl (Nat.le_of_ble_eq_true rfl) _ (ent_pad 5 rfl) (l_X1_searchNear g _ _ H) (fun h11 H => ?_)
      refine wm_aload_n 0 46 (by decide +kernel) rfl rfl ?_
      refine wm_getr 7 3 88 88 49 fl_RX7_25 (by decide +kernel) rfl (by decide +kernel) rfl rfl (by decide) ?_
      refine wm_iload_n 1 50 (by decide +kernel) rfl rfl ?_
      refine wm_callVi mX1_ticksNear 1 1 [_] [] _ _ 53 mo_X1_ticksNear np_X1_ticksNear ml_RX7_218 im_X1_ticksNear se_X1_ticksNear (by decide +kernel) (by decide +kernel) rfl rfl rfl (Nat.le_of_ble_eq_true rfl) (by decide +kernel) rfl (Nat.le_of_ble_eq_true rfl) _ (ent_pad 2 rfl) (l_X1_ticksNear g _ _ _ H) (fun v13 h12 H hzv13 => ?_)
      exact wm_iret (by decide +kernel) ⟨.int, rfl, rfl⟩ H
    · replace H := H.1 c8
      refine wm_aload_n 0 21 (by decide +kernel) rfl rfl ?_
      refine wm_ldc (-1000000001) 23 co_RX7_58 (by decide +kernel) rfl ?_
      refine wm_callVi mX7_found 1 7 [_] [] _ _ 26 mo_X7_found np_X7_found ml_RX7_59 im_X7_found se_X7_found (by decide +kernel) (by decide +kernel) rfl rfl rfl (Nat.le_of_ble_eq_true rfl) (by decide +kernel) rfl (Nat.le_of_ble_eq_true rfl) _ (ent_pad 1 rfl) (l_X7_found g _ _ _ H) (fun v15 h14 H hzv15 => ?_)
      exact wm_iret (by decide +kernel) ⟨.int, rfl, rfl⟩ H
def f_X7_sheetFault (x1 : Int32) (h : HP) (Q : Int32 → HP → Prop) : Prop :=
  f_X7_isIn x1 0 3 h (fun v2 h1 =>
  (((v2 = 0) →
    Q (-1000000001 : Int32) h1) ∧
   (¬ (v2 = 0) →
    vp_in x1 4 ∧
    Q (if (gi h1 (107 + 2 + 2 * ix x1) 1) = 0 then ((-1000000006 : Int32) : Int32) else 0) h1)))
set_option maxRecDepth 20000 in
theorem l_X7_sheetFault (g : GE) (x1 : Int32)  (h : HP) (Q : Int32 → HP → Prop) (H : f_X7_sheetFault x1 h Q) : Wm g mX7_sheetFault 0 [some (.ref 0), some (.int x1)] [] h (qi Q) := by
  unfold f_X7_sheetFault at H
  refine wm_iload_n 1 1 (by decide +kernel) rfl rfl ?_
  refine wm_iconst 0 2 (by decide +kernel : decode cX7_sheetFault 1 = .ok (.iconst 0, 1)) rfl (by decide +kernel) ?_
  refine wm_iconst 3 3 (by decide +kernel : decode cX7_sheetFault 2 = .ok (.iconst 3, 1)) rfl (by decide +kernel) ?_
  refine wm_callSi mX7_isIn 3 [_, _, _] [] _ _ 6 mo_X7_isIn np_X7_isIn ml_RX7_54 sc_X7_isIn (by decide +kernel) (by decide +kernel) rfl rfl rfl (Nat.le_of_ble_eq_true rfl) (Nat.le_of_ble_eq_true rfl) _ (ent_pad 0 rfl) (l_X7_isIn g _ _ _ _ _ H) (fun v2 h1 H hzv2 => ?_)
  refine wm_if_ne 9 12 (by decide +kernel : decode cX7_sheetFault 6 = .ok (.ifCond .ne 6, 3)) (by decide) rfl (fun c3 => ?_) (fun c3 => ?_)
  · replace H := H.2 c3
    refine wm_aload_n 0 13 (by decide +kernel) rfl rfl ?_
    refine wm_getr 7 6 107 107 16 fl_RX7_45 (by decide +kernel) rfl (by decide +kernel) rfl rfl (by decide) ?_
    refine wm_iload_n 1 17 (by decide +kernel) rfl rfl ?_
    obtain ⟨o4, H⟩ := H
    refine wm_aald 4 _ 18 (by decide +kernel) rfl (Or.inr (Or.inr ⟨(by decide +kernel), rfl⟩)) (by decide +kernel) o4 ?_
    refine wm_geti 2 1 21 fl_RX7_314 (by decide +kernel) rfl (E_sh (by decide +kernel) (vp_in_lt o4)) rfl ?_
    refine' wm_dia (pcJ := 31) (fun kt kf => wm_if_ne 24 30 (by decide +kernel : decode cX7_sheetFault 21 = .ok (.ifCond .ne 9, 3)) (by decide) rfl kf kt) ?D6k (fun kj c1 => ?D6t) (fun kj c1 => ?D6f)
    case D6t =>
      refine wm_ldcw (-1000000006) 27 co_RX7_317 (by decide +kernel) rfl ?_
      refine wm_goto 31 (by decide +kernel : decode cX7_sheetFault 27 = .ok (.goto 4, 3)) (by decide) ?_
      exact kj
    case D6f =>
      refine wm_iconst 0 31 (by decide +kernel : decode cX7_sheetFault 30 = .ok (.iconst 0, 1)) rfl (by decide +kernel) ?_
      exact kj
    case D6k =>
      exact wm_iret (by decide +kernel) ⟨.int, rfl, rfl⟩ H
  · replace H := H.1 c3
    refine wm_ldc (-1000000001) 11 co_RX7_58 (by decide +kernel) rfl ?_
    exact wm_iret (by decide +kernel) ⟨.int, rfl, rfl⟩ H
def f_X7_cost (x1 : Int32) (x2 : Int32) (x3 : Int32) (h : HP) (Q : Int32 → HP → Prop) : Prop :=
  f_X7_sheetFault x1 h (fun v2 h1 =>
  (((v2 = 0) →
    f_X7_isAsked x2 x3 h1 (fun v5 h4 =>
    (((v5 = 0) →
      f_X7_found (-1000000001 : Int32) h4 (fun v18 h17 =>
      Q v18 h17)) ∧
     (¬ (v5 = 0) →
      vp_in x1 4 ∧
      f_X2_entry (107 + 2 + 2 * ix x1) x2 x3 h4 (fun v9 h8 =>
      (((x3 < v9) →
        f_X6_costOutside 1 (107 + 2 + 2 * ix x1) x3 h8 (fun v12 h11 =>
        f_X6_costOfLines 1 (107 + 2 + 2 * ix x1) x3 h11 (fun v14 h13 =>
        Q (v12 + v14) h13))) ∧
       (¬ (x3 < v9) →
        f_X7_found (-1000000005 : Int32) h8 (fun v16 h15 =>
        Q v16 h15)))))))) ∧
   (¬ (v2 = 0) →
    f_X7_found v2 h1 (fun v20 h19 =>
    Q v20 h19))))
set_option maxRecDepth 20000 in
theorem l_X7_cost (g : GE) (x1 : Int32) (x2 : Int32) (x3 : Int32)  (h : HP) (Q : Int32 → HP → Prop) (H : f_X7_cost x1 x2 x3 h Q) : Wm g mX7_cost 0 [some (.ref 0), some (.int x1), some (.int x2), some (.int x3), none, none] [] h (qi Q) := by
  unfold f_X7_cost at H
  refine wm_aload_n 0 1 (by decide +kernel) rfl rfl ?_
  refine wm_iload_n 1 2 (by decide +kernel) rfl rfl ?_
  refine wm_callVi mX7_sheetFault 1 7 [_] [] _ _ 5 mo_X7_sheetFault np_X7_sheetFault ml_RX7_221 im_X7_sheetFault se_X7_sheetFault (by decide +kernel) (by decide +kernel) rfl rfl rfl (Nat.le_of_ble_eq_true rfl) (by decide +kernel) rfl (Nat.le_of_ble_eq_true rfl) _ (ent_pad 0 rfl) (l_X7_sheetFault g _ _ _ H) (fun v2 h1 H hzv2 => ?_)
  refine wm_istore 4 7 [some _, some _, some _, some _, some _, none] (by decide +kernel) rfl (by decide +kernel) (okS_spec rfl) rfl ?_
  refine wm_iload 4 9 (by decide +kernel) rfl rfl ?_
  refine wm_if_eq 12 19 (by decide +kernel : decode cX7_cost 9 = .ok (.ifCond .eq 10, 3)) (by decide) rfl (fun c3 => ?_) (fun c3 => ?_)
  · replace H := H.1 c3
    refine wm_aload_n 0 20 (by decide +kernel) rfl rfl ?_
    refine wm_iload_n 2 21 (by decide +kernel) rfl rfl ?_
    refine wm_iload_n 3 22 (by decide +kernel) rfl rfl ?_
    refine wm_callVi mX7_isAsked 2 7 [_, _] [] _ _ 25 mo_X7_isAsked np_X7_isAsked ml_RX7_201 im_X7_isAsked se_X7_isAsked (by decide +kernel) (by decide +kernel) rfl rfl rfl (Nat.le_of_ble_eq_true rfl) (by decide +kernel) rfl (Nat.le_of_ble_eq_true rfl) _ (ent_pad 0 rfl) (l_X7_isAsked g _ _ _ _ H) (fun v5 h4 H hzv5 => ?_)
    refine wm_if_ne 28 35 (by decide +kernel : decode cX7_cost 25 = .ok (.ifCond .ne 10, 3)) (by decide) rfl (fun c6 => ?_) (fun c6 => ?_)
    · replace H := H.2 c6
      refine wm_aload_n 0 36 (by decide +kernel) rfl rfl ?_
      refine wm_getr 7 6 107 107 39 fl_RX7_45 (by decide +kernel) rfl (by decide +kernel) rfl rfl (by decide) ?_
      refine wm_iload_n 1 40 (by decide +kernel) rfl rfl ?_
      obtain ⟨o7, H⟩ := H
      refine wm_aald 4 _ 41 (by decide +kernel) rfl (Or.inr (Or.inr ⟨(by decide +kernel), rfl⟩)) (by decide +kernel) o7 ?_
      refine wm_astore 5 43 [some _, some _, some _, some _, some _, some _] (by decide +kernel) rfl (by decide +kernel) (okS_spec rfl) rfl ?_
      refine wm_aload 5 45 (by decide +kernel) rfl rfl ?_
      refine wm_iload_n 2 46 (by decide +kernel) rfl rfl ?_
      refine wm_iload_n 3 47 (by decide +kernel) rfl rfl ?_
      refine wm_callVi mX2_entry 2 2 [_, _] [] _ _ 50 mo_X2_entry np_X2_entry ml_RX7_224 im_X2_entry se_X2_entry (by decide +kernel) (by decide +kernel) rfl rfl rfl (Nat.le_of_ble_eq_true rfl) (E_sh (by decide +kernel) (vp_in_lt o7)) rfl (Nat.le_of_ble_eq_true rfl) _ (ent_pad 0 rfl) (l_X2_entry g _ _ _ (E_sh (by decide +kernel) (vp_in_lt o7)) _ _ H) (fun v9 h8 H hzv9 => ?_)
      refine wm_iload_n 3 51 (by decide +kernel) rfl rfl ?_
      refine wm_icmp_gt 54 61 (by decide +kernel : decode cX7_cost 51 = .ok (.if_icmp .gt 10, 3)) (by decide) rfl (fun c10 => ?_) (fun c10 => ?_)
      · replace H := H.1 c10
        refine wm_aload_n 0 62 (by decide +kernel) rfl rfl ?_
        refine wm_getr 7 0 1 1 65 fl_RX7_10 (by decide +kernel) rfl (by decide +kernel) rfl rfl (by decide) ?_
        refine wm_aload 5 67 (by decide +kernel) rfl rfl ?_
        refine wm_iload_n 3 68 (by decide +kernel) rfl rfl ?_
        refine wm_callVi mX6_costOutside 2 6 [_, _] [] _ _ 71 mo_X6_costOutside np_X6_costOutside ml_RX7_227 im_X6_costOutside se_X6_costOutside (by decide +kernel) (by decide +kernel) rfl rfl rfl (Nat.le_of_ble_eq_true rfl) (by decide +kernel) rfl (Nat.le_of_ble_eq_true rfl) _ (ent_pad 4 rfl) (l_X6_costOutside g _ _ _ (by decide +kernel) (E_sh (by decide +kernel) (vp_in_lt o7)) _ _ H) (fun v12 h11 H hzv12 => ?_)
        refine wm_aload_n 0 72 (by decide +kernel) rfl rfl ?_
        refine wm_getr 7 0 1 1 75 fl_RX7_10 (by decide +kernel) rfl (by decide +kernel) rfl rfl (by decide) ?_
        refine wm_aload 5 77 (by decide +kernel) rfl rfl ?_
        refine wm_iload_n 3 78 (by decide +kernel) rfl rfl ?_
        refine wm_callVi mX6_costOfLines 2 6 [_, _] [_] _ _ 81 mo_X6_costOfLines np_X6_costOfLines ml_RX7_231 im_X6_costOfLines se_X6_costOfLines (by decide +kernel) (by decide +kernel) rfl rfl rfl (Nat.le_of_ble_eq_true rfl) (by decide +kernel) rfl (Nat.le_of_ble_eq_true rfl) _ (ent_pad 5 rfl) (l_X6_costOfLines g _ _ _ (by decide +kernel) (E_sh (by decide +kernel) (vp_in_lt o7)) _ _ H) (fun v14 h13 H hzv14 => ?_)
        refine wm_iadd 82 (by decide +kernel) rfl ?_
        exact wm_iret (by decide +kernel) ⟨.int, rfl, rfl⟩ H
      · replace H := H.2 c10
        refine wm_aload_n 0 55 (by decide +kernel) rfl rfl ?_
        refine wm_ldc (-1000000005) 57 co_RX7_175 (by decide +kernel) rfl ?_
        refine wm_callVi mX7_found 1 7 [_] [] _ _ 60 mo_X7_found np_X7_found ml_RX7_59 im_X7_found se_X7_found (by decide +kernel) (by decide +kernel) rfl rfl rfl (Nat.le_of_ble_eq_true rfl) (by decide +kernel) rfl (Nat.le_of_ble_eq_true rfl) _ (ent_pad 1 rfl) (l_X7_found g _ _ _ H) (fun v16 h15 H hzv16 => ?_)
        exact wm_iret (by decide +kernel) ⟨.int, rfl, rfl⟩ H
    · replace H := H.1 c6
      refine wm_aload_n 0 29 (by decide +kernel) rfl rfl ?_
      refine wm_ldc (-1000000001) 31 co_RX7_58 (by decide +kernel) rfl ?_
      refine wm_callVi mX7_found 1 7 [_] [] _ _ 34 mo_X7_found np_X7_found ml_RX7_59 im_X7_found se_X7_found (by decide +kernel) (by decide +kernel) rfl rfl rfl (Nat.le_of_ble_eq_true rfl) (by decide +kernel) rfl (Nat.le_of_ble_eq_true rfl) _ (ent_pad 1 rfl) (l_X7_found g _ _ _ H) (fun v18 h17 H hzv18 => ?_)
      exact wm_iret (by decide +kernel) ⟨.int, rfl, rfl⟩ H
  · replace H := H.2 c3
    refine wm_aload_n 0 13 (by decide +kernel) rfl rfl ?_
    refine wm_iload 4 15 (by decide +kernel) rfl rfl ?_
    refine wm_callVi mX7_found 1 7 [_] [] _ _ 18 mo_X7_found np_X7_found ml_RX7_59 im_X7_found se_X7_found (by decide +kernel) (by decide +kernel) rfl rfl rfl (Nat.le_of_ble_eq_true rfl) (by decide +kernel) rfl (Nat.le_of_ble_eq_true rfl) _ (ent_pad 1 rfl) (l_X7_found g _ _ _ H) (fun v20 h19 H hzv20 => ?_)
    exact wm_iret (by decide +kernel) ⟨.int, rfl, rfl⟩ H
def f_X7_mostHeld (x1 : Int32) (x2 : Int32) (x3 : Int32) (x4 : Int32) (h : HP) (Q : Int32 → HP → Prop) : Prop :=
  f_X1_open 1 x3 h (fun h1 =>
  f_X1_hold x1 x2 h1 (fun h2 =>
  f_X1_flowBehind x4 h2 (fun v4 h3 =>
  Q v4 h3)))
set_option maxRecDepth 20000 in
theorem l_X7_mostHeld (g : GE) (x1 : Int32) (x2 : Int32) (x3 : Int32) (x4 : Int32)  (h : HP) (Q : Int32 → HP → Prop) (H : f_X7_mostHeld x1 x2 x3 x4 h Q) : Wm g mX7_mostHeld 0 [some (.ref 0), some (.int x1), some (.int x2), some (.int x3), some (.int x4)] [] h (qi Q) := by
  unfold f_X7_mostHeld at H
  refine wm_aload_n 0 1 (by decide +kernel) rfl rfl ?_
  refine wm_getr 7 3 88 88 4 fl_RX7_25 (by decide +kernel) rfl (by decide +kernel) rfl rfl (by decide) ?_
  refine wm_aload_n 0 5 (by decide +kernel) rfl rfl ?_
  refine wm_getr 7 0 1 1 8 fl_RX7_10 (by decide +kernel) rfl (by decide +kernel) rfl rfl (by decide) ?_
  refine wm_iload_n 3 9 (by decide +kernel) rfl rfl ?_
  refine wm_callVv mX1_open 2 1 [_, _] [] _ _ 12 mo_X1_open np_X1_open ml_RX7_334 im_X1_open se_X1_open (by decide +kernel) (by decide +kernel) rfl rfl rfl (Nat.le_of_ble_eq_true rfl) (by decide +kernel) rfl (Nat.le_of_ble_eq_true rfl) _ (ent_pad 0 rfl) (l_X1_open g _ _ (by decide +kernel) _ _ H) (fun h1 H => ?_)
  refine wm_aload_n 0 13 (by decide +kernel) rfl rfl ?_
  refine wm_getr 7 3 88 88 16 fl_RX7_25 (by decide +kernel) rfl (by decide +kernel) rfl rfl (by decide) ?_
  refine wm_iload_n 1 17 (by decide +kernel) rfl rfl ?_
  refine wm_iload_n 2 18 (by decide +kernel) rfl rfl ?_
  refine wm_callVv mX1_hold 2 1 [_, _] [] _ _ 21 mo_X1_hold np_X1_hold ml_RX7_353 im_X1_hold se_X1_hold (by decide +kernel) (by decide +kernel) rfl rfl rfl (Nat.le_of_ble_eq_true rfl) (by decide +kernel) rfl (Nat.le_of_ble_eq_true rfl) _ (ent_pad 0 rfl) (l_X1_hold g _ _ _ _ H) (fun h2 H => ?_)
  refine wm_aload_n 0 22 (by decide +kernel) rfl rfl ?_
  refine wm_getr 7 3 88 88 25 fl_RX7_25 (by decide +kernel) rfl (by decide +kernel) rfl rfl (by decide) ?_
  refine wm_iload 4 27 (by decide +kernel) rfl rfl ?_
  refine wm_callVi mX1_flowBehind 1 1 [_] [] _ _ 30 mo_X1_flowBehind np_X1_flowBehind ml_RX7_338 im_X1_flowBehind se_X1_flowBehind (by decide +kernel) (by decide +kernel) rfl rfl rfl (Nat.le_of_ble_eq_true rfl) (by decide +kernel) rfl (Nat.le_of_ble_eq_true rfl) _ (ent_pad 1 rfl) (l_X1_flowBehind g _ _ _ H) (fun v4 h3 H hzv4 => ?_)
  exact wm_iret (by decide +kernel) ⟨.int, rfl, rfl⟩ H
def f_X7_lose_L59 (x1 : Int32) (x2 : Int32) (x4 : Int32)  (Q : Int32 → HP → Prop) : Nat → Int32 → Int32 → Int32 → HP → Prop
  | 0, _, _, _, _ => False
  | n + 1, x3, x5, x6, h =>
    ((((gi h 1 3) ≤ x6) →
      Q x5 h) ∧
     (¬ ((gi h 1 3) ≤ x6) →
      (((((x4 >>> (x6 &&& 31)) &&& 1) = 0) →
        ∀ x6_11 : Int32, x6_11 = (x6 + 1) →
        f_X7_lose_L59 x1 x2 x4 Q n x3 x5 x6_11 h) ∧
       (¬ (((x4 >>> (x6 &&& 31)) &&& 1) = 0) →
        f_X7_mostHeld x6 0 x1 x2 h (fun v13 h12 =>
        (((x3 ≤ v13) →
          ∀ x6_15 : Int32, x6_15 = (x6 + 1) →
          f_X7_lose_L59 x1 x2 x4 Q n x3 x5 x6_15 h12) ∧
         (¬ (x3 ≤ v13) →
          ∀ x6_16 : Int32, x6_16 = (x6 + 1) →
          f_X7_lose_L59 x1 x2 x4 Q n v13 x6 x6_16 h12)))))))
def f_X7_lose (x1 : Int32) (x2 : Int32) (h : HP) (Q : Int32 → HP → Prop) : Prop :=
  f_X7_isAsked x1 x2 h (fun v2 h1 =>
  (((v2 = 0) →
    f_X7_found (-1000000001 : Int32) h1 (fun v21 h20 =>
    Q v21 h20)) ∧
   (¬ (v2 = 0) →
    ((((gi h1 1 3) = 0) →
      f_X7_found (-1000000004 : Int32) h1 (fun v19 h18 =>
      Q v19 h18)) ∧
     (¬ ((gi h1 1 3) = 0) →
      f_X7_mostIn 1 x1 x2 h1 (fun v6 h5 =>
      f_X1_busyLines h5 (fun v8 h7 =>
      ∃ n17, f_X7_lose_L59 x1 x2 v8
        Q n17 v6 0 0 h7)))))))
set_option maxRecDepth 20000 in
theorem l_X7_lose_L59 (g : GE) (x1 : Int32) (x2 : Int32) (x4 : Int32)   (Q : Int32 → HP → Prop)  : ∀ (n : Nat) (x3 : Int32) (x5 : Int32) (x6 : Int32) (h : HP), f_X7_lose_L59 x1 x2 x4 Q n x3 x5 x6 h → Wm g mX7_lose 59 [some (.ref 0), some (.int x1), some (.int x2), some (.int x3), some (.int x4), some (.int x5), some (.int x6), none] [] h (qi Q) := by
  intro n
  induction n with
  | zero => intro x3 x5 x6 h H; exact H.elim
  | succ n ih =>
    intro x3 x5 x6 h H
    unfold f_X7_lose_L59 at H
    refine wm_iload 6 61 (by decide +kernel) rfl rfl ?_
    refine wm_aload_n 0 62 (by decide +kernel) rfl rfl ?_
    refine wm_getr 7 0 1 1 65 fl_RX7_10 (by decide +kernel) rfl (by decide +kernel) rfl rfl (by decide) ?_
    refine wm_geti 6 3 68 fl_RX7_76 (by decide +kernel) rfl (by decide +kernel) rfl ?_
    refine wm_icmp_ge 71 111 (by decide +kernel : decode cX7_lose 68 = .ok (.if_icmp .ge 43, 3)) (by decide) rfl (fun c9 => ?_) (fun c9 => ?_)
    · replace H := H.1 c9
      refine wm_iload 5 113 (by decide +kernel) rfl rfl ?_
      exact wm_iret (by decide +kernel) ⟨.int, rfl, rfl⟩ H
    · replace H := H.2 c9
      refine wm_iload 4 73 (by decide +kernel) rfl rfl ?_
      refine wm_iload 6 75 (by decide +kernel) rfl rfl ?_
      refine wm_ishr 76 (by decide +kernel) rfl ?_
      refine wm_iconst 1 77 (by decide +kernel : decode cX7_lose 76 = .ok (.iconst 1, 1)) rfl (by decide +kernel) ?_
      refine wm_iand 78 (by decide +kernel) rfl ?_
      refine wm_if_eq 81 105 (by decide +kernel : decode cX7_lose 78 = .ok (.ifCond .eq 27, 3)) (by decide) rfl (fun c10 => ?_) (fun c10 => ?_)
      · replace H := H.1 c10
        replace H := H _ rfl
        refine wm_iinc 6 (_ + 1) 108 [some _, some _, some _, some _, some _, some _, some _, none] (by decide +kernel : decode cX7_lose 105 = .ok (.iinc 6 1, 3)) rfl (by decide +kernel) rfl (ofI_eq (by decide +kernel)) (okS_spec rfl) rfl ?_
        refine wm_goto 59 (by decide +kernel : decode cX7_lose 108 = .ok (.goto (-49), 3)) (by decide) ?_
        exact ih _ _ _ _ H
      · replace H := H.2 c10
        refine wm_aload_n 0 82 (by decide +kernel) rfl rfl ?_
        refine wm_iload 6 84 (by decide +kernel) rfl rfl ?_
        refine wm_iconst 0 85 (by decide +kernel : decode cX7_lose 84 = .ok (.iconst 0, 1)) rfl (by decide +kernel) ?_
        refine wm_iload_n 1 86 (by decide +kernel) rfl rfl ?_
        refine wm_iload_n 2 87 (by decide +kernel) rfl rfl ?_
        refine wm_callVi mX7_mostHeld 4 7 [_, _, _, _] [] _ _ 90 mo_X7_mostHeld np_X7_mostHeld ml_RX7_237 im_X7_mostHeld se_X7_mostHeld (by decide +kernel) (by decide +kernel) rfl rfl rfl (Nat.le_of_ble_eq_true rfl) (by decide +kernel) rfl (Nat.le_of_ble_eq_true rfl) _ (ent_pad 0 rfl) (l_X7_mostHeld g _ _ _ _ _ _ H) (fun v13 h12 H hzv13 => ?_)
        refine wm_istore 7 92 [some _, some _, some _, some _, some _, some _, some _, some _] (by decide +kernel) rfl (by decide +kernel) (okS_spec rfl) rfl ?_
        refine wm_iload 7 94 (by decide +kernel) rfl rfl ?_
        refine wm_iload_n 3 95 (by decide +kernel) rfl rfl ?_
        refine wm_icmp_ge 98 105 (by decide +kernel : decode cX7_lose 95 = .ok (.if_icmp .ge 10, 3)) (by decide) rfl (fun c14 => ?_) (fun c14 => ?_)
        · replace H := H.1 c14
          replace H := H _ rfl
          refine wm_iinc 6 (_ + 1) 108 [some _, some _, some _, some _, some _, some _, some _, some _] (by decide +kernel : decode cX7_lose 105 = .ok (.iinc 6 1, 3)) rfl (by decide +kernel) rfl (ofI_eq (by decide +kernel)) (okS_spec rfl) rfl ?_
          refine wm_goto 59 (by decide +kernel : decode cX7_lose 108 = .ok (.goto (-49), 3)) (by decide) ?_
          refine wm_mask [true, true, true, true, true, true, true, false] [some _, some _, some _, some _, some _, some _, some _, none] rfl ?_
          exact ih _ _ _ _ H
        · replace H := H.2 c14
          refine wm_iload 7 100 (by decide +kernel) rfl rfl ?_
          refine wm_istore_n 3 101 [some _, some _, some _, some _, some _, some _, some _, some _] (by decide +kernel) rfl (by decide +kernel) (okS_spec rfl) rfl ?_
          refine wm_iload 6 103 (by decide +kernel) rfl rfl ?_
          refine wm_istore 5 105 [some _, some _, some _, some _, some _, some _, some _, some _] (by decide +kernel) rfl (by decide +kernel) (okS_spec rfl) rfl ?_
          replace H := H _ rfl
          refine wm_iinc 6 (_ + 1) 108 [some _, some _, some _, some _, some _, some _, some _, some _] (by decide +kernel : decode cX7_lose 105 = .ok (.iinc 6 1, 3)) rfl (by decide +kernel) rfl (ofI_eq (by decide +kernel)) (okS_spec rfl) rfl ?_
          refine wm_goto 59 (by decide +kernel : decode cX7_lose 108 = .ok (.goto (-49), 3)) (by decide) ?_
          refine wm_mask [true, true, true, true, true, true, true, false] [some _, some _, some _, some _, some _, some _, some _, none] rfl ?_
          exact ih _ _ _ _ H
set_option maxRecDepth 20000 in
theorem l_X7_lose (g : GE) (x1 : Int32) (x2 : Int32)  (h : HP) (Q : Int32 → HP → Prop) (H : f_X7_lose x1 x2 h Q) : Wm g mX7_lose 0 [some (.ref 0), some (.int x1), some (.int x2), none, none, none, none, none] [] h (qi Q) := by
  unfold f_X7_lose at H
  refine wm_aload_n 0 1 (by decide +kernel) rfl rfl ?_
  refine wm_iload_n 1 2 (by decide +kernel) rfl rfl ?_
  refine wm_iload_n 2 3 (by decide +kernel) rfl rfl ?_
  refine wm_callVi mX7_isAsked 2 7 [_, _] [] _ _ 6 mo_X7_isAsked np_X7_isAsked ml_RX7_201 im_X7_isAsked se_X7_isAsked (by decide +kernel) (by decide +kernel) rfl rfl rfl (Nat.le_of_ble_eq_true rfl) (by decide +kernel) rfl (Nat.le_of_ble_eq_true rfl) _ (ent_pad 0 rfl) (l_X7_isAsked g _ _ _ _ H) (fun v2 h1 H hzv2 => ?_)
  refine wm_if_ne 9 16 (by decide +kernel : decode cX7_lose 6 = .ok (.ifCond .ne 10, 3)) (by decide) rfl (fun c3 => ?_) (fun c3 => ?_)
  · replace H := H.2 c3
    refine wm_aload_n 0 17 (by decide +kernel) rfl rfl ?_
    refine wm_getr 7 0 1 1 20 fl_RX7_10 (by decide +kernel) rfl (by decide +kernel) rfl rfl (by decide) ?_
    refine wm_geti 6 3 23 fl_RX7_76 (by decide +kernel) rfl (by decide +kernel) rfl ?_
    refine wm_if_ne 26 33 (by decide +kernel : decode cX7_lose 23 = .ok (.ifCond .ne 10, 3)) (by decide) rfl (fun c4 => ?_) (fun c4 => ?_)
    · replace H := H.2 c4
      refine wm_aload_n 0 34 (by decide +kernel) rfl rfl ?_
      refine wm_aload_n 0 35 (by decide +kernel) rfl rfl ?_
      refine wm_getr 7 0 1 1 38 fl_RX7_10 (by decide +kernel) rfl (by decide +kernel) rfl rfl (by decide) ?_
      refine wm_iload_n 1 39 (by decide +kernel) rfl rfl ?_
      refine wm_iload_n 2 40 (by decide +kernel) rfl rfl ?_
      refine wm_callVi mX7_mostIn 3 7 [_, _, _] [] _ _ 43 mo_X7_mostIn np_X7_mostIn ml_RX7_204 im_X7_mostIn se_X7_mostIn (by decide +kernel) (by decide +kernel) rfl rfl rfl (Nat.le_of_ble_eq_true rfl) (by decide +kernel) rfl (Nat.le_of_ble_eq_true rfl) _ (ent_pad 0 rfl) (l_X7_mostIn g _ _ _ (by decide +kernel) _ _ H) (fun v6 h5 H hzv6 => ?_)
      refine wm_istore_n 3 44 [some _, some _, some _, some _, none, none, none, none] (by decide +kernel) rfl (by decide +kernel) (okS_spec rfl) rfl ?_
      refine wm_aload_n 0 45 (by decide +kernel) rfl rfl ?_
      refine wm_getr 7 3 88 88 48 fl_RX7_25 (by decide +kernel) rfl (by decide +kernel) rfl rfl (by decide) ?_
      refine wm_callVi mX1_busyLines 0 1 [] [] _ _ 51 mo_X1_busyLines np_X1_busyLines ml_RX7_234 im_X1_busyLines se_X1_busyLines (by decide +kernel) (by decide +kernel) rfl rfl rfl (Nat.le_of_ble_eq_true rfl) (by decide +kernel) rfl (Nat.le_of_ble_eq_true rfl) _ (ent_pad 2 rfl) (l_X1_busyLines g _ _ H) (fun v8 h7 H hzv8 => ?_)
      refine wm_istore 4 53 [some _, some _, some _, some _, some _, none, none, none] (by decide +kernel) rfl (by decide +kernel) (okS_spec rfl) rfl ?_
      refine wm_iconst 0 54 (by decide +kernel : decode cX7_lose 53 = .ok (.iconst 0, 1)) rfl (by decide +kernel) ?_
      refine wm_istore 5 56 [some _, some _, some _, some _, some _, some _, none, none] (by decide +kernel) rfl (by decide +kernel) (okS_spec rfl) rfl ?_
      refine wm_iconst 0 57 (by decide +kernel : decode cX7_lose 56 = .ok (.iconst 0, 1)) rfl (by decide +kernel) ?_
      refine wm_istore 6 59 [some _, some _, some _, some _, some _, some _, some _, none] (by decide +kernel) rfl (by decide +kernel) (okS_spec rfl) rfl ?_
      obtain ⟨n17, H⟩ := H
      refine l_X7_lose_L59 g _ _ _ _  _ _ _ _ _ H
    · replace H := H.1 c4
      refine wm_aload_n 0 27 (by decide +kernel) rfl rfl ?_
      refine wm_ldc (-1000000004) 29 co_RX7_211 (by decide +kernel) rfl ?_
      refine wm_callVi mX7_found 1 7 [_] [] _ _ 32 mo_X7_found np_X7_found ml_RX7_59 im_X7_found se_X7_found (by decide +kernel) (by decide +kernel) rfl rfl rfl (Nat.le_of_ble_eq_true rfl) (by decide +kernel) rfl (Nat.le_of_ble_eq_true rfl) _ (ent_pad 1 rfl) (l_X7_found g _ _ _ H) (fun v19 h18 H hzv19 => ?_)
      exact wm_iret (by decide +kernel) ⟨.int, rfl, rfl⟩ H
  · replace H := H.1 c3
    refine wm_aload_n 0 10 (by decide +kernel) rfl rfl ?_
    refine wm_ldc (-1000000001) 12 co_RX7_58 (by decide +kernel) rfl ?_
    refine wm_callVi mX7_found 1 7 [_] [] _ _ 15 mo_X7_found np_X7_found ml_RX7_59 im_X7_found se_X7_found (by decide +kernel) (by decide +kernel) rfl rfl rfl (Nat.le_of_ble_eq_true rfl) (by decide +kernel) rfl (Nat.le_of_ble_eq_true rfl) _ (ent_pad 1 rfl) (l_X7_found g _ _ _ H) (fun v21 h20 H hzv21 => ?_)
    exact wm_iret (by decide +kernel) ⟨.int, rfl, rfl⟩ H
def f_X7_mostWidened (x1 : Int32) (x2 : Int32) (x3 : Int32) (h : HP) (Q : Int32 → HP → Prop) : Prop :=
  f_X6_become 59 1 h (fun h1 =>
  vp_in x1 10 ∧
  ∀ h3 : HP, h3 = si h1 (61 + 7 + 2 * ix x1) 3 ((gi h1 (61 + 7 + 2 * ix x1) 3) + 1) →
  vp_in x1 10 ∧
  ∀ h5 : HP, h5 = si h3 (61 + 7 + 2 * ix x1) 6 ((gi h3 (61 + 7 + 2 * ix x1) 6) + 1) →
  f_X7_mostIn 59 x2 x3 h5 (fun v7 h6 =>
  Q v7 h6))
set_option maxRecDepth 20000 in
theorem l_X7_mostWidened (g : GE) (x1 : Int32) (x2 : Int32) (x3 : Int32)  (h : HP) (Q : Int32 → HP → Prop) (H : f_X7_mostWidened x1 x2 x3 h Q) : Wm g mX7_mostWidened 0 [some (.ref 0), some (.int x1), some (.int x2), some (.int x3)] [] h (qi Q) := by
  unfold f_X7_mostWidened at H
  refine wm_aload_n 0 1 (by decide +kernel) rfl rfl ?_
  refine wm_getr 7 2 59 59 4 fl_RX7_19 (by decide +kernel) rfl (by decide +kernel) rfl rfl (by decide) ?_
  refine wm_aload_n 0 5 (by decide +kernel) rfl rfl ?_
  refine wm_getr 7 0 1 1 8 fl_RX7_10 (by decide +kernel) rfl (by decide +kernel) rfl rfl (by decide) ?_
  refine wm_callVv mX6_become 1 6 [_] [] _ _ 11 mo_X6_become np_X6_become ml_RX7_253 im_X6_become se_X6_become (by decide +kernel) (by decide +kernel) rfl rfl rfl (Nat.le_of_ble_eq_true rfl) (by decide +kernel) rfl (Nat.le_of_ble_eq_true rfl) _ (ent_pad 1 rfl) (l_X6_become g _ _ (by decide +kernel) (by decide +kernel) _ _ H) (fun h1 H => ?_)
  refine wm_aload_n 0 12 (by decide +kernel) rfl rfl ?_
  refine wm_getr 7 2 59 59 15 fl_RX7_19 (by decide +kernel) rfl (by decide +kernel) rfl rfl (by decide) ?_
  refine wm_getr 6 5 2 61 18 fl_RX7_83 (by decide +kernel) rfl (by decide +kernel) rfl rfl (by decide) ?_
  refine wm_iload_n 1 19 (by decide +kernel) rfl rfl ?_
  obtain ⟨o2, H⟩ := H
  refine wm_aald 10 _ 20 (by decide +kernel) rfl (Or.inr (Or.inl ⟨(by decide +kernel), rfl⟩)) (by decide +kernel) o2 ?_
  refine wm_dup 21 (by decide +kernel) rfl rfl ?_
  refine wm_geti 0 3 24 fl_RX7_87 (by decide +kernel) rfl (E_ln (by decide +kernel) (vp_in_lt o2)) rfl ?_
  refine wm_iconst 1 25 (by decide +kernel : decode cX7_mostWidened 24 = .ok (.iconst 1, 1)) rfl (by decide +kernel) ?_
  refine wm_iadd 26 (by decide +kernel) rfl ?_
  replace H := H _ rfl
  refine wm_puti 0 3 29 fl_RX7_87 (by decide +kernel) rfl (E_ln (by decide +kernel) (vp_in_lt o2)) rfl rfl ⟨rfl, rfl⟩ ?_
  refine wm_aload_n 0 30 (by decide +kernel) rfl rfl ?_
  refine wm_getr 7 2 59 59 33 fl_RX7_19 (by decide +kernel) rfl (by decide +kernel) rfl rfl (by decide) ?_
  refine wm_getr 6 5 2 61 36 fl_RX7_83 (by decide +kernel) rfl (by decide +kernel) rfl rfl (by decide) ?_
  refine wm_iload_n 1 37 (by decide +kernel) rfl rfl ?_
  obtain ⟨o4, H⟩ := H
  refine wm_aald 10 _ 38 (by decide +kernel) rfl (Or.inr (Or.inl ⟨(by decide +kernel), rfl⟩)) (by decide +kernel) o4 ?_
  refine wm_dup 39 (by decide +kernel) rfl rfl ?_
  refine wm_geti 0 6 42 fl_RX7_356 (by decide +kernel) rfl (E_ln (by decide +kernel) (vp_in_lt o4)) rfl ?_
  refine wm_iconst 1 43 (by decide +kernel : decode cX7_mostWidened 42 = .ok (.iconst 1, 1)) rfl (by decide +kernel) ?_
  refine wm_iadd 44 (by decide +kernel) rfl ?_
  replace H := H _ rfl
  refine wm_puti 0 6 47 fl_RX7_356 (by decide +kernel) rfl (E_ln (by decide +kernel) (vp_in_lt o4)) rfl rfl ⟨rfl, rfl⟩ ?_
  refine wm_aload_n 0 48 (by decide +kernel) rfl rfl ?_
  refine wm_aload_n 0 49 (by decide +kernel) rfl rfl ?_
  refine wm_getr 7 2 59 59 52 fl_RX7_19 (by decide +kernel) rfl (by decide +kernel) rfl rfl (by decide) ?_
  refine wm_iload_n 2 53 (by decide +kernel) rfl rfl ?_
  refine wm_iload_n 3 54 (by decide +kernel) rfl rfl ?_
  refine wm_callVi mX7_mostIn 3 7 [_, _, _] [] _ _ 57 mo_X7_mostIn np_X7_mostIn ml_RX7_204 im_X7_mostIn se_X7_mostIn (by decide +kernel) (by decide +kernel) rfl rfl rfl (Nat.le_of_ble_eq_true rfl) (by decide +kernel) rfl (Nat.le_of_ble_eq_true rfl) _ (ent_pad 0 rfl) (l_X7_mostIn g _ _ _ (by decide +kernel) _ _ H) (fun v7 h6 H hzv7 => ?_)
  exact wm_iret (by decide +kernel) ⟨.int, rfl, rfl⟩ H
def f_X7_widen_L49 (x1 : Int32) (x2 : Int32) (x4 : Int32) (k111 : Int32 → HP → Prop) (Q : Int32 → HP → Prop) : Nat → Int32 → Int32 → Int32 → HP → Prop
  | 0, _, _, _, _ => False
  | n + 1, x3, x5, x6, h =>
    ((((gi h 1 3) ≤ x6) →
      k111 x5 h) ∧
     (¬ ((gi h 1 3) ≤ x6) →
      vp_in x6 10 ∧
      (((((x4 >>> ((gi h (3 + 7 + 2 * ix x6) 1) &&& 31)) &&& 1) = 0) →
        ∀ x6_12 : Int32, x6_12 = (x6 + 1) →
        f_X7_widen_L49 x1 x2 x4 k111 Q n x3 x5 x6_12 h) ∧
       (¬ (((x4 >>> ((gi h (3 + 7 + 2 * ix x6) 1) &&& 31)) &&& 1) = 0) →
        f_X7_mostWidened x6 x1 x2 h (fun v14 h13 =>
        (((v14 ≤ x3) →
          ∀ x6_16 : Int32, x6_16 = (x6 + 1) →
          f_X7_widen_L49 x1 x2 x4 k111 Q n x3 x5 x6_16 h13) ∧
         (¬ (v14 ≤ x3) →
          ∀ x6_17 : Int32, x6_17 = (x6 + 1) →
          f_X7_widen_L49 x1 x2 x4 k111 Q n v14 x6 x6_17 h13)))))))
def f_X7_widen (x1 : Int32) (x2 : Int32) (h : HP) (Q : Int32 → HP → Prop) : Prop :=
  f_X7_isAsked x1 x2 h (fun v2 h1 =>
  (((v2 = 0) →
    f_X7_found (-1000000001 : Int32) h1 (fun v25 h24 =>
    Q v25 h24)) ∧
   (¬ (v2 = 0) →
    f_X7_mostIn 1 x1 x2 h1 (fun v5 h4 =>
    f_X1_searchNear h4 (fun h6 =>
    f_X1_stationsNear h6 (fun v8 h7 =>
    ∃ n23, f_X7_widen_L49 x1 x2 v8
      (fun x5_18 h19 =>
        (((0 ≤ x5_18) →
          Q x5_18 h19) ∧
         (¬ (0 ≤ x5_18) →
          f_X7_found (-1000000004 : Int32) h19 (fun v22 h21 =>
          Q v22 h21))))
      Q n23 v5 (-1 : Int32) 0 h7))))))
set_option maxRecDepth 20000 in
theorem l_X7_widen_L49 (g : GE) (x1 : Int32) (x2 : Int32) (x4 : Int32)  (k111 : Int32 → HP → Prop) (Q : Int32 → HP → Prop) (hk111 : ∀ (x5 : Int32) (h : HP), k111 x5 h → Wm g mX7_widen 111 [some (.ref 0), none, none, none, none, some (.int x5), none, none] [] h (qi Q)) : ∀ (n : Nat) (x3 : Int32) (x5 : Int32) (x6 : Int32) (h : HP), f_X7_widen_L49 x1 x2 x4 k111 Q n x3 x5 x6 h → Wm g mX7_widen 49 [some (.ref 0), some (.int x1), some (.int x2), some (.int x3), some (.int x4), some (.int x5), some (.int x6), none] [] h (qi Q) := by
  intro n
  induction n with
  | zero => intro x3 x5 x6 h H; exact H.elim
  | succ n ih =>
    intro x3 x5 x6 h H
    unfold f_X7_widen_L49 at H
    refine wm_iload 6 51 (by decide +kernel) rfl rfl ?_
    refine wm_aload_n 0 52 (by decide +kernel) rfl rfl ?_
    refine wm_getr 7 0 1 1 55 fl_RX7_10 (by decide +kernel) rfl (by decide +kernel) rfl rfl (by decide) ?_
    refine wm_geti 6 3 58 fl_RX7_76 (by decide +kernel) rfl (by decide +kernel) rfl ?_
    refine wm_icmp_ge 61 111 (by decide +kernel : decode cX7_widen 58 = .ok (.if_icmp .ge 53, 3)) (by decide) rfl (fun c9 => ?_) (fun c9 => ?_)
    · replace H := H.1 c9
      refine wm_mask [true, false, false, false, false, true, false, false] [some _, none, none, none, none, some _, none, none] rfl ?_
      exact hk111 _ _ H
    · replace H := H.2 c9
      refine wm_iload 4 63 (by decide +kernel) rfl rfl ?_
      refine wm_aload_n 0 64 (by decide +kernel) rfl rfl ?_
      refine wm_getr 7 0 1 1 67 fl_RX7_10 (by decide +kernel) rfl (by decide +kernel) rfl rfl (by decide) ?_
      refine wm_getr 6 5 2 3 70 fl_RX7_83 (by decide +kernel) rfl (by decide +kernel) rfl rfl (by decide) ?_
      refine wm_iload 6 72 (by decide +kernel) rfl rfl ?_
      obtain ⟨o10, H⟩ := H
      refine wm_aald 10 _ 73 (by decide +kernel) rfl (Or.inr (Or.inl ⟨(by decide +kernel), rfl⟩)) (by decide +kernel) o10 ?_
      refine wm_geti 0 1 76 fl_RX7_151 (by decide +kernel) rfl (E_ln (by decide +kernel) (vp_in_lt o10)) rfl ?_
      refine wm_ishr 77 (by decide +kernel) rfl ?_
      refine wm_iconst 1 78 (by decide +kernel : decode cX7_widen 77 = .ok (.iconst 1, 1)) rfl (by decide +kernel) ?_
      refine wm_iand 79 (by decide +kernel) rfl ?_
      refine wm_if_eq 82 105 (by decide +kernel : decode cX7_widen 79 = .ok (.ifCond .eq 26, 3)) (by decide) rfl (fun c11 => ?_) (fun c11 => ?_)
      · replace H := H.1 c11
        replace H := H _ rfl
        refine wm_iinc 6 (_ + 1) 108 [some _, some _, some _, some _, some _, some _, some _, none] (by decide +kernel : decode cX7_widen 105 = .ok (.iinc 6 1, 3)) rfl (by decide +kernel) rfl (ofI_eq (by decide +kernel)) (okS_spec rfl) rfl ?_
        refine wm_goto 49 (by decide +kernel : decode cX7_widen 108 = .ok (.goto (-59), 3)) (by decide) ?_
        exact ih _ _ _ _ H
      · replace H := H.2 c11
        refine wm_aload_n 0 83 (by decide +kernel) rfl rfl ?_
        refine wm_iload 6 85 (by decide +kernel) rfl rfl ?_
        refine wm_iload_n 1 86 (by decide +kernel) rfl rfl ?_
        refine wm_iload_n 2 87 (by decide +kernel) rfl rfl ?_
        refine wm_callVi mX7_mostWidened 3 7 [_, _, _] [] _ _ 90 mo_X7_mostWidened np_X7_mostWidened ml_RX7_244 im_X7_mostWidened se_X7_mostWidened (by decide +kernel) (by decide +kernel) rfl rfl rfl (Nat.le_of_ble_eq_true rfl) (by decide +kernel) rfl (Nat.le_of_ble_eq_true rfl) _ (ent_pad 0 rfl) (l_X7_mostWidened g _ _ _ _ _ H) (fun v14 h13 H hzv14 => ?_)
        refine wm_istore 7 92 [some _, some _, some _, some _, some _, some _, some _, some _] (by decide +kernel) rfl (by decide +kernel) (okS_spec rfl) rfl ?_
        refine wm_iload 7 94 (by decide +kernel) rfl rfl ?_
        refine wm_iload_n 3 95 (by decide +kernel) rfl rfl ?_
        refine wm_icmp_le 98 105 (by decide +kernel : decode cX7_widen 95 = .ok (.if_icmp .le 10, 3)) (by decide) rfl (fun c15 => ?_) (fun c15 => ?_)
        · replace H := H.1 c15
          replace H := H _ rfl
          refine wm_iinc 6 (_ + 1) 108 [some _, some _, some _, some _, some _, some _, some _, some _] (by decide +kernel : decode cX7_widen 105 = .ok (.iinc 6 1, 3)) rfl (by decide +kernel) rfl (ofI_eq (by decide +kernel)) (okS_spec rfl) rfl ?_
          refine wm_goto 49 (by decide +kernel : decode cX7_widen 108 = .ok (.goto (-59), 3)) (by decide) ?_
          refine wm_mask [true, true, true, true, true, true, true, false] [some _, some _, some _, some _, some _, some _, some _, none] rfl ?_
          exact ih _ _ _ _ H
        · replace H := H.2 c15
          refine wm_iload 7 100 (by decide +kernel) rfl rfl ?_
          refine wm_istore_n 3 101 [some _, some _, some _, some _, some _, some _, some _, some _] (by decide +kernel) rfl (by decide +kernel) (okS_spec rfl) rfl ?_
          refine wm_iload 6 103 (by decide +kernel) rfl rfl ?_
          refine wm_istore 5 105 [some _, some _, some _, some _, some _, some _, some _, some _] (by decide +kernel) rfl (by decide +kernel) (okS_spec rfl) rfl ?_
          replace H := H _ rfl
          refine wm_iinc 6 (_ + 1) 108 [some _, some _, some _, some _, some _, some _, some _, some _] (by decide +kernel : decode cX7_widen 105 = .ok (.iinc 6 1, 3)) rfl (by decide +kernel) rfl (ofI_eq (by decide +kernel)) (okS_spec rfl) rfl ?_
          refine wm_goto 49 (by decide +kernel : decode cX7_widen 108 = .ok (.goto (-59), 3)) (by decide) ?_
          refine wm_mask [true, true, true, true, true, true, true, false] [some _, some _, some _, some _, some _, some _, some _, none] rfl ?_
          exact ih _ _ _ _ H
set_option maxRecDepth 20000 in
theorem l_X7_widen (g : GE) (x1 : Int32) (x2 : Int32)  (h : HP) (Q : Int32 → HP → Prop) (H : f_X7_widen x1 x2 h Q) : Wm g mX7_widen 0 [some (.ref 0), some (.int x1), some (.int x2), none, none, none, none, none] [] h (qi Q) := by
  unfold f_X7_widen at H
  refine wm_aload_n 0 1 (by decide +kernel) rfl rfl ?_
  refine wm_iload_n 1 2 (by decide +kernel) rfl rfl ?_
  refine wm_iload_n 2 3 (by decide +kernel) rfl rfl ?_
  refine wm_callVi mX7_isAsked 2 7 [_, _] [] _ _ 6 mo_X7_isAsked np_X7_isAsked ml_RX7_201 im_X7_isAsked se_X7_isAsked (by decide +kernel) (by decide +kernel) rfl rfl rfl (Nat.le_of_ble_eq_true rfl) (by decide +kernel) rfl (Nat.le_of_ble_eq_true rfl) _ (ent_pad 0 rfl) (l_X7_isAsked g _ _ _ _ H) (fun v2 h1 H hzv2 => ?_)
  refine wm_if_ne 9 16 (by decide +kernel : decode cX7_widen 6 = .ok (.ifCond .ne 10, 3)) (by decide) rfl (fun c3 => ?_) (fun c3 => ?_)
  · replace H := H.2 c3
    refine wm_aload_n 0 17 (by decide +kernel) rfl rfl ?_
    refine wm_aload_n 0 18 (by decide +kernel) rfl rfl ?_
    refine wm_getr 7 0 1 1 21 fl_RX7_10 (by decide +kernel) rfl (by decide +kernel) rfl rfl (by decide) ?_
    refine wm_iload_n 1 22 (by decide +kernel) rfl rfl ?_
    refine wm_iload_n 2 23 (by decide +kernel) rfl rfl ?_
    refine wm_callVi mX7_mostIn 3 7 [_, _, _] [] _ _ 26 mo_X7_mostIn np_X7_mostIn ml_RX7_204 im_X7_mostIn se_X7_mostIn (by decide +kernel) (by decide +kernel) rfl rfl rfl (Nat.le_of_ble_eq_true rfl) (by decide +kernel) rfl (Nat.le_of_ble_eq_true rfl) _ (ent_pad 0 rfl) (l_X7_mostIn g _ _ _ (by decide +kernel) _ _ H) (fun v5 h4 H hzv5 => ?_)
    refine wm_istore_n 3 27 [some _, some _, some _, some _, none, none, none, none] (by decide +kernel) rfl (by decide +kernel) (okS_spec rfl) rfl ?_
    refine wm_aload_n 0 28 (by decide +kernel) rfl rfl ?_
    refine wm_getr 7 3 88 88 31 fl_RX7_25 (by decide +kernel) rfl (by decide +kernel) rfl rfl (by decide) ?_
    refine wm_callVv mX1_searchNear 0 1 [] [] _ _ 34 mo_X1_searchNear np_X1_searchNear ml_RX7_215 im_X1_searchNear se_X1_searchNear (by decide +kernel) (by decide +kernel) rfl rfl rfl (Nat.le_of_ble_eq_true rfl) (by decide +kernel) rfl (Nat.le_of_ble_eq_true rfl) _ (ent_pad 5 rfl) (l_X1_searchNear g _ _ H) (fun h6 H => ?_)
    refine wm_aload_n 0 35 (by decide +kernel) rfl rfl ?_
    refine wm_getr 7 3 88 88 38 fl_RX7_25 (by decide +kernel) rfl (by decide +kernel) rfl rfl (by decide) ?_
    refine wm_callVi mX1_stationsNear 0 1 [] [] _ _ 41 mo_X1_stationsNear np_X1_stationsNear ml_RX7_241 im_X1_stationsNear se_X1_stationsNear (by decide +kernel) (by decide +kernel) rfl rfl rfl (Nat.le_of_ble_eq_true rfl) (by decide +kernel) rfl (Nat.le_of_ble_eq_true rfl) _ (ent_pad 2 rfl) (l_X1_stationsNear g _ _ H) (fun v8 h7 H hzv8 => ?_)
    refine wm_istore 4 43 [some _, some _, some _, some _, some _, none, none, none] (by decide +kernel) rfl (by decide +kernel) (okS_spec rfl) rfl ?_
    refine wm_iconst (-1) 44 (by decide +kernel : decode cX7_widen 43 = .ok (.iconst (-1), 1)) rfl (by decide +kernel) ?_
    refine wm_istore 5 46 [some _, some _, some _, some _, some _, some _, none, none] (by decide +kernel) rfl (by decide +kernel) (okS_spec rfl) rfl ?_
    refine wm_iconst 0 47 (by decide +kernel : decode cX7_widen 46 = .ok (.iconst 0, 1)) rfl (by decide +kernel) ?_
    refine wm_istore 6 49 [some _, some _, some _, some _, some _, some _, some _, none] (by decide +kernel) rfl (by decide +kernel) (okS_spec rfl) rfl ?_
    obtain ⟨n23, H⟩ := H
    refine l_X7_widen_L49 g _ _ _ _ _ (fun x5_18 h19 H => ?_) _ _ _ _ _ H
    · skip
      refine wm_iload 5 113 (by decide +kernel) rfl rfl ?_
      refine wm_if_ge 116 125 (by decide +kernel : decode cX7_widen 113 = .ok (.ifCond .ge 12, 3)) (by decide) rfl (fun c20 => ?_) (fun c20 => ?_)
      · replace H := H.1 c20
        refine wm_iload 5 127 (by decide +kernel) rfl rfl ?_
        exact wm_iret (by decide +kernel) ⟨.int, rfl, rfl⟩ H
      · replace H := H.2 c20
        refine wm_aload_n 0 117 (by decide +kernel) rfl rfl ?_
        refine wm_ldc (-1000000004) 119 co_RX7_211 (by decide +kernel) rfl ?_
        refine wm_callVi mX7_found 1 7 [_] [] _ _ 122 mo_X7_found np_X7_found ml_RX7_59 im_X7_found se_X7_found (by decide +kernel) (by decide +kernel) rfl rfl rfl (Nat.le_of_ble_eq_true rfl) (by decide +kernel) rfl (Nat.le_of_ble_eq_true rfl) _ (ent_pad 1 rfl) (l_X7_found g _ _ _ H) (fun v22 h21 H hzv22 => ?_)
        refine wm_goto 127 (by decide +kernel : decode cX7_widen 122 = .ok (.goto 5, 3)) (by decide) ?_
        exact wm_iret (by decide +kernel) ⟨.int, rfl, rfl⟩ H
  · replace H := H.1 c3
    refine wm_aload_n 0 10 (by decide +kernel) rfl rfl ?_
    refine wm_ldc (-1000000001) 12 co_RX7_58 (by decide +kernel) rfl ?_
    refine wm_callVi mX7_found 1 7 [_] [] _ _ 15 mo_X7_found np_X7_found ml_RX7_59 im_X7_found se_X7_found (by decide +kernel) (by decide +kernel) rfl rfl rfl (Nat.le_of_ble_eq_true rfl) (by decide +kernel) rfl (Nat.le_of_ble_eq_true rfl) _ (ent_pad 1 rfl) (l_X7_found g _ _ _ H) (fun v25 h24 H hzv25 => ?_)
    exact wm_iret (by decide +kernel) ⟨.int, rfl, rfl⟩ H
def f_X7_held_L55 (x1 : Int32) (x2 : Int32) (x3 : Int32) (x4 : Int32)  (Q : Int32 → HP → Prop) : Nat → Int32 → Int32 → Int32 → HP → Prop
  | 0, _, _, _, _ => False
  | n + 1, x5, x6, x7, h =>
    (((32 ≤ x7) →
      Q x6 h) ∧
     (¬ (32 ≤ x7) →
      (((x6 ≤ x5) →
        Q x6 h) ∧
       (¬ (x6 ≤ x5) →
        ∀ x8_15 : Int32, x8_15 = ((x5 + x6) / 2) →
        f_X7_mostHeld x1 x8_15 x2 x3 h (fun v17 h16 =>
        (((v17 = x4) →
          ∀ x7_21 : Int32, x7_21 = (x7 + 1) →
          f_X7_held_L55 x1 x2 x3 x4 Q n x5 x8_15 x7_21 h16) ∧
         (¬ (v17 = x4) →
          ∀ x5_19 : Int32, x5_19 = (x8_15 + 1) →
          ∀ x7_20 : Int32, x7_20 = (x7 + 1) →
          f_X7_held_L55 x1 x2 x3 x4 Q n x5_19 x6 x7_20 h16)))))))
def f_X7_held (x1 : Int32) (x2 : Int32) (x3 : Int32) (h : HP) (Q : Int32 → HP → Prop) : Prop :=
  f_X6_hasLine 1 x1 h (fun v2 h1 =>
  (((v2 = 0) →
    f_X7_found (-1000000001 : Int32) h1 (fun v5 h4 =>
    Q v5 h4)) ∧
   (¬ (v2 = 0) →
    f_X7_isAsked x2 x3 h1 (fun v7 h6 =>
    (((v7 = 0) →
      f_X7_found (-1000000001 : Int32) h6 (fun v24 h23 =>
      Q v24 h23)) ∧
     (¬ (v7 = 0) →
      f_X7_mostIn 1 x2 x3 h6 (fun v10 h9 =>
      f_X1_peak x1 h9 (fun v12 h11 =>
      ∃ n22, f_X7_held_L55 x1 x2 x3 v10
        Q n22 0 v12 0 h11))))))))
set_option maxRecDepth 20000 in
theorem l_X7_held_L55 (g : GE) (x1 : Int32) (x2 : Int32) (x3 : Int32) (x4 : Int32)   (Q : Int32 → HP → Prop)  : ∀ (n : Nat) (x5 : Int32) (x6 : Int32) (x7 : Int32) (h : HP), f_X7_held_L55 x1 x2 x3 x4 Q n x5 x6 x7 h → Wm g mX7_held 55 [some (.ref 0), some (.int x1), some (.int x2), some (.int x3), some (.int x4), some (.int x5), some (.int x6), some (.int x7), none] [] h (qi Q) := by
  intro n
  induction n with
  | zero => intro x5 x6 x7 h H; exact H.elim
  | succ n ih =>
    intro x5 x6 x7 h H
    unfold f_X7_held_L55 at H
    refine wm_iload 7 57 (by decide +kernel) rfl rfl ?_
    refine wm_bipush 32 59 (by decide +kernel : decode cX7_held 57 = .ok (.bipush 32, 2)) rfl (by decide +kernel) ?_
    refine wm_icmp_ge 62 111 (by decide +kernel : decode cX7_held 59 = .ok (.if_icmp .ge 52, 3)) (by decide) rfl (fun c13 => ?_) (fun c13 => ?_)
    · replace H := H.1 c13
      refine wm_iload 6 113 (by decide +kernel) rfl rfl ?_
      exact wm_iret (by decide +kernel) ⟨.int, rfl, rfl⟩ H
    · replace H := H.2 c13
      refine wm_iload 5 64 (by decide +kernel) rfl rfl ?_
      refine wm_iload 6 66 (by decide +kernel) rfl rfl ?_
      refine wm_icmp_ge 69 111 (by decide +kernel : decode cX7_held 66 = .ok (.if_icmp .ge 45, 3)) (by decide) rfl (fun c14 => ?_) (fun c14 => ?_)
      · replace H := H.1 c14
        refine wm_iload 6 113 (by decide +kernel) rfl rfl ?_
        exact wm_iret (by decide +kernel) ⟨.int, rfl, rfl⟩ H
      · replace H := H.2 c14
        refine wm_iload 5 71 (by decide +kernel) rfl rfl ?_
        refine wm_iload 6 73 (by decide +kernel) rfl rfl ?_
        refine wm_iadd 74 (by decide +kernel) rfl ?_
        refine wm_iconst 2 75 (by decide +kernel : decode cX7_held 74 = .ok (.iconst 2, 1)) rfl (by decide +kernel) ?_
        refine wm_idiv 76 (by decide +kernel) rfl (by decide +kernel) ?_
        replace H := H _ rfl
        refine wm_istore 8 78 [some _, some _, some _, some _, some _, some _, some _, some _, some _] (by decide +kernel) rfl (by decide +kernel) (okS_spec rfl) rfl ?_
        refine wm_aload_n 0 79 (by decide +kernel) rfl rfl ?_
        refine wm_iload_n 1 80 (by decide +kernel) rfl rfl ?_
        refine wm_iload 8 82 (by decide +kernel) rfl rfl ?_
        refine wm_iload_n 2 83 (by decide +kernel) rfl rfl ?_
        refine wm_iload_n 3 84 (by decide +kernel) rfl rfl ?_
        refine wm_callVi mX7_mostHeld 4 7 [_, _, _, _] [] _ _ 87 mo_X7_mostHeld np_X7_mostHeld ml_RX7_237 im_X7_mostHeld se_X7_mostHeld (by decide +kernel) (by decide +kernel) rfl rfl rfl (Nat.le_of_ble_eq_true rfl) (by decide +kernel) rfl (Nat.le_of_ble_eq_true rfl) _ (ent_pad 0 rfl) (l_X7_mostHeld g _ _ _ _ _ _ H) (fun v17 h16 H hzv17 => ?_)
        refine wm_iload 4 89 (by decide +kernel) rfl rfl ?_
        refine wm_icmp_ne 92 99 (by decide +kernel : decode cX7_held 89 = .ok (.if_icmp .ne 10, 3)) (by decide) rfl (fun c18 => ?_) (fun c18 => ?_)
        · replace H := H.2 c18
          refine wm_iload 8 101 (by decide +kernel) rfl rfl ?_
          refine wm_iconst 1 102 (by decide +kernel : decode cX7_held 101 = .ok (.iconst 1, 1)) rfl (by decide +kernel) ?_
          refine wm_iadd 103 (by decide +kernel) rfl ?_
          replace H := H _ rfl
          refine wm_istore 5 105 [some _, some _, some _, some _, some _, some _, some _, some _, some _] (by decide +kernel) rfl (by decide +kernel) (okS_spec rfl) rfl ?_
          replace H := H _ rfl
          refine wm_iinc 7 (_ + 1) 108 [some _, some _, some _, some _, some _, some _, some _, some _, some _] (by decide +kernel : decode cX7_held 105 = .ok (.iinc 7 1, 3)) rfl (by decide +kernel) rfl (ofI_eq (by decide +kernel)) (okS_spec rfl) rfl ?_
          refine wm_goto 55 (by decide +kernel : decode cX7_held 108 = .ok (.goto (-53), 3)) (by decide) ?_
          refine wm_mask [true, true, true, true, true, true, true, true, false] [some _, some _, some _, some _, some _, some _, some _, some _, none] rfl ?_
          exact ih _ _ _ _ H
        · replace H := H.1 c18
          refine wm_iload 8 94 (by decide +kernel) rfl rfl ?_
          refine wm_istore 6 96 [some _, some _, some _, some _, some _, some _, some _, some _, some _] (by decide +kernel) rfl (by decide +kernel) (okS_spec rfl) rfl ?_
          refine wm_goto 105 (by decide +kernel : decode cX7_held 96 = .ok (.goto 9, 3)) (by decide) ?_
          replace H := H _ rfl
          refine wm_iinc 7 (_ + 1) 108 [some _, some _, some _, some _, some _, some _, some _, some _, some _] (by decide +kernel : decode cX7_held 105 = .ok (.iinc 7 1, 3)) rfl (by decide +kernel) rfl (ofI_eq (by decide +kernel)) (okS_spec rfl) rfl ?_
          refine wm_goto 55 (by decide +kernel : decode cX7_held 108 = .ok (.goto (-53), 3)) (by decide) ?_
          refine wm_mask [true, true, true, true, true, true, true, true, false] [some _, some _, some _, some _, some _, some _, some _, some _, none] rfl ?_
          exact ih _ _ _ _ H
set_option maxRecDepth 20000 in
theorem l_X7_held (g : GE) (x1 : Int32) (x2 : Int32) (x3 : Int32)  (h : HP) (Q : Int32 → HP → Prop) (H : f_X7_held x1 x2 x3 h Q) : Wm g mX7_held 0 [some (.ref 0), some (.int x1), some (.int x2), some (.int x3), none, none, none, none, none] [] h (qi Q) := by
  unfold f_X7_held at H
  refine wm_aload_n 0 1 (by decide +kernel) rfl rfl ?_
  refine wm_getr 7 0 1 1 4 fl_RX7_10 (by decide +kernel) rfl (by decide +kernel) rfl rfl (by decide) ?_
  refine wm_iload_n 1 5 (by decide +kernel) rfl rfl ?_
  refine wm_callVi mX6_hasLine 1 6 [_] [] _ _ 8 mo_X6_hasLine np_X6_hasLine ml_RX7_123 im_X6_hasLine se_X6_hasLine (by decide +kernel) (by decide +kernel) rfl rfl rfl (Nat.le_of_ble_eq_true rfl) (by decide +kernel) rfl (Nat.le_of_ble_eq_true rfl) _ (ent_pad 0 rfl) (l_X6_hasLine g _ _ (by decide +kernel) _ _ H) (fun v2 h1 H hzv2 => ?_)
  refine wm_if_eq 11 20 (by decide +kernel : decode cX7_held 8 = .ok (.ifCond .eq 12, 3)) (by decide) rfl (fun c3 => ?_) (fun c3 => ?_)
  · replace H := H.1 c3
    refine wm_aload_n 0 21 (by decide +kernel) rfl rfl ?_
    refine wm_ldc (-1000000001) 23 co_RX7_58 (by decide +kernel) rfl ?_
    refine wm_callVi mX7_found 1 7 [_] [] _ _ 26 mo_X7_found np_X7_found ml_RX7_59 im_X7_found se_X7_found (by decide +kernel) (by decide +kernel) rfl rfl rfl (Nat.le_of_ble_eq_true rfl) (by decide +kernel) rfl (Nat.le_of_ble_eq_true rfl) _ (ent_pad 1 rfl) (l_X7_found g _ _ _ H) (fun v5 h4 H hzv5 => ?_)
    exact wm_iret (by decide +kernel) ⟨.int, rfl, rfl⟩ H
  · replace H := H.2 c3
    refine wm_aload_n 0 12 (by decide +kernel) rfl rfl ?_
    refine wm_iload_n 2 13 (by decide +kernel) rfl rfl ?_
    refine wm_iload_n 3 14 (by decide +kernel) rfl rfl ?_
    refine wm_callVi mX7_isAsked 2 7 [_, _] [] _ _ 17 mo_X7_isAsked np_X7_isAsked ml_RX7_201 im_X7_isAsked se_X7_isAsked (by decide +kernel) (by decide +kernel) rfl rfl rfl (Nat.le_of_ble_eq_true rfl) (by decide +kernel) rfl (Nat.le_of_ble_eq_true rfl) _ (ent_pad 0 rfl) (l_X7_isAsked g _ _ _ _ H) (fun v7 h6 H hzv7 => ?_)
    refine wm_if_ne 20 27 (by decide +kernel : decode cX7_held 17 = .ok (.ifCond .ne 10, 3)) (by decide) rfl (fun c8 => ?_) (fun c8 => ?_)
    · replace H := H.2 c8
      refine wm_aload_n 0 28 (by decide +kernel) rfl rfl ?_
      refine wm_aload_n 0 29 (by decide +kernel) rfl rfl ?_
      refine wm_getr 7 0 1 1 32 fl_RX7_10 (by decide +kernel) rfl (by decide +kernel) rfl rfl (by decide) ?_
      refine wm_iload_n 2 33 (by decide +kernel) rfl rfl ?_
      refine wm_iload_n 3 34 (by decide +kernel) rfl rfl ?_
      refine wm_callVi mX7_mostIn 3 7 [_, _, _] [] _ _ 37 mo_X7_mostIn np_X7_mostIn ml_RX7_204 im_X7_mostIn se_X7_mostIn (by decide +kernel) (by decide +kernel) rfl rfl rfl (Nat.le_of_ble_eq_true rfl) (by decide +kernel) rfl (Nat.le_of_ble_eq_true rfl) _ (ent_pad 0 rfl) (l_X7_mostIn g _ _ _ (by decide +kernel) _ _ H) (fun v10 h9 H hzv10 => ?_)
      refine wm_istore 4 39 [some _, some _, some _, some _, some _, none, none, none, none] (by decide +kernel) rfl (by decide +kernel) (okS_spec rfl) rfl ?_
      refine wm_iconst 0 40 (by decide +kernel : decode cX7_held 39 = .ok (.iconst 0, 1)) rfl (by decide +kernel) ?_
      refine wm_istore 5 42 [some _, some _, some _, some _, some _, some _, none, none, none] (by decide +kernel) rfl (by decide +kernel) (okS_spec rfl) rfl ?_
      refine wm_aload_n 0 43 (by decide +kernel) rfl rfl ?_
      refine wm_getr 7 3 88 88 46 fl_RX7_25 (by decide +kernel) rfl (by decide +kernel) rfl rfl (by decide) ?_
      refine wm_iload_n 1 47 (by decide +kernel) rfl rfl ?_
      refine wm_callVi mX1_peak 1 1 [_] [] _ _ 50 mo_X1_peak np_X1_peak ml_RX7_247 im_X1_peak se_X1_peak (by decide +kernel) (by decide +kernel) rfl rfl rfl (Nat.le_of_ble_eq_true rfl) (by decide +kernel) rfl (Nat.le_of_ble_eq_true rfl) _ (ent_pad 4 rfl) (l_X1_peak g _ _ _ H) (fun v12 h11 H hzv12 => ?_)
      refine wm_istore 6 52 [some _, some _, some _, some _, some _, some _, some _, none, none] (by decide +kernel) rfl (by decide +kernel) (okS_spec rfl) rfl ?_
      refine wm_iconst 0 53 (by decide +kernel : decode cX7_held 52 = .ok (.iconst 0, 1)) rfl (by decide +kernel) ?_
      refine wm_istore 7 55 [some _, some _, some _, some _, some _, some _, some _, some _, none] (by decide +kernel) rfl (by decide +kernel) (okS_spec rfl) rfl ?_
      obtain ⟨n22, H⟩ := H
      refine l_X7_held_L55 g _ _ _ _ _  _ _ _ _ _ H
    · replace H := H.1 c8
      refine wm_aload_n 0 21 (by decide +kernel) rfl rfl ?_
      refine wm_ldc (-1000000001) 23 co_RX7_58 (by decide +kernel) rfl ?_
      refine wm_callVi mX7_found 1 7 [_] [] _ _ 26 mo_X7_found np_X7_found ml_RX7_59 im_X7_found se_X7_found (by decide +kernel) (by decide +kernel) rfl rfl rfl (Nat.le_of_ble_eq_true rfl) (by decide +kernel) rfl (Nat.le_of_ble_eq_true rfl) _ (ent_pad 1 rfl) (l_X7_found g _ _ _ H) (fun v24 h23 H hzv24 => ?_)
      exact wm_iret (by decide +kernel) ⟨.int, rfl, rfl⟩ H
def f_X7_begin_L29   (Q : Int32 → HP → Prop) : Nat → Int32 → HP → Prop
  | 0, _, _ => False
  | n + 1, x3, h =>
    ((((gi h 1 2) ≤ x3) →
      f_X7_found (-1000000004 : Int32) h (fun v8 h7 =>
      Q v8 h7)) ∧
     (¬ ((gi h 1 2) ≤ x3) →
      f_X1_canStillSendFrom x3 h (fun v10 h9 =>
      (((v10 = 0) →
        ∀ x3_12 : Int32, x3_12 = (x3 + 1) →
        f_X7_begin_L29 Q n x3_12 h9) ∧
       (¬ (v10 = 0) →
        Q x3 h9)))))
def f_X7_begin (x1 : Int32) (x2 : Int32) (h : HP) (Q : Int32 → HP → Prop) : Prop :=
  f_X7_isAsked x1 x2 h (fun v2 h1 =>
  (((v2 = 0) →
    f_X7_found (-1000000001 : Int32) h1 (fun v15 h14 =>
    Q v15 h14)) ∧
   (¬ (v2 = 0) →
    f_X7_mostIn 1 x1 x2 h1 (fun v5 h4 =>
    ∃ n13, f_X7_begin_L29 
      Q n13 0 h4))))
set_option maxRecDepth 20000 in
theorem l_X7_begin_L29 (g : GE)    (Q : Int32 → HP → Prop)  : ∀ (n : Nat) (x3 : Int32) (h : HP), f_X7_begin_L29 Q n x3 h → Wm g mX7_begin 29 [some (.ref 0), none, none, some (.int x3)] [] h (qi Q) := by
  intro n
  induction n with
  | zero => intro x3 h H; exact H.elim
  | succ n ih =>
    intro x3 h H
    unfold f_X7_begin_L29 at H
    refine wm_iload_n 3 30 (by decide +kernel) rfl rfl ?_
    refine wm_aload_n 0 31 (by decide +kernel) rfl rfl ?_
    refine wm_getr 7 0 1 1 34 fl_RX7_10 (by decide +kernel) rfl (by decide +kernel) rfl rfl (by decide) ?_
    refine wm_geti 6 2 37 fl_RX7_63 (by decide +kernel) rfl (by decide +kernel) rfl ?_
    refine wm_icmp_ge 40 59 (by decide +kernel : decode cX7_begin 37 = .ok (.if_icmp .ge 22, 3)) (by decide) rfl (fun c6 => ?_) (fun c6 => ?_)
    · replace H := H.1 c6
      refine wm_aload_n 0 60 (by decide +kernel) rfl rfl ?_
      refine wm_ldc (-1000000004) 62 co_RX7_211 (by decide +kernel) rfl ?_
      refine wm_callVi mX7_found 1 7 [_] [] _ _ 65 mo_X7_found np_X7_found ml_RX7_59 im_X7_found se_X7_found (by decide +kernel) (by decide +kernel) rfl rfl rfl (Nat.le_of_ble_eq_true rfl) (by decide +kernel) rfl (Nat.le_of_ble_eq_true rfl) _ (ent_pad 1 rfl) (l_X7_found g _ _ _ H) (fun v8 h7 H hzv8 => ?_)
      exact wm_iret (by decide +kernel) ⟨.int, rfl, rfl⟩ H
    · replace H := H.2 c6
      refine wm_aload_n 0 41 (by decide +kernel) rfl rfl ?_
      refine wm_getr 7 3 88 88 44 fl_RX7_25 (by decide +kernel) rfl (by decide +kernel) rfl rfl (by decide) ?_
      refine wm_iload_n 3 45 (by decide +kernel) rfl rfl ?_
      refine wm_callVi mX1_canStillSendFrom 1 1 [_] [] _ _ 48 mo_X1_canStillSendFrom np_X1_canStillSendFrom ml_RX7_250 im_X1_canStillSendFrom se_X1_canStillSendFrom (by decide +kernel) (by decide +kernel) rfl rfl rfl (Nat.le_of_ble_eq_true rfl) (by decide +kernel) rfl (Nat.le_of_ble_eq_true rfl) _ (ent_pad 0 rfl) (l_X1_canStillSendFrom g _ _ _ H) (fun v10 h9 H hzv10 => ?_)
      refine wm_if_eq 51 53 (by decide +kernel : decode cX7_begin 48 = .ok (.ifCond .eq 5, 3)) (by decide) rfl (fun c11 => ?_) (fun c11 => ?_)
      · replace H := H.1 c11
        replace H := H _ rfl
        refine wm_iinc 3 (_ + 1) 56 [some _, none, none, some _] (by decide +kernel : decode cX7_begin 53 = .ok (.iinc 3 1, 3)) rfl (by decide +kernel) rfl (ofI_eq (by decide +kernel)) (okS_spec rfl) rfl ?_
        refine wm_goto 29 (by decide +kernel : decode cX7_begin 56 = .ok (.goto (-27), 3)) (by decide) ?_
        exact ih _ _ H
      · replace H := H.2 c11
        refine wm_iload_n 3 52 (by decide +kernel) rfl rfl ?_
        exact wm_iret (by decide +kernel) ⟨.int, rfl, rfl⟩ H
set_option maxRecDepth 20000 in
theorem l_X7_begin (g : GE) (x1 : Int32) (x2 : Int32)  (h : HP) (Q : Int32 → HP → Prop) (H : f_X7_begin x1 x2 h Q) : Wm g mX7_begin 0 [some (.ref 0), some (.int x1), some (.int x2), none] [] h (qi Q) := by
  unfold f_X7_begin at H
  refine wm_aload_n 0 1 (by decide +kernel) rfl rfl ?_
  refine wm_iload_n 1 2 (by decide +kernel) rfl rfl ?_
  refine wm_iload_n 2 3 (by decide +kernel) rfl rfl ?_
  refine wm_callVi mX7_isAsked 2 7 [_, _] [] _ _ 6 mo_X7_isAsked np_X7_isAsked ml_RX7_201 im_X7_isAsked se_X7_isAsked (by decide +kernel) (by decide +kernel) rfl rfl rfl (Nat.le_of_ble_eq_true rfl) (by decide +kernel) rfl (Nat.le_of_ble_eq_true rfl) _ (ent_pad 0 rfl) (l_X7_isAsked g _ _ _ _ H) (fun v2 h1 H hzv2 => ?_)
  refine wm_if_ne 9 16 (by decide +kernel : decode cX7_begin 6 = .ok (.ifCond .ne 10, 3)) (by decide) rfl (fun c3 => ?_) (fun c3 => ?_)
  · replace H := H.2 c3
    refine wm_aload_n 0 17 (by decide +kernel) rfl rfl ?_
    refine wm_aload_n 0 18 (by decide +kernel) rfl rfl ?_
    refine wm_getr 7 0 1 1 21 fl_RX7_10 (by decide +kernel) rfl (by decide +kernel) rfl rfl (by decide) ?_
    refine wm_iload_n 1 22 (by decide +kernel) rfl rfl ?_
    refine wm_iload_n 2 23 (by decide +kernel) rfl rfl ?_
    refine wm_callVi mX7_mostIn 3 7 [_, _, _] [] _ _ 26 mo_X7_mostIn np_X7_mostIn ml_RX7_204 im_X7_mostIn se_X7_mostIn (by decide +kernel) (by decide +kernel) rfl rfl rfl (Nat.le_of_ble_eq_true rfl) (by decide +kernel) rfl (Nat.le_of_ble_eq_true rfl) _ (ent_pad 0 rfl) (l_X7_mostIn g _ _ _ (by decide +kernel) _ _ H) (fun v5 h4 H hzv5 => ?_)
    refine wm_pop 27 (by decide +kernel) rfl rfl ?_
    refine wm_iconst 0 28 (by decide +kernel : decode cX7_begin 27 = .ok (.iconst 0, 1)) rfl (by decide +kernel) ?_
    refine wm_istore_n 3 29 [some _, some _, some _, some _] (by decide +kernel) rfl (by decide +kernel) (okS_spec rfl) rfl ?_
    obtain ⟨n13, H⟩ := H
    refine wm_mask [true, false, false, true] [some _, none, none, some _] rfl ?_
    refine l_X7_begin_L29 g _  _ _ _ H
  · replace H := H.1 c3
    refine wm_aload_n 0 10 (by decide +kernel) rfl rfl ?_
    refine wm_ldc (-1000000001) 12 co_RX7_58 (by decide +kernel) rfl ?_
    refine wm_callVi mX7_found 1 7 [_] [] _ _ 15 mo_X7_found np_X7_found ml_RX7_59 im_X7_found se_X7_found (by decide +kernel) (by decide +kernel) rfl rfl rfl (Nat.le_of_ble_eq_true rfl) (by decide +kernel) rfl (Nat.le_of_ble_eq_true rfl) _ (ent_pad 1 rfl) (l_X7_found g _ _ _ H) (fun v15 h14 H hzv15 => ?_)
    exact wm_iret (by decide +kernel) ⟨.int, rfl, rfl⟩ H
def f_X7_kind_L47 (x1 : Int32) (x2 : Int32) (x3 : Int32)  (Q : Int32 → HP → Prop) : Nat → Int32 → Int32 → Int32 → HP → Prop
  | 0, _, _, _, _ => False
  | n + 1, x4, x5, x6, h =>
    (((6 ≤ x6) →
      Q x4 h) ∧
     (¬ (6 ≤ x6) →
      vp_in x1 10 ∧
      ∀ h12 : HP, h12 = si h (61 + 7 + 2 * ix x1) 0 x6 →
      f_X7_mostIn 59 x2 x3 h12 (fun v14 h13 =>
      (((v14 ≤ x5) →
        ∀ x6_16 : Int32, x6_16 = (x6 + 1) →
        f_X7_kind_L47 x1 x2 x3 Q n x4 x5 x6_16 h13) ∧
       (¬ (v14 ≤ x5) →
        ∀ x6_17 : Int32, x6_17 = (x6 + 1) →
        f_X7_kind_L47 x1 x2 x3 Q n x6 v14 x6_17 h13)))))
def f_X7_kind (x1 : Int32) (x2 : Int32) (x3 : Int32) (h : HP) (Q : Int32 → HP → Prop) : Prop :=
  f_X6_hasLine 1 x1 h (fun v2 h1 =>
  (((v2 = 0) →
    f_X7_found (-1000000001 : Int32) h1 (fun v5 h4 =>
    Q v5 h4)) ∧
   (¬ (v2 = 0) →
    f_X7_isAsked x2 x3 h1 (fun v7 h6 =>
    (((v7 = 0) →
      f_X7_found (-1000000001 : Int32) h6 (fun v20 h19 =>
      Q v20 h19)) ∧
     (¬ (v7 = 0) →
      f_X6_become 59 1 h6 (fun h9 =>
      ∃ n18, f_X7_kind_L47 x1 x2 x3
        Q n18 0 (-1 : Int32) 0 h9)))))))
set_option maxRecDepth 20000 in
theorem l_X7_kind_L47 (g : GE) (x1 : Int32) (x2 : Int32) (x3 : Int32)   (Q : Int32 → HP → Prop)  : ∀ (n : Nat) (x4 : Int32) (x5 : Int32) (x6 : Int32) (h : HP), f_X7_kind_L47 x1 x2 x3 Q n x4 x5 x6 h → Wm g mX7_kind 47 [some (.ref 0), some (.int x1), some (.int x2), some (.int x3), some (.int x4), some (.int x5), some (.int x6), none] [] h (qi Q) := by
  intro n
  induction n with
  | zero => intro x4 x5 x6 h H; exact H.elim
  | succ n ih =>
    intro x4 x5 x6 h H
    unfold f_X7_kind_L47 at H
    refine wm_iload 6 49 (by decide +kernel) rfl rfl ?_
    refine wm_bipush 6 51 (by decide +kernel : decode cX7_kind 49 = .ok (.bipush 6, 2)) rfl (by decide +kernel) ?_
    refine wm_icmp_ge 54 101 (by decide +kernel : decode cX7_kind 51 = .ok (.if_icmp .ge 50, 3)) (by decide) rfl (fun c10 => ?_) (fun c10 => ?_)
    · replace H := H.1 c10
      refine wm_iload 4 103 (by decide +kernel) rfl rfl ?_
      exact wm_iret (by decide +kernel) ⟨.int, rfl, rfl⟩ H
    · replace H := H.2 c10
      refine wm_aload_n 0 55 (by decide +kernel) rfl rfl ?_
      refine wm_getr 7 2 59 59 58 fl_RX7_19 (by decide +kernel) rfl (by decide +kernel) rfl rfl (by decide) ?_
      refine wm_getr 6 5 2 61 61 fl_RX7_83 (by decide +kernel) rfl (by decide +kernel) rfl rfl (by decide) ?_
      refine wm_iload_n 1 62 (by decide +kernel) rfl rfl ?_
      obtain ⟨o11, H⟩ := H
      refine wm_aald 10 _ 63 (by decide +kernel) rfl (Or.inr (Or.inl ⟨(by decide +kernel), rfl⟩)) (by decide +kernel) o11 ?_
      refine wm_iload 6 65 (by decide +kernel) rfl rfl ?_
      replace H := H _ rfl
      refine wm_puti 0 0 68 fl_RX7_162 (by decide +kernel) rfl (E_ln (by decide +kernel) (vp_in_lt o11)) rfl rfl ⟨rfl, rfl⟩ ?_
      refine wm_aload_n 0 69 (by decide +kernel) rfl rfl ?_
      refine wm_aload_n 0 70 (by decide +kernel) rfl rfl ?_
      refine wm_getr 7 2 59 59 73 fl_RX7_19 (by decide +kernel) rfl (by decide +kernel) rfl rfl (by decide) ?_
      refine wm_iload_n 2 74 (by decide +kernel) rfl rfl ?_
      refine wm_iload_n 3 75 (by decide +kernel) rfl rfl ?_
      refine wm_callVi mX7_mostIn 3 7 [_, _, _] [] _ _ 78 mo_X7_mostIn np_X7_mostIn ml_RX7_204 im_X7_mostIn se_X7_mostIn (by decide +kernel) (by decide +kernel) rfl rfl rfl (Nat.le_of_ble_eq_true rfl) (by decide +kernel) rfl (Nat.le_of_ble_eq_true rfl) _ (ent_pad 0 rfl) (l_X7_mostIn g _ _ _ (by decide +kernel) _ _ H) (fun v14 h13 H hzv14 => ?_)
      refine wm_istore 7 80 [some _, some _, some _, some _, some _, some _, some _, some _] (by decide +kernel) rfl (by decide +kernel) (okS_spec rfl) rfl ?_
      refine wm_iload 7 82 (by decide +kernel) rfl rfl ?_
      refine wm_iload 5 84 (by decide +kernel) rfl rfl ?_
      refine wm_icmp_le 87 95 (by decide +kernel : decode cX7_kind 84 = .ok (.if_icmp .le 11, 3)) (by decide) rfl (fun c15 => ?_) (fun c15 => ?_)
      · replace H := H.1 c15
        replace H := H _ rfl
        refine wm_iinc 6 (_ + 1) 98 [some _, some _, some _, some _, some _, some _, some _, some _] (by decide +kernel : decode cX7_kind 95 = .ok (.iinc 6 1, 3)) rfl (by decide +kernel) rfl (ofI_eq (by decide +kernel)) (okS_spec rfl) rfl ?_
        refine wm_goto 47 (by decide +kernel : decode cX7_kind 98 = .ok (.goto (-51), 3)) (by decide) ?_
        refine wm_mask [true, true, true, true, true, true, true, false] [some _, some _, some _, some _, some _, some _, some _, none] rfl ?_
        exact ih _ _ _ _ H
      · replace H := H.2 c15
        refine wm_iload 7 89 (by decide +kernel) rfl rfl ?_
        refine wm_istore 5 91 [some _, some _, some _, some _, some _, some _, some _, some _] (by decide +kernel) rfl (by decide +kernel) (okS_spec rfl) rfl ?_
        refine wm_iload 6 93 (by decide +kernel) rfl rfl ?_
        refine wm_istore 4 95 [some _, some _, some _, some _, some _, some _, some _, some _] (by decide +kernel) rfl (by decide +kernel) (okS_spec rfl) rfl ?_
        replace H := H _ rfl
        refine wm_iinc 6 (_ + 1) 98 [some _, some _, some _, some _, some _, some _, some _, some _] (by decide +kernel : decode cX7_kind 95 = .ok (.iinc 6 1, 3)) rfl (by decide +kernel) rfl (ofI_eq (by decide +kernel)) (okS_spec rfl) rfl ?_
        refine wm_goto 47 (by decide +kernel : decode cX7_kind 98 = .ok (.goto (-51), 3)) (by decide) ?_
        refine wm_mask [true, true, true, true, true, true, true, false] [some _, some _, some _, some _, some _, some _, some _, none] rfl ?_
        exact ih _ _ _ _ H
set_option maxRecDepth 20000 in
theorem l_X7_kind (g : GE) (x1 : Int32) (x2 : Int32) (x3 : Int32)  (h : HP) (Q : Int32 → HP → Prop) (H : f_X7_kind x1 x2 x3 h Q) : Wm g mX7_kind 0 [some (.ref 0), some (.int x1), some (.int x2), some (.int x3), none, none, none, none] [] h (qi Q) := by
  unfold f_X7_kind at H
  refine wm_aload_n 0 1 (by decide +kernel) rfl rfl ?_
  refine wm_getr 7 0 1 1 4 fl_RX7_10 (by decide +kernel) rfl (by decide +kernel) rfl rfl (by decide) ?_
  refine wm_iload_n 1 5 (by decide +kernel) rfl rfl ?_
  refine wm_callVi mX6_hasLine 1 6 [_] [] _ _ 8 mo_X6_hasLine np_X6_hasLine ml_RX7_123 im_X6_hasLine se_X6_hasLine (by decide +kernel) (by decide +kernel) rfl rfl rfl (Nat.le_of_ble_eq_true rfl) (by decide +kernel) rfl (Nat.le_of_ble_eq_true rfl) _ (ent_pad 0 rfl) (l_X6_hasLine g _ _ (by decide +kernel) _ _ H) (fun v2 h1 H hzv2 => ?_)
  refine wm_if_eq 11 20 (by decide +kernel : decode cX7_kind 8 = .ok (.ifCond .eq 12, 3)) (by decide) rfl (fun c3 => ?_) (fun c3 => ?_)
  · replace H := H.1 c3
    refine wm_aload_n 0 21 (by decide +kernel) rfl rfl ?_
    refine wm_ldc (-1000000001) 23 co_RX7_58 (by decide +kernel) rfl ?_
    refine wm_callVi mX7_found 1 7 [_] [] _ _ 26 mo_X7_found np_X7_found ml_RX7_59 im_X7_found se_X7_found (by decide +kernel) (by decide +kernel) rfl rfl rfl (Nat.le_of_ble_eq_true rfl) (by decide +kernel) rfl (Nat.le_of_ble_eq_true rfl) _ (ent_pad 1 rfl) (l_X7_found g _ _ _ H) (fun v5 h4 H hzv5 => ?_)
    exact wm_iret (by decide +kernel) ⟨.int, rfl, rfl⟩ H
  · replace H := H.2 c3
    refine wm_aload_n 0 12 (by decide +kernel) rfl rfl ?_
    refine wm_iload_n 2 13 (by decide +kernel) rfl rfl ?_
    refine wm_iload_n 3 14 (by decide +kernel) rfl rfl ?_
    refine wm_callVi mX7_isAsked 2 7 [_, _] [] _ _ 17 mo_X7_isAsked np_X7_isAsked ml_RX7_201 im_X7_isAsked se_X7_isAsked (by decide +kernel) (by decide +kernel) rfl rfl rfl (Nat.le_of_ble_eq_true rfl) (by decide +kernel) rfl (Nat.le_of_ble_eq_true rfl) _ (ent_pad 0 rfl) (l_X7_isAsked g _ _ _ _ H) (fun v7 h6 H hzv7 => ?_)
    refine wm_if_ne 20 27 (by decide +kernel : decode cX7_kind 17 = .ok (.ifCond .ne 10, 3)) (by decide) rfl (fun c8 => ?_) (fun c8 => ?_)
    · replace H := H.2 c8
      refine wm_iconst 0 28 (by decide +kernel : decode cX7_kind 27 = .ok (.iconst 0, 1)) rfl (by decide +kernel) ?_
      refine wm_istore 4 30 [some _, some _, some _, some _, some _, none, none, none] (by decide +kernel) rfl (by decide +kernel) (okS_spec rfl) rfl ?_
      refine wm_iconst (-1) 31 (by decide +kernel : decode cX7_kind 30 = .ok (.iconst (-1), 1)) rfl (by decide +kernel) ?_
      refine wm_istore 5 33 [some _, some _, some _, some _, some _, some _, none, none] (by decide +kernel) rfl (by decide +kernel) (okS_spec rfl) rfl ?_
      refine wm_aload_n 0 34 (by decide +kernel) rfl rfl ?_
      refine wm_getr 7 2 59 59 37 fl_RX7_19 (by decide +kernel) rfl (by decide +kernel) rfl rfl (by decide) ?_
      refine wm_aload_n 0 38 (by decide +kernel) rfl rfl ?_
      refine wm_getr 7 0 1 1 41 fl_RX7_10 (by decide +kernel) rfl (by decide +kernel) rfl rfl (by decide) ?_
      refine wm_callVv mX6_become 1 6 [_] [] _ _ 44 mo_X6_become np_X6_become ml_RX7_253 im_X6_become se_X6_become (by decide +kernel) (by decide +kernel) rfl rfl rfl (Nat.le_of_ble_eq_true rfl) (by decide +kernel) rfl (Nat.le_of_ble_eq_true rfl) _ (ent_pad 1 rfl) (l_X6_become g _ _ (by decide +kernel) (by decide +kernel) _ _ H) (fun h9 H => ?_)
      refine wm_iconst 0 45 (by decide +kernel : decode cX7_kind 44 = .ok (.iconst 0, 1)) rfl (by decide +kernel) ?_
      refine wm_istore 6 47 [some _, some _, some _, some _, some _, some _, some _, none] (by decide +kernel) rfl (by decide +kernel) (okS_spec rfl) rfl ?_
      obtain ⟨n18, H⟩ := H
      refine l_X7_kind_L47 g _ _ _ _  _ _ _ _ _ H
    · replace H := H.1 c8
      refine wm_aload_n 0 21 (by decide +kernel) rfl rfl ?_
      refine wm_ldc (-1000000001) 23 co_RX7_58 (by decide +kernel) rfl ?_
      refine wm_callVi mX7_found 1 7 [_] [] _ _ 26 mo_X7_found np_X7_found ml_RX7_59 im_X7_found se_X7_found (by decide +kernel) (by decide +kernel) rfl rfl rfl (Nat.le_of_ble_eq_true rfl) (by decide +kernel) rfl (Nat.le_of_ble_eq_true rfl) _ (ent_pad 1 rfl) (l_X7_found g _ _ _ H) (fun v20 h19 H hzv20 => ?_)
      exact wm_iret (by decide +kernel) ⟨.int, rfl, rfl⟩ H
def f_X7_goal_L24 (x1 : Int32) (k67 : Int32 → HP → Prop) (Q : Int32 → HP → Prop) : Nat → Int32 → Int32 → Int32 → HP → Prop
  | 0, _, _, _, _ => False
  | n + 1, x2, x3, x4, h =>
    ((((gi h 1 2) ≤ x4) →
      k67 x2 h) ∧
     (¬ ((gi h 1 2) ≤ x4) →
      f_X7_mostIn 1 x4 x1 h (fun v6 h5 =>
      (((v6 ≤ x3) →
        ∀ x4_8 : Int32, x4_8 = (x4 + 1) →
        f_X7_goal_L24 x1 k67 Q n x2 x3 x4_8 h5) ∧
       (¬ (v6 ≤ x3) →
        ∀ x4_9 : Int32, x4_9 = (x4 + 1) →
        f_X7_goal_L24 x1 k67 Q n x4 v6 x4_9 h5)))))
def f_X7_goal (x1 : Int32) (h : HP) (Q : Int32 → HP → Prop) : Prop :=
  f_X7_isIn x1 0 24 h (fun v2 h1 =>
  (((v2 = 0) →
    f_X7_found (-1000000001 : Int32) h1 (fun v17 h16 =>
    Q v17 h16)) ∧
   (¬ (v2 = 0) →
    ∃ n15, f_X7_goal_L24 x1
      (fun x2_10 h11 =>
        (((0 ≤ x2_10) →
          Q x2_10 h11) ∧
         (¬ (0 ≤ x2_10) →
          f_X7_found (-1000000004 : Int32) h11 (fun v14 h13 =>
          Q v14 h13))))
      Q n15 (-1 : Int32) (-1 : Int32) 0 h1)))
set_option maxRecDepth 20000 in
theorem l_X7_goal_L24 (g : GE) (x1 : Int32)  (k67 : Int32 → HP → Prop) (Q : Int32 → HP → Prop) (hk67 : ∀ (x2 : Int32) (h : HP), k67 x2 h → Wm g mX7_goal 67 [some (.ref 0), none, some (.int x2), none, none, none] [] h (qi Q)) : ∀ (n : Nat) (x2 : Int32) (x3 : Int32) (x4 : Int32) (h : HP), f_X7_goal_L24 x1 k67 Q n x2 x3 x4 h → Wm g mX7_goal 24 [some (.ref 0), some (.int x1), some (.int x2), some (.int x3), some (.int x4), none] [] h (qi Q) := by
  intro n
  induction n with
  | zero => intro x2 x3 x4 h H; exact H.elim
  | succ n ih =>
    intro x2 x3 x4 h H
    unfold f_X7_goal_L24 at H
    refine wm_iload 4 26 (by decide +kernel) rfl rfl ?_
    refine wm_aload_n 0 27 (by decide +kernel) rfl rfl ?_
    refine wm_getr 7 0 1 1 30 fl_RX7_10 (by decide +kernel) rfl (by decide +kernel) rfl rfl (by decide) ?_
    refine wm_geti 6 2 33 fl_RX7_63 (by decide +kernel) rfl (by decide +kernel) rfl ?_
    refine wm_icmp_ge 36 67 (by decide +kernel : decode cX7_goal 33 = .ok (.if_icmp .ge 34, 3)) (by decide) rfl (fun c4 => ?_) (fun c4 => ?_)
    · replace H := H.1 c4
      refine wm_mask [true, false, true, false, false, false] [some _, none, some _, none, none, none] rfl ?_
      exact hk67 _ _ H
    · replace H := H.2 c4
      refine wm_aload_n 0 37 (by decide +kernel) rfl rfl ?_
      refine wm_aload_n 0 38 (by decide +kernel) rfl rfl ?_
      refine wm_getr 7 0 1 1 41 fl_RX7_10 (by decide +kernel) rfl (by decide +kernel) rfl rfl (by decide) ?_
      refine wm_iload 4 43 (by decide +kernel) rfl rfl ?_
      refine wm_iload_n 1 44 (by decide +kernel) rfl rfl ?_
      refine wm_callVi mX7_mostIn 3 7 [_, _, _] [] _ _ 47 mo_X7_mostIn np_X7_mostIn ml_RX7_204 im_X7_mostIn se_X7_mostIn (by decide +kernel) (by decide +kernel) rfl rfl rfl (Nat.le_of_ble_eq_true rfl) (by decide +kernel) rfl (Nat.le_of_ble_eq_true rfl) _ (ent_pad 0 rfl) (l_X7_mostIn g _ _ _ (by decide +kernel) _ _ H) (fun v6 h5 H hzv6 => ?_)
      refine wm_istore 5 49 [some _, some _, some _, some _, some _, some _] (by decide +kernel) rfl (by decide +kernel) (okS_spec rfl) rfl ?_
      refine wm_iload 5 51 (by decide +kernel) rfl rfl ?_
      refine wm_iload_n 3 52 (by decide +kernel) rfl rfl ?_
      refine wm_icmp_le 55 61 (by decide +kernel : decode cX7_goal 52 = .ok (.if_icmp .le 9, 3)) (by decide) rfl (fun c7 => ?_) (fun c7 => ?_)
      · replace H := H.1 c7
        replace H := H _ rfl
        refine wm_iinc 4 (_ + 1) 64 [some _, some _, some _, some _, some _, some _] (by decide +kernel : decode cX7_goal 61 = .ok (.iinc 4 1, 3)) rfl (by decide +kernel) rfl (ofI_eq (by decide +kernel)) (okS_spec rfl) rfl ?_
        refine wm_goto 24 (by decide +kernel : decode cX7_goal 64 = .ok (.goto (-40), 3)) (by decide) ?_
        refine wm_mask [true, true, true, true, true, false] [some _, some _, some _, some _, some _, none] rfl ?_
        exact ih _ _ _ _ H
      · replace H := H.2 c7
        refine wm_iload 5 57 (by decide +kernel) rfl rfl ?_
        refine wm_istore_n 3 58 [some _, some _, some _, some _, some _, some _] (by decide +kernel) rfl (by decide +kernel) (okS_spec rfl) rfl ?_
        refine wm_iload 4 60 (by decide +kernel) rfl rfl ?_
        refine wm_istore_n 2 61 [some _, some _, some _, some _, some _, some _] (by decide +kernel) rfl (by decide +kernel) (okS_spec rfl) rfl ?_
        replace H := H _ rfl
        refine wm_iinc 4 (_ + 1) 64 [some _, some _, some _, some _, some _, some _] (by decide +kernel : decode cX7_goal 61 = .ok (.iinc 4 1, 3)) rfl (by decide +kernel) rfl (ofI_eq (by decide +kernel)) (okS_spec rfl) rfl ?_
        refine wm_goto 24 (by decide +kernel : decode cX7_goal 64 = .ok (.goto (-40), 3)) (by decide) ?_
        refine wm_mask [true, true, true, true, true, false] [some _, some _, some _, some _, some _, none] rfl ?_
        exact ih _ _ _ _ H
set_option maxRecDepth 20000 in
theorem l_X7_goal (g : GE) (x1 : Int32)  (h : HP) (Q : Int32 → HP → Prop) (H : f_X7_goal x1 h Q) : Wm g mX7_goal 0 [some (.ref 0), some (.int x1), none, none, none, none] [] h (qi Q) := by
  unfold f_X7_goal at H
  refine wm_iload_n 1 1 (by decide +kernel) rfl rfl ?_
  refine wm_iconst 0 2 (by decide +kernel : decode cX7_goal 1 = .ok (.iconst 0, 1)) rfl (by decide +kernel) ?_
  refine wm_bipush 24 4 (by decide +kernel : decode cX7_goal 2 = .ok (.bipush 24, 2)) rfl (by decide +kernel) ?_
  refine wm_callSi mX7_isIn 3 [_, _, _] [] _ _ 7 mo_X7_isIn np_X7_isIn ml_RX7_54 sc_X7_isIn (by decide +kernel) (by decide +kernel) rfl rfl rfl (Nat.le_of_ble_eq_true rfl) (Nat.le_of_ble_eq_true rfl) _ (ent_pad 0 rfl) (l_X7_isIn g _ _ _ _ _ H) (fun v2 h1 H hzv2 => ?_)
  refine wm_if_ne 10 17 (by decide +kernel : decode cX7_goal 7 = .ok (.ifCond .ne 10, 3)) (by decide) rfl (fun c3 => ?_) (fun c3 => ?_)
  · replace H := H.2 c3
    refine wm_iconst (-1) 18 (by decide +kernel : decode cX7_goal 17 = .ok (.iconst (-1), 1)) rfl (by decide +kernel) ?_
    refine wm_istore_n 2 19 [some _, some _, some _, none, none, none] (by decide +kernel) rfl (by decide +kernel) (okS_spec rfl) rfl ?_
    refine wm_iconst (-1) 20 (by decide +kernel : decode cX7_goal 19 = .ok (.iconst (-1), 1)) rfl (by decide +kernel) ?_
    refine wm_istore_n 3 21 [some _, some _, some _, some _, none, none] (by decide +kernel) rfl (by decide +kernel) (okS_spec rfl) rfl ?_
    refine wm_iconst 0 22 (by decide +kernel : decode cX7_goal 21 = .ok (.iconst 0, 1)) rfl (by decide +kernel) ?_
    refine wm_istore 4 24 [some _, some _, some _, some _, some _, none] (by decide +kernel) rfl (by decide +kernel) (okS_spec rfl) rfl ?_
    obtain ⟨n15, H⟩ := H
    refine l_X7_goal_L24 g _ _ _ (fun x2_10 h11 H => ?_) _ _ _ _ _ H
    · skip
      refine wm_iload_n 2 68 (by decide +kernel) rfl rfl ?_
      refine wm_if_ge 71 80 (by decide +kernel : decode cX7_goal 68 = .ok (.ifCond .ge 12, 3)) (by decide) rfl (fun c12 => ?_) (fun c12 => ?_)
      · replace H := H.1 c12
        refine wm_iload_n 2 81 (by decide +kernel) rfl rfl ?_
        exact wm_iret (by decide +kernel) ⟨.int, rfl, rfl⟩ H
      · replace H := H.2 c12
        refine wm_aload_n 0 72 (by decide +kernel) rfl rfl ?_
        refine wm_ldc (-1000000004) 74 co_RX7_211 (by decide +kernel) rfl ?_
        refine wm_callVi mX7_found 1 7 [_] [] _ _ 77 mo_X7_found np_X7_found ml_RX7_59 im_X7_found se_X7_found (by decide +kernel) (by decide +kernel) rfl rfl rfl (Nat.le_of_ble_eq_true rfl) (by decide +kernel) rfl (Nat.le_of_ble_eq_true rfl) _ (ent_pad 1 rfl) (l_X7_found g _ _ _ H) (fun v14 h13 H hzv14 => ?_)
        refine wm_goto 81 (by decide +kernel : decode cX7_goal 77 = .ok (.goto 4, 3)) (by decide) ?_
        exact wm_iret (by decide +kernel) ⟨.int, rfl, rfl⟩ H
  · replace H := H.1 c3
    refine wm_aload_n 0 11 (by decide +kernel) rfl rfl ?_
    refine wm_ldc (-1000000001) 13 co_RX7_58 (by decide +kernel) rfl ?_
    refine wm_callVi mX7_found 1 7 [_] [] _ _ 16 mo_X7_found np_X7_found ml_RX7_59 im_X7_found se_X7_found (by decide +kernel) (by decide +kernel) rfl rfl rfl (Nat.le_of_ble_eq_true rfl) (by decide +kernel) rfl (Nat.le_of_ble_eq_true rfl) _ (ent_pad 1 rfl) (l_X7_found g _ _ _ H) (fun v17 h16 H hzv17 => ?_)
    exact wm_iret (by decide +kernel) ⟨.int, rfl, rfl⟩ H
def f_X7_steady (x1 : Int32) (x2 : Int32) (x3 : Int32) (h : HP) (Q : Int32 → HP → Prop) : Prop :=
  f_X6_areTwo 1 x1 x2 h (fun v2 h1 =>
  (((v2 = 0) →
    f_X7_found (-1000000001 : Int32) h1 (fun v5 h4 =>
    Q v5 h4)) ∧
   (¬ (v2 = 0) →
    (((0 ≤ x3) →
      f_X4_solve 1 x1 x2 h1 (fun h7 =>
      f_X4_behind ((x3 : Int32).toInt64) h7 (fun v9 h8 =>
      ((((lg_cmp v9 (2147483647 : Int64)) ≤ 0) →
        Q ((v9 : Int64).toInt32) h8) ∧
       (¬ ((lg_cmp v9 (2147483647 : Int64)) ≤ 0) →
        f_X7_found (-1000000008 : Int32) h8 (fun v12 h11 =>
        Q v12 h11)))))) ∧
     (¬ (0 ≤ x3) →
      f_X7_found (-1000000001 : Int32) h1 (fun v14 h13 =>
      Q v14 h13))))))
set_option maxRecDepth 20000 in
theorem l_X7_steady (g : GE) (x1 : Int32) (x2 : Int32) (x3 : Int32)  (h : HP) (Q : Int32 → HP → Prop) (H : f_X7_steady x1 x2 x3 h Q) : Wm g mX7_steady 0 [some (.ref 0), some (.int x1), some (.int x2), some (.int x3), none, none] [] h (qi Q) := by
  unfold f_X7_steady at H
  refine wm_aload_n 0 1 (by decide +kernel) rfl rfl ?_
  refine wm_getr 7 0 1 1 4 fl_RX7_10 (by decide +kernel) rfl (by decide +kernel) rfl rfl (by decide) ?_
  refine wm_iload_n 1 5 (by decide +kernel) rfl rfl ?_
  refine wm_iload_n 2 6 (by decide +kernel) rfl rfl ?_
  refine wm_callVi mX6_areTwo 2 6 [_, _] [] _ _ 9 mo_X6_areTwo np_X6_areTwo ml_RX7_72 im_X6_areTwo se_X6_areTwo (by decide +kernel) (by decide +kernel) rfl rfl rfl (Nat.le_of_ble_eq_true rfl) (by decide +kernel) rfl (Nat.le_of_ble_eq_true rfl) _ (ent_pad 0 rfl) (l_X6_areTwo g _ _ _ (by decide +kernel) _ _ H) (fun v2 h1 H hzv2 => ?_)
  refine wm_if_eq 12 16 (by decide +kernel : decode cX7_steady 9 = .ok (.ifCond .eq 7, 3)) (by decide) rfl (fun c3 => ?_) (fun c3 => ?_)
  · replace H := H.1 c3
    refine wm_aload_n 0 17 (by decide +kernel) rfl rfl ?_
    refine wm_ldc (-1000000001) 19 co_RX7_58 (by decide +kernel) rfl ?_
    refine wm_callVi mX7_found 1 7 [_] [] _ _ 22 mo_X7_found np_X7_found ml_RX7_59 im_X7_found se_X7_found (by decide +kernel) (by decide +kernel) rfl rfl rfl (Nat.le_of_ble_eq_true rfl) (by decide +kernel) rfl (Nat.le_of_ble_eq_true rfl) _ (ent_pad 1 rfl) (l_X7_found g _ _ _ H) (fun v5 h4 H hzv5 => ?_)
    exact wm_iret (by decide +kernel) ⟨.int, rfl, rfl⟩ H
  · replace H := H.2 c3
    refine wm_iload_n 3 13 (by decide +kernel) rfl rfl ?_
    refine wm_if_ge 16 23 (by decide +kernel : decode cX7_steady 13 = .ok (.ifCond .ge 10, 3)) (by decide) rfl (fun c6 => ?_) (fun c6 => ?_)
    · replace H := H.1 c6
      refine wm_aload_n 0 24 (by decide +kernel) rfl rfl ?_
      refine wm_getr 7 4 99 99 27 fl_RX7_32 (by decide +kernel) rfl (by decide +kernel) rfl rfl (by decide) ?_
      refine wm_aload_n 0 28 (by decide +kernel) rfl rfl ?_
      refine wm_getr 7 0 1 1 31 fl_RX7_10 (by decide +kernel) rfl (by decide +kernel) rfl rfl (by decide) ?_
      refine wm_iload_n 1 32 (by decide +kernel) rfl rfl ?_
      refine wm_iload_n 2 33 (by decide +kernel) rfl rfl ?_
      refine wm_callVv mX4_solve 3 4 [_, _, _] [] _ _ 36 mo_X4_solve np_X4_solve ml_RX7_257 im_X4_solve se_X4_solve (by decide +kernel) (by decide +kernel) rfl rfl rfl (Nat.le_of_ble_eq_true rfl) (by decide +kernel) rfl (Nat.le_of_ble_eq_true rfl) _ (ent_pad 2 rfl) (l_X4_solve g _ _ _ (by decide +kernel) _ _ H) (fun h7 H => ?_)
      refine wm_aload_n 0 37 (by decide +kernel) rfl rfl ?_
      refine wm_getr 7 4 99 99 40 fl_RX7_32 (by decide +kernel) rfl (by decide +kernel) rfl rfl (by decide) ?_
      refine wm_iload_n 3 41 (by decide +kernel) rfl rfl ?_
      refine wm_i2l 42 (by decide +kernel) rfl ?_
      refine wm_callVl mX4_behind 1 4 [_] [] _ _ 45 mo_X4_behind np_X4_behind ml_RX7_261 im_X4_behind se_X4_behind (by decide +kernel) (by decide +kernel) rfl rfl rfl (Nat.le_of_ble_eq_true rfl) (by decide +kernel) rfl (Nat.le_of_ble_eq_true rfl) _ (ent_pad 3 rfl) (l_X4_behind g _ _ _ H) (fun v9 h8 H hzv9 => ?_)
      refine wm_lstore 4 47 [some _, some _, some _, some _, some _, none] (by decide +kernel) rfl (by decide +kernel) (okS_spec rfl) rfl ?_
      refine wm_lload 4 49 (by decide +kernel) rfl rfl ?_
      refine wm_ldc2 2147483647 52 cl_RX7_265 (by decide +kernel) rfl ?_
      refine wm_lcmp 53 (by decide +kernel) rfl ?_
      refine wm_if_le 56 66 (by decide +kernel : decode cX7_steady 53 = .ok (.ifCond .le 13, 3)) (by decide) rfl (fun c10 => ?_) (fun c10 => ?_)
      · replace H := H.1 c10
        refine wm_lload 4 68 (by decide +kernel) rfl rfl ?_
        refine wm_l2i 69 (by decide +kernel) rfl ?_
        exact wm_iret (by decide +kernel) ⟨.int, rfl, rfl⟩ H
      · replace H := H.2 c10
        refine wm_aload_n 0 57 (by decide +kernel) rfl rfl ?_
        refine wm_ldcw (-1000000008) 60 co_RX7_267 (by decide +kernel) rfl ?_
        refine wm_callVi mX7_found 1 7 [_] [] _ _ 63 mo_X7_found np_X7_found ml_RX7_59 im_X7_found se_X7_found (by decide +kernel) (by decide +kernel) rfl rfl rfl (Nat.le_of_ble_eq_true rfl) (by decide +kernel) rfl (Nat.le_of_ble_eq_true rfl) _ (ent_pad 1 rfl) (l_X7_found g _ _ _ H) (fun v12 h11 H hzv12 => ?_)
        refine wm_goto 69 (by decide +kernel : decode cX7_steady 63 = .ok (.goto 6, 3)) (by decide) ?_
        exact wm_iret (by decide +kernel) ⟨.int, rfl, rfl⟩ H
    · replace H := H.2 c6
      refine wm_aload_n 0 17 (by decide +kernel) rfl rfl ?_
      refine wm_ldc (-1000000001) 19 co_RX7_58 (by decide +kernel) rfl ?_
      refine wm_callVi mX7_found 1 7 [_] [] _ _ 22 mo_X7_found np_X7_found ml_RX7_59 im_X7_found se_X7_found (by decide +kernel) (by decide +kernel) rfl rfl rfl (Nat.le_of_ble_eq_true rfl) (by decide +kernel) rfl (Nat.le_of_ble_eq_true rfl) _ (ent_pad 1 rfl) (l_X7_found g _ _ _ H) (fun v14 h13 H hzv14 => ?_)
      exact wm_iret (by decide +kernel) ⟨.int, rfl, rfl⟩ H
def f_X7_rate (x1 : Int32) (x2 : Int32) (h : HP) (Q : Int32 → HP → Prop) : Prop :=
  f_X6_areTwo 1 x1 x2 h (fun v2 h1 =>
  (((v2 = 0) →
    f_X7_found (-1000000001 : Int32) h1 (fun v6 h5 =>
    Q v6 h5)) ∧
   (¬ (v2 = 0) →
    f_X4_solve 1 x1 x2 h1 (fun h4 =>
    Q (gi h4 99 2) h4))))
set_option maxRecDepth 20000 in
theorem l_X7_rate (g : GE) (x1 : Int32) (x2 : Int32)  (h : HP) (Q : Int32 → HP → Prop) (H : f_X7_rate x1 x2 h Q) : Wm g mX7_rate 0 [some (.ref 0), some (.int x1), some (.int x2)] [] h (qi Q) := by
  unfold f_X7_rate at H
  refine wm_aload_n 0 1 (by decide +kernel) rfl rfl ?_
  refine wm_getr 7 0 1 1 4 fl_RX7_10 (by decide +kernel) rfl (by decide +kernel) rfl rfl (by decide) ?_
  refine wm_iload_n 1 5 (by decide +kernel) rfl rfl ?_
  refine wm_iload_n 2 6 (by decide +kernel) rfl rfl ?_
  refine wm_callVi mX6_areTwo 2 6 [_, _] [] _ _ 9 mo_X6_areTwo np_X6_areTwo ml_RX7_72 im_X6_areTwo se_X6_areTwo (by decide +kernel) (by decide +kernel) rfl rfl rfl (Nat.le_of_ble_eq_true rfl) (by decide +kernel) rfl (Nat.le_of_ble_eq_true rfl) _ (ent_pad 0 rfl) (l_X6_areTwo g _ _ _ (by decide +kernel) _ _ H) (fun v2 h1 H hzv2 => ?_)
  refine wm_if_ne 12 19 (by decide +kernel : decode cX7_rate 9 = .ok (.ifCond .ne 10, 3)) (by decide) rfl (fun c3 => ?_) (fun c3 => ?_)
  · replace H := H.2 c3
    refine wm_aload_n 0 20 (by decide +kernel) rfl rfl ?_
    refine wm_getr 7 4 99 99 23 fl_RX7_32 (by decide +kernel) rfl (by decide +kernel) rfl rfl (by decide) ?_
    refine wm_aload_n 0 24 (by decide +kernel) rfl rfl ?_
    refine wm_getr 7 0 1 1 27 fl_RX7_10 (by decide +kernel) rfl (by decide +kernel) rfl rfl (by decide) ?_
    refine wm_iload_n 1 28 (by decide +kernel) rfl rfl ?_
    refine wm_iload_n 2 29 (by decide +kernel) rfl rfl ?_
    refine wm_callVv mX4_solve 3 4 [_, _, _] [] _ _ 32 mo_X4_solve np_X4_solve ml_RX7_257 im_X4_solve se_X4_solve (by decide +kernel) (by decide +kernel) rfl rfl rfl (Nat.le_of_ble_eq_true rfl) (by decide +kernel) rfl (Nat.le_of_ble_eq_true rfl) _ (ent_pad 2 rfl) (l_X4_solve g _ _ _ (by decide +kernel) _ _ H) (fun h4 H => ?_)
    refine wm_aload_n 0 33 (by decide +kernel) rfl rfl ?_
    refine wm_getr 7 4 99 99 36 fl_RX7_32 (by decide +kernel) rfl (by decide +kernel) rfl rfl (by decide) ?_
    refine wm_geti 4 2 39 fl_RX7_268 (by decide +kernel) rfl (by decide +kernel) rfl ?_
    exact wm_iret (by decide +kernel) ⟨.int, rfl, rfl⟩ H
  · replace H := H.1 c3
    refine wm_aload_n 0 13 (by decide +kernel) rfl rfl ?_
    refine wm_ldc (-1000000001) 15 co_RX7_58 (by decide +kernel) rfl ?_
    refine wm_callVi mX7_found 1 7 [_] [] _ _ 18 mo_X7_found np_X7_found ml_RX7_59 im_X7_found se_X7_found (by decide +kernel) (by decide +kernel) rfl rfl rfl (Nat.le_of_ble_eq_true rfl) (by decide +kernel) rfl (Nat.le_of_ble_eq_true rfl) _ (ent_pad 1 rfl) (l_X7_found g _ _ _ H) (fun v6 h5 H hzv6 => ?_)
    exact wm_iret (by decide +kernel) ⟨.int, rfl, rfl⟩ H
def f_X7_gain (x1 : Int32) (x2 : Int32) (x3 : Int32) (h : HP) (Q : Int32 → HP → Prop) : Prop :=
  f_X6_areTwo 1 x1 x2 h (fun v2 h1 =>
  (((v2 = 0) →
    f_X7_found (-1000000001 : Int32) h1 (fun v5 h4 =>
    Q v5 h4)) ∧
   (¬ (v2 = 0) →
    f_X7_isIn x3 0 120 h1 (fun v7 h6 =>
    (((v7 = 0) →
      f_X7_found (-1000000001 : Int32) h6 (fun v12 h11 =>
      Q v12 h11)) ∧
     (¬ (v7 = 0) →
      f_X4_solve 1 x1 x2 h6 (fun h9 =>
      vp_in x3 121 ∧
      Q (gi h9 100 (ix x3)) h9)))))))
set_option maxRecDepth 20000 in
theorem l_X7_gain (g : GE) (x1 : Int32) (x2 : Int32) (x3 : Int32)  (h : HP) (Q : Int32 → HP → Prop) (H : f_X7_gain x1 x2 x3 h Q) : Wm g mX7_gain 0 [some (.ref 0), some (.int x1), some (.int x2), some (.int x3)] [] h (qi Q) := by
  unfold f_X7_gain at H
  refine wm_aload_n 0 1 (by decide +kernel) rfl rfl ?_
  refine wm_getr 7 0 1 1 4 fl_RX7_10 (by decide +kernel) rfl (by decide +kernel) rfl rfl (by decide) ?_
  refine wm_iload_n 1 5 (by decide +kernel) rfl rfl ?_
  refine wm_iload_n 2 6 (by decide +kernel) rfl rfl ?_
  refine wm_callVi mX6_areTwo 2 6 [_, _] [] _ _ 9 mo_X6_areTwo np_X6_areTwo ml_RX7_72 im_X6_areTwo se_X6_areTwo (by decide +kernel) (by decide +kernel) rfl rfl rfl (Nat.le_of_ble_eq_true rfl) (by decide +kernel) rfl (Nat.le_of_ble_eq_true rfl) _ (ent_pad 0 rfl) (l_X6_areTwo g _ _ _ (by decide +kernel) _ _ H) (fun v2 h1 H hzv2 => ?_)
  refine wm_if_eq 12 22 (by decide +kernel : decode cX7_gain 9 = .ok (.ifCond .eq 13, 3)) (by decide) rfl (fun c3 => ?_) (fun c3 => ?_)
  · replace H := H.1 c3
    refine wm_aload_n 0 23 (by decide +kernel) rfl rfl ?_
    refine wm_ldc (-1000000001) 25 co_RX7_58 (by decide +kernel) rfl ?_
    refine wm_callVi mX7_found 1 7 [_] [] _ _ 28 mo_X7_found np_X7_found ml_RX7_59 im_X7_found se_X7_found (by decide +kernel) (by decide +kernel) rfl rfl rfl (Nat.le_of_ble_eq_true rfl) (by decide +kernel) rfl (Nat.le_of_ble_eq_true rfl) _ (ent_pad 1 rfl) (l_X7_found g _ _ _ H) (fun v5 h4 H hzv5 => ?_)
    exact wm_iret (by decide +kernel) ⟨.int, rfl, rfl⟩ H
  · replace H := H.2 c3
    refine wm_iload_n 3 13 (by decide +kernel) rfl rfl ?_
    refine wm_iconst 0 14 (by decide +kernel : decode cX7_gain 13 = .ok (.iconst 0, 1)) rfl (by decide +kernel) ?_
    refine wm_bipush 120 16 (by decide +kernel : decode cX7_gain 14 = .ok (.bipush 120, 2)) rfl (by decide +kernel) ?_
    refine wm_callSi mX7_isIn 3 [_, _, _] [] _ _ 19 mo_X7_isIn np_X7_isIn ml_RX7_54 sc_X7_isIn (by decide +kernel) (by decide +kernel) rfl rfl rfl (Nat.le_of_ble_eq_true rfl) (Nat.le_of_ble_eq_true rfl) _ (ent_pad 0 rfl) (l_X7_isIn g _ _ _ _ _ H) (fun v7 h6 H hzv7 => ?_)
    refine wm_if_ne 22 29 (by decide +kernel : decode cX7_gain 19 = .ok (.ifCond .ne 10, 3)) (by decide) rfl (fun c8 => ?_) (fun c8 => ?_)
    · replace H := H.2 c8
      refine wm_aload_n 0 30 (by decide +kernel) rfl rfl ?_
      refine wm_getr 7 4 99 99 33 fl_RX7_32 (by decide +kernel) rfl (by decide +kernel) rfl rfl (by decide) ?_
      refine wm_aload_n 0 34 (by decide +kernel) rfl rfl ?_
      refine wm_getr 7 0 1 1 37 fl_RX7_10 (by decide +kernel) rfl (by decide +kernel) rfl rfl (by decide) ?_
      refine wm_iload_n 1 38 (by decide +kernel) rfl rfl ?_
      refine wm_iload_n 2 39 (by decide +kernel) rfl rfl ?_
      refine wm_callVv mX4_solve 3 4 [_, _, _] [] _ _ 42 mo_X4_solve np_X4_solve ml_RX7_257 im_X4_solve se_X4_solve (by decide +kernel) (by decide +kernel) rfl rfl rfl (Nat.le_of_ble_eq_true rfl) (by decide +kernel) rfl (Nat.le_of_ble_eq_true rfl) _ (ent_pad 2 rfl) (l_X4_solve g _ _ _ (by decide +kernel) _ _ H) (fun h9 H => ?_)
      refine wm_aload_n 0 43 (by decide +kernel) rfl rfl ?_
      refine wm_getr 7 4 99 99 46 fl_RX7_32 (by decide +kernel) rfl (by decide +kernel) rfl rfl (by decide) ?_
      refine wm_getr 4 1 1 100 49 fl_RX7_271 (by decide +kernel) rfl (by decide +kernel) rfl rfl (by decide) ?_
      refine wm_iload_n 3 50 (by decide +kernel) rfl rfl ?_
      obtain ⟨o10, H⟩ := H
      refine wm_iald 121 51 (by decide +kernel) rfl (by decide +kernel) (by decide +kernel) o10 ?_
      exact wm_iret (by decide +kernel) ⟨.int, rfl, rfl⟩ H
    · replace H := H.1 c8
      refine wm_aload_n 0 23 (by decide +kernel) rfl rfl ?_
      refine wm_ldc (-1000000001) 25 co_RX7_58 (by decide +kernel) rfl ?_
      refine wm_callVi mX7_found 1 7 [_] [] _ _ 28 mo_X7_found np_X7_found ml_RX7_59 im_X7_found se_X7_found (by decide +kernel) (by decide +kernel) rfl rfl rfl (Nat.le_of_ble_eq_true rfl) (by decide +kernel) rfl (Nat.le_of_ble_eq_true rfl) _ (ent_pad 1 rfl) (l_X7_found g _ _ _ H) (fun v12 h11 H hzv12 => ?_)
      exact wm_iret (by decide +kernel) ⟨.int, rfl, rfl⟩ H
def f_X7_reach_J57 (x3 : Int32)  (Q : Int32 → HP → Prop) (h : HP) : Prop :=
  f_X4_ticksUntil x3 h (fun v10 h9 =>
  ((((lg_cmp v10 (2147483647 : Int64)) ≤ 0) →
    Q ((v10 : Int64).toInt32) h9) ∧
   (¬ ((lg_cmp v10 (2147483647 : Int64)) ≤ 0) →
    f_X7_found (-1000000008 : Int32) h9 (fun v13 h12 =>
    Q v13 h12))))
def f_X7_reach (x1 : Int32) (x2 : Int32) (x3 : Int32) (h : HP) (Q : Int32 → HP → Prop) : Prop :=
  f_X6_areTwo 1 x1 x2 h (fun v2 h1 =>
  (((v2 = 0) →
    f_X7_found (-1000000001 : Int32) h1 (fun v5 h4 =>
    Q v5 h4)) ∧
   (¬ (v2 = 0) →
    (((0 ≤ x3) →
      f_X4_solve 1 x1 x2 h1 (fun h7 =>
      (((x3 ≤ 0) →
        f_X7_reach_J57 x3  Q h7) ∧
       (¬ (x3 ≤ 0) →
        ((((gi h7 99 2) = 0) →
          f_X7_found (-1000000004 : Int32) h7 (fun v16 h15 =>
          Q v16 h15)) ∧
         (¬ ((gi h7 99 2) = 0) →
          f_X7_reach_J57 x3  Q h7)))))) ∧
     (¬ (0 ≤ x3) →
      f_X7_found (-1000000001 : Int32) h1 (fun v18 h17 =>
      Q v18 h17))))))
set_option maxRecDepth 20000 in
theorem l_X7_reach_J57 (g : GE) (x3 : Int32)   (Q : Int32 → HP → Prop)  (h : HP) (H : f_X7_reach_J57 x3  Q h) : Wm g mX7_reach 57 [some (.ref 0), none, none, some (.int x3), none, none] [] h (qi Q) := by
  unfold f_X7_reach_J57 at H
  refine wm_aload_n 0 58 (by decide +kernel) rfl rfl ?_
  refine wm_getr 7 4 99 99 61 fl_RX7_32 (by decide +kernel) rfl (by decide +kernel) rfl rfl (by decide) ?_
  refine wm_iload_n 3 62 (by decide +kernel) rfl rfl ?_
  refine wm_callVl mX4_ticksUntil 1 4 [_] [] _ _ 65 mo_X4_ticksUntil np_X4_ticksUntil ml_RX7_274 im_X4_ticksUntil se_X4_ticksUntil (by decide +kernel) (by decide +kernel) rfl rfl rfl (Nat.le_of_ble_eq_true rfl) (by decide +kernel) rfl (Nat.le_of_ble_eq_true rfl) _ (ent_pad 7 rfl) (l_X4_ticksUntil g _ _ _ H) (fun v10 h9 H hzv10 => ?_)
  refine wm_lstore 4 67 [some _, none, none, some _, some _, none] (by decide +kernel) rfl (by decide +kernel) (okS_spec rfl) rfl ?_
  refine wm_lload 4 69 (by decide +kernel) rfl rfl ?_
  refine wm_ldc2 2147483647 72 cl_RX7_265 (by decide +kernel) rfl ?_
  refine wm_lcmp 73 (by decide +kernel) rfl ?_
  refine wm_if_le 76 86 (by decide +kernel : decode cX7_reach 73 = .ok (.ifCond .le 13, 3)) (by decide) rfl (fun c11 => ?_) (fun c11 => ?_)
  · replace H := H.1 c11
    refine wm_lload 4 88 (by decide +kernel) rfl rfl ?_
    refine wm_l2i 89 (by decide +kernel) rfl ?_
    exact wm_iret (by decide +kernel) ⟨.int, rfl, rfl⟩ H
  · replace H := H.2 c11
    refine wm_aload_n 0 77 (by decide +kernel) rfl rfl ?_
    refine wm_ldcw (-1000000008) 80 co_RX7_267 (by decide +kernel) rfl ?_
    refine wm_callVi mX7_found 1 7 [_] [] _ _ 83 mo_X7_found np_X7_found ml_RX7_59 im_X7_found se_X7_found (by decide +kernel) (by decide +kernel) rfl rfl rfl (Nat.le_of_ble_eq_true rfl) (by decide +kernel) rfl (Nat.le_of_ble_eq_true rfl) _ (ent_pad 1 rfl) (l_X7_found g _ _ _ H) (fun v13 h12 H hzv13 => ?_)
    refine wm_goto 89 (by decide +kernel : decode cX7_reach 83 = .ok (.goto 6, 3)) (by decide) ?_
    exact wm_iret (by decide +kernel) ⟨.int, rfl, rfl⟩ H
set_option maxRecDepth 20000 in
theorem l_X7_reach (g : GE) (x1 : Int32) (x2 : Int32) (x3 : Int32)  (h : HP) (Q : Int32 → HP → Prop) (H : f_X7_reach x1 x2 x3 h Q) : Wm g mX7_reach 0 [some (.ref 0), some (.int x1), some (.int x2), some (.int x3), none, none] [] h (qi Q) := by
  unfold f_X7_reach at H
  refine wm_aload_n 0 1 (by decide +kernel) rfl rfl ?_
  refine wm_getr 7 0 1 1 4 fl_RX7_10 (by decide +kernel) rfl (by decide +kernel) rfl rfl (by decide) ?_
  refine wm_iload_n 1 5 (by decide +kernel) rfl rfl ?_
  refine wm_iload_n 2 6 (by decide +kernel) rfl rfl ?_
  refine wm_callVi mX6_areTwo 2 6 [_, _] [] _ _ 9 mo_X6_areTwo np_X6_areTwo ml_RX7_72 im_X6_areTwo se_X6_areTwo (by decide +kernel) (by decide +kernel) rfl rfl rfl (Nat.le_of_ble_eq_true rfl) (by decide +kernel) rfl (Nat.le_of_ble_eq_true rfl) _ (ent_pad 0 rfl) (l_X6_areTwo g _ _ _ (by decide +kernel) _ _ H) (fun v2 h1 H hzv2 => ?_)
  refine wm_if_eq 12 16 (by decide +kernel : decode cX7_reach 9 = .ok (.ifCond .eq 7, 3)) (by decide) rfl (fun c3 => ?_) (fun c3 => ?_)
  · replace H := H.1 c3
    refine wm_aload_n 0 17 (by decide +kernel) rfl rfl ?_
    refine wm_ldc (-1000000001) 19 co_RX7_58 (by decide +kernel) rfl ?_
    refine wm_callVi mX7_found 1 7 [_] [] _ _ 22 mo_X7_found np_X7_found ml_RX7_59 im_X7_found se_X7_found (by decide +kernel) (by decide +kernel) rfl rfl rfl (Nat.le_of_ble_eq_true rfl) (by decide +kernel) rfl (Nat.le_of_ble_eq_true rfl) _ (ent_pad 1 rfl) (l_X7_found g _ _ _ H) (fun v5 h4 H hzv5 => ?_)
    exact wm_iret (by decide +kernel) ⟨.int, rfl, rfl⟩ H
  · replace H := H.2 c3
    refine wm_iload_n 3 13 (by decide +kernel) rfl rfl ?_
    refine wm_if_ge 16 23 (by decide +kernel : decode cX7_reach 13 = .ok (.ifCond .ge 10, 3)) (by decide) rfl (fun c6 => ?_) (fun c6 => ?_)
    · replace H := H.1 c6
      refine wm_aload_n 0 24 (by decide +kernel) rfl rfl ?_
      refine wm_getr 7 4 99 99 27 fl_RX7_32 (by decide +kernel) rfl (by decide +kernel) rfl rfl (by decide) ?_
      refine wm_aload_n 0 28 (by decide +kernel) rfl rfl ?_
      refine wm_getr 7 0 1 1 31 fl_RX7_10 (by decide +kernel) rfl (by decide +kernel) rfl rfl (by decide) ?_
      refine wm_iload_n 1 32 (by decide +kernel) rfl rfl ?_
      refine wm_iload_n 2 33 (by decide +kernel) rfl rfl ?_
      refine wm_callVv mX4_solve 3 4 [_, _, _] [] _ _ 36 mo_X4_solve np_X4_solve ml_RX7_257 im_X4_solve se_X4_solve (by decide +kernel) (by decide +kernel) rfl rfl rfl (Nat.le_of_ble_eq_true rfl) (by decide +kernel) rfl (Nat.le_of_ble_eq_true rfl) _ (ent_pad 2 rfl) (l_X4_solve g _ _ _ (by decide +kernel) _ _ H) (fun h7 H => ?_)
      refine wm_iload_n 3 37 (by decide +kernel) rfl rfl ?_
      refine wm_if_le 40 57 (by decide +kernel : decode cX7_reach 37 = .ok (.ifCond .le 20, 3)) (by decide) rfl (fun c8 => ?_) (fun c8 => ?_)
      · replace H := H.1 c8
        refine wm_mask [true, false, false, true, false, false] [some _, none, none, some _, none, none] rfl ?_
        exact l_X7_reach_J57 g _ _  _ H
      · replace H := H.2 c8
        refine wm_aload_n 0 41 (by decide +kernel) rfl rfl ?_
        refine wm_getr 7 4 99 99 44 fl_RX7_32 (by decide +kernel) rfl (by decide +kernel) rfl rfl (by decide) ?_
        refine wm_geti 4 2 47 fl_RX7_268 (by decide +kernel) rfl (by decide +kernel) rfl ?_
        refine wm_if_ne 50 57 (by decide +kernel : decode cX7_reach 47 = .ok (.ifCond .ne 10, 3)) (by decide) rfl (fun c14 => ?_) (fun c14 => ?_)
        · replace H := H.2 c14
          refine wm_mask [true, false, false, true, false, false] [some _, none, none, some _, none, none] rfl ?_
          exact l_X7_reach_J57 g _ _  _ H
        · replace H := H.1 c14
          refine wm_aload_n 0 51 (by decide +kernel) rfl rfl ?_
          refine wm_ldc (-1000000004) 53 co_RX7_211 (by decide +kernel) rfl ?_
          refine wm_callVi mX7_found 1 7 [_] [] _ _ 56 mo_X7_found np_X7_found ml_RX7_59 im_X7_found se_X7_found (by decide +kernel) (by decide +kernel) rfl rfl rfl (Nat.le_of_ble_eq_true rfl) (by decide +kernel) rfl (Nat.le_of_ble_eq_true rfl) _ (ent_pad 1 rfl) (l_X7_found g _ _ _ H) (fun v16 h15 H hzv16 => ?_)
          exact wm_iret (by decide +kernel) ⟨.int, rfl, rfl⟩ H
    · replace H := H.2 c6
      refine wm_aload_n 0 17 (by decide +kernel) rfl rfl ?_
      refine wm_ldc (-1000000001) 19 co_RX7_58 (by decide +kernel) rfl ?_
      refine wm_callVi mX7_found 1 7 [_] [] _ _ 22 mo_X7_found np_X7_found ml_RX7_59 im_X7_found se_X7_found (by decide +kernel) (by decide +kernel) rfl rfl rfl (Nat.le_of_ble_eq_true rfl) (by decide +kernel) rfl (Nat.le_of_ble_eq_true rfl) _ (ent_pad 1 rfl) (l_X7_found g _ _ _ H) (fun v18 h17 H hzv18 => ?_)
      exact wm_iret (by decide +kernel) ⟨.int, rfl, rfl⟩ H
def f_X7_feed_L41 (x1 : Int32)  (Q : Int32 → HP → Prop) : Nat → Int32 → HP → Prop
  | 0, _, _ => False
  | n + 1, x3, h =>
    (((x3 < 0) →
      Q (gi h 105 1) h) ∧
     (¬ (x3 < 0) →
      f_X5_add ((x1 >>> ((8 * x3) &&& 31)) &&& 255) h (fun h7 =>
      ∀ x3_8 : Int32, x3_8 = (x3 + (-1)) →
      f_X7_feed_L41 x1 Q n x3_8 h7)))
def f_X7_feed (x1 : Int32) (x2 : Int32) (h : HP) (Q : Int32 → HP → Prop) : Prop :=
  f_X7_isIn x2 1 4 h (fun v2 h1 =>
  (((v2 = 0) →
    f_X7_found (-1000000001 : Int32) h1 (fun v13 h12 =>
    Q v13 h12)) ∧
   (¬ (v2 = 0) →
    (((((gi h1 105 1) + x2) ≤ 120) →
      ∀ x3_5 : Int32, x3_5 = (x2 - 1) →
      ∃ n9, f_X7_feed_L41 x1
        Q n9 x3_5 h1) ∧
     (¬ (((gi h1 105 1) + x2) ≤ 120) →
      f_X7_found (-1000000002 : Int32) h1 (fun v11 h10 =>
      Q v11 h10))))))
set_option maxRecDepth 20000 in
theorem l_X7_feed_L41 (g : GE) (x1 : Int32)   (Q : Int32 → HP → Prop)  : ∀ (n : Nat) (x3 : Int32) (h : HP), f_X7_feed_L41 x1 Q n x3 h → Wm g mX7_feed 41 [some (.ref 0), some (.int x1), none, some (.int x3)] [] h (qi Q) := by
  intro n
  induction n with
  | zero => intro x3 h H; exact H.elim
  | succ n ih =>
    intro x3 h H
    unfold f_X7_feed_L41 at H
    refine wm_iload_n 3 42 (by decide +kernel) rfl rfl ?_
    refine wm_if_lt 45 68 (by decide +kernel : decode cX7_feed 42 = .ok (.ifCond .lt 26, 3)) (by decide) rfl (fun c6 => ?_) (fun c6 => ?_)
    · replace H := H.1 c6
      refine wm_aload_n 0 69 (by decide +kernel) rfl rfl ?_
      refine wm_getr 7 5 105 105 72 fl_RX7_39 (by decide +kernel) rfl (by decide +kernel) rfl rfl (by decide) ?_
      refine wm_geti 5 1 75 fl_RX7_277 (by decide +kernel) rfl (by decide +kernel) rfl ?_
      exact wm_iret (by decide +kernel) ⟨.int, rfl, rfl⟩ H
    · replace H := H.2 c6
      refine wm_aload_n 0 46 (by decide +kernel) rfl rfl ?_
      refine wm_getr 7 5 105 105 49 fl_RX7_39 (by decide +kernel) rfl (by decide +kernel) rfl rfl (by decide) ?_
      refine wm_iload_n 1 50 (by decide +kernel) rfl rfl ?_
      refine wm_bipush 8 52 (by decide +kernel : decode cX7_feed 50 = .ok (.bipush 8, 2)) rfl (by decide +kernel) ?_
      refine wm_iload_n 3 53 (by decide +kernel) rfl rfl ?_
      refine wm_imul 54 (by decide +kernel) rfl ?_
      refine wm_ishr 55 (by decide +kernel) rfl ?_
      refine wm_sipush 255 58 (by decide +kernel : decode cX7_feed 55 = .ok (.sipush 255, 3)) rfl (by decide +kernel) ?_
      refine wm_iand 59 (by decide +kernel) rfl ?_
      refine wm_callVv mX5_add 1 5 [_] [] _ _ 62 mo_X5_add np_X5_add ml_RX7_280 im_X5_add se_X5_add (by decide +kernel) (by decide +kernel) rfl rfl rfl (Nat.le_of_ble_eq_true rfl) (by decide +kernel) rfl (Nat.le_of_ble_eq_true rfl) _ (ent_pad 0 rfl) (l_X5_add g _ _ _ H) (fun h7 H => ?_)
      replace H := H _ rfl
      refine wm_iinc 3 (_ + (-1)) 65 [some _, some _, none, some _] (by decide +kernel : decode cX7_feed 62 = .ok (.iinc 3 (-1), 3)) rfl (by decide +kernel) rfl (ofI_eq (by decide +kernel)) (okS_spec rfl) rfl ?_
      refine wm_goto 41 (by decide +kernel : decode cX7_feed 65 = .ok (.goto (-24), 3)) (by decide) ?_
      exact ih _ _ H
set_option maxRecDepth 20000 in
theorem l_X7_feed (g : GE) (x1 : Int32) (x2 : Int32)  (h : HP) (Q : Int32 → HP → Prop) (H : f_X7_feed x1 x2 h Q) : Wm g mX7_feed 0 [some (.ref 0), some (.int x1), some (.int x2), none] [] h (qi Q) := by
  unfold f_X7_feed at H
  refine wm_iload_n 2 1 (by decide +kernel) rfl rfl ?_
  refine wm_iconst 1 2 (by decide +kernel : decode cX7_feed 1 = .ok (.iconst 1, 1)) rfl (by decide +kernel) ?_
  refine wm_iconst 4 3 (by decide +kernel : decode cX7_feed 2 = .ok (.iconst 4, 1)) rfl (by decide +kernel) ?_
  refine wm_callSi mX7_isIn 3 [_, _, _] [] _ _ 6 mo_X7_isIn np_X7_isIn ml_RX7_54 sc_X7_isIn (by decide +kernel) (by decide +kernel) rfl rfl rfl (Nat.le_of_ble_eq_true rfl) (Nat.le_of_ble_eq_true rfl) _ (ent_pad 0 rfl) (l_X7_isIn g _ _ _ _ _ H) (fun v2 h1 H hzv2 => ?_)
  refine wm_if_ne 9 16 (by decide +kernel : decode cX7_feed 6 = .ok (.ifCond .ne 10, 3)) (by decide) rfl (fun c3 => ?_) (fun c3 => ?_)
  · replace H := H.2 c3
    refine wm_aload_n 0 17 (by decide +kernel) rfl rfl ?_
    refine wm_getr 7 5 105 105 20 fl_RX7_39 (by decide +kernel) rfl (by decide +kernel) rfl rfl (by decide) ?_
    refine wm_geti 5 1 23 fl_RX7_277 (by decide +kernel) rfl (by decide +kernel) rfl ?_
    refine wm_iload_n 2 24 (by decide +kernel) rfl rfl ?_
    refine wm_iadd 25 (by decide +kernel) rfl ?_
    refine wm_bipush 120 27 (by decide +kernel : decode cX7_feed 25 = .ok (.bipush 120, 2)) rfl (by decide +kernel) ?_
    refine wm_icmp_le 30 37 (by decide +kernel : decode cX7_feed 27 = .ok (.if_icmp .le 10, 3)) (by decide) rfl (fun c4 => ?_) (fun c4 => ?_)
    · replace H := H.1 c4
      refine wm_iload_n 2 38 (by decide +kernel) rfl rfl ?_
      refine wm_iconst 1 39 (by decide +kernel : decode cX7_feed 38 = .ok (.iconst 1, 1)) rfl (by decide +kernel) ?_
      refine wm_isub 40 (by decide +kernel) rfl ?_
      replace H := H _ rfl
      refine wm_istore_n 3 41 [some _, some _, some _, some _] (by decide +kernel) rfl (by decide +kernel) (okS_spec rfl) rfl ?_
      obtain ⟨n9, H⟩ := H
      refine wm_mask [true, true, false, true] [some _, some _, none, some _] rfl ?_
      refine l_X7_feed_L41 g _ _  _ _ _ H
    · replace H := H.2 c4
      refine wm_aload_n 0 31 (by decide +kernel) rfl rfl ?_
      refine wm_ldc (-1000000002) 33 co_RX7_67 (by decide +kernel) rfl ?_
      refine wm_callVi mX7_found 1 7 [_] [] _ _ 36 mo_X7_found np_X7_found ml_RX7_59 im_X7_found se_X7_found (by decide +kernel) (by decide +kernel) rfl rfl rfl (Nat.le_of_ble_eq_true rfl) (by decide +kernel) rfl (Nat.le_of_ble_eq_true rfl) _ (ent_pad 1 rfl) (l_X7_found g _ _ _ H) (fun v11 h10 H hzv11 => ?_)
      exact wm_iret (by decide +kernel) ⟨.int, rfl, rfl⟩ H
  · replace H := H.1 c3
    refine wm_aload_n 0 10 (by decide +kernel) rfl rfl ?_
    refine wm_ldc (-1000000001) 12 co_RX7_58 (by decide +kernel) rfl ?_
    refine wm_callVi mX7_found 1 7 [_] [] _ _ 15 mo_X7_found np_X7_found ml_RX7_59 im_X7_found se_X7_found (by decide +kernel) (by decide +kernel) rfl rfl rfl (Nat.le_of_ble_eq_true rfl) (by decide +kernel) rfl (Nat.le_of_ble_eq_true rfl) _ (ent_pad 1 rfl) (l_X7_found g _ _ _ H) (fun v13 h12 H hzv13 => ?_)
    exact wm_iret (by decide +kernel) ⟨.int, rfl, rfl⟩ H
def f_X7_wipe  (h : HP) (Q : Int32 → HP → Prop) : Prop :=
  ∀ x1_1 : Int32, x1_1 = (gi h 105 1) →
  ∀ h2 : HP, h2 = si h 105 1 0 →
  Q x1_1 h2
set_option maxRecDepth 20000 in
theorem l_X7_wipe (g : GE)   (h : HP) (Q : Int32 → HP → Prop) (H : f_X7_wipe  h Q) : Wm g mX7_wipe 0 [some (.ref 0), none] [] h (qi Q) := by
  unfold f_X7_wipe at H
  refine wm_aload_n 0 1 (by decide +kernel) rfl rfl ?_
  refine wm_getr 7 5 105 105 4 fl_RX7_39 (by decide +kernel) rfl (by decide +kernel) rfl rfl (by decide) ?_
  refine wm_geti 5 1 7 fl_RX7_277 (by decide +kernel) rfl (by decide +kernel) rfl ?_
  replace H := H _ rfl
  refine wm_istore_n 1 8 [some _, some _] (by decide +kernel) rfl (by decide +kernel) (okS_spec rfl) rfl ?_
  refine wm_aload_n 0 9 (by decide +kernel) rfl rfl ?_
  refine wm_getr 7 5 105 105 12 fl_RX7_39 (by decide +kernel) rfl (by decide +kernel) rfl rfl (by decide) ?_
  refine wm_iconst 0 13 (by decide +kernel : decode cX7_wipe 12 = .ok (.iconst 0, 1)) rfl (by decide +kernel) ?_
  replace H := H _ rfl
  refine wm_puti 5 1 16 fl_RX7_277 (by decide +kernel) rfl (by decide +kernel) rfl rfl ⟨rfl, rfl⟩ ?_
  refine wm_iload_n 1 17 (by decide +kernel) rfl rfl ?_
  exact wm_iret (by decide +kernel) ⟨.int, rfl, rfl⟩ H
def f_X7_sheet (x1 : Int32) (x2 : Int32) (x3 : Int32) (h : HP) (Q : Int32 → HP → Prop) : Prop :=
  f_X7_isIn x1 0 3 h (fun v2 h1 =>
  (((v2 = 0) →
    f_X7_found (-1000000001 : Int32) h1 (fun v5 h4 =>
    Q v5 h4)) ∧
   (¬ (v2 = 0) →
    f_X2_hasBits x2 h1 (fun v7 h6 =>
    (((v7 = 0) →
      f_X7_found (-1000000001 : Int32) h6 (fun v21 h20 =>
      Q v21 h20)) ∧
     (¬ (v7 = 0) →
      (((x2 = 0) →
        vp_in x1 4 ∧
        f_X2_renew (107 + 2 + 2 * ix x1) 0 0 h6 (fun h19 =>
        Q 0 h19)) ∧
       (¬ (x2 = 0) →
        (((0 ≤ x3) →
          (((x3 ≤ 40) →
            vp_in x1 4 ∧
            f_X2_renew (107 + 2 + 2 * ix x1) x2 x3 h6 (fun h13 =>
            Q x3 h13)) ∧
           (¬ (x3 ≤ 40) →
            f_X7_found (-1000000001 : Int32) h6 (fun v15 h14 =>
            Q v15 h14)))) ∧
         (¬ (0 ≤ x3) →
          f_X7_found (-1000000007 : Int32) h6 (fun v17 h16 =>
          Q v17 h16)))))))))))
set_option maxRecDepth 20000 in
theorem l_X7_sheet (g : GE) (x1 : Int32) (x2 : Int32) (x3 : Int32)  (h : HP) (Q : Int32 → HP → Prop) (H : f_X7_sheet x1 x2 x3 h Q) : Wm g mX7_sheet 0 [some (.ref 0), some (.int x1), some (.int x2), some (.int x3)] [] h (qi Q) := by
  unfold f_X7_sheet at H
  refine wm_iload_n 1 1 (by decide +kernel) rfl rfl ?_
  refine wm_iconst 0 2 (by decide +kernel : decode cX7_sheet 1 = .ok (.iconst 0, 1)) rfl (by decide +kernel) ?_
  refine wm_iconst 3 3 (by decide +kernel : decode cX7_sheet 2 = .ok (.iconst 3, 1)) rfl (by decide +kernel) ?_
  refine wm_callSi mX7_isIn 3 [_, _, _] [] _ _ 6 mo_X7_isIn np_X7_isIn ml_RX7_54 sc_X7_isIn (by decide +kernel) (by decide +kernel) rfl rfl rfl (Nat.le_of_ble_eq_true rfl) (Nat.le_of_ble_eq_true rfl) _ (ent_pad 0 rfl) (l_X7_isIn g _ _ _ _ _ H) (fun v2 h1 H hzv2 => ?_)
  refine wm_if_eq 9 16 (by decide +kernel : decode cX7_sheet 6 = .ok (.ifCond .eq 10, 3)) (by decide) rfl (fun c3 => ?_) (fun c3 => ?_)
  · replace H := H.1 c3
    refine wm_aload_n 0 17 (by decide +kernel) rfl rfl ?_
    refine wm_ldc (-1000000001) 19 co_RX7_58 (by decide +kernel) rfl ?_
    refine wm_callVi mX7_found 1 7 [_] [] _ _ 22 mo_X7_found np_X7_found ml_RX7_59 im_X7_found se_X7_found (by decide +kernel) (by decide +kernel) rfl rfl rfl (Nat.le_of_ble_eq_true rfl) (by decide +kernel) rfl (Nat.le_of_ble_eq_true rfl) _ (ent_pad 1 rfl) (l_X7_found g _ _ _ H) (fun v5 h4 H hzv5 => ?_)
    exact wm_iret (by decide +kernel) ⟨.int, rfl, rfl⟩ H
  · replace H := H.2 c3
    refine wm_iload_n 2 10 (by decide +kernel) rfl rfl ?_
    refine wm_callSi mX2_hasBits 1 [_] [] _ _ 13 mo_X2_hasBits np_X2_hasBits ml_RX7_297 sc_X2_hasBits (by decide +kernel) (by decide +kernel) rfl rfl rfl (Nat.le_of_ble_eq_true rfl) (Nat.le_of_ble_eq_true rfl) _ (ent_pad 0 rfl) (l_X2_hasBits g _ _ _ H) (fun v7 h6 H hzv7 => ?_)
    refine wm_if_ne 16 23 (by decide +kernel : decode cX7_sheet 13 = .ok (.ifCond .ne 10, 3)) (by decide) rfl (fun c8 => ?_) (fun c8 => ?_)
    · replace H := H.2 c8
      refine wm_iload_n 2 24 (by decide +kernel) rfl rfl ?_
      refine wm_if_ne 27 40 (by decide +kernel : decode cX7_sheet 24 = .ok (.ifCond .ne 16, 3)) (by decide) rfl (fun c9 => ?_) (fun c9 => ?_)
      · replace H := H.2 c9
        refine wm_iload_n 3 41 (by decide +kernel) rfl rfl ?_
        refine wm_if_ge 44 52 (by decide +kernel : decode cX7_sheet 41 = .ok (.ifCond .ge 11, 3)) (by decide) rfl (fun c10 => ?_) (fun c10 => ?_)
        · replace H := H.1 c10
          refine wm_iload_n 3 53 (by decide +kernel) rfl rfl ?_
          refine wm_bipush 40 55 (by decide +kernel : decode cX7_sheet 53 = .ok (.bipush 40, 2)) rfl (by decide +kernel) ?_
          refine wm_icmp_le 58 65 (by decide +kernel : decode cX7_sheet 55 = .ok (.if_icmp .le 10, 3)) (by decide) rfl (fun c11 => ?_) (fun c11 => ?_)
          · replace H := H.1 c11
            refine wm_aload_n 0 66 (by decide +kernel) rfl rfl ?_
            refine wm_getr 7 6 107 107 69 fl_RX7_45 (by decide +kernel) rfl (by decide +kernel) rfl rfl (by decide) ?_
            refine wm_iload_n 1 70 (by decide +kernel) rfl rfl ?_
            obtain ⟨o12, H⟩ := H
            refine wm_aald 4 _ 71 (by decide +kernel) rfl (Or.inr (Or.inr ⟨(by decide +kernel), rfl⟩)) (by decide +kernel) o12 ?_
            refine wm_iload_n 2 72 (by decide +kernel) rfl rfl ?_
            refine wm_iload_n 3 73 (by decide +kernel) rfl rfl ?_
            refine wm_callVv mX2_renew 2 2 [_, _] [] _ _ 76 mo_X2_renew np_X2_renew ml_RX7_300 im_X2_renew se_X2_renew (by decide +kernel) (by decide +kernel) rfl rfl rfl (Nat.le_of_ble_eq_true rfl) (E_sh (by decide +kernel) (vp_in_lt o12)) rfl (Nat.le_of_ble_eq_true rfl) _ (ent_pad 0 rfl) (l_X2_renew g _ _ _ (E_sh (by decide +kernel) (vp_in_lt o12)) _ _ H) (fun h13 H => ?_)
            refine wm_iload_n 3 77 (by decide +kernel) rfl rfl ?_
            exact wm_iret (by decide +kernel) ⟨.int, rfl, rfl⟩ H
          · replace H := H.2 c11
            refine wm_aload_n 0 59 (by decide +kernel) rfl rfl ?_
            refine wm_ldc (-1000000001) 61 co_RX7_58 (by decide +kernel) rfl ?_
            refine wm_callVi mX7_found 1 7 [_] [] _ _ 64 mo_X7_found np_X7_found ml_RX7_59 im_X7_found se_X7_found (by decide +kernel) (by decide +kernel) rfl rfl rfl (Nat.le_of_ble_eq_true rfl) (by decide +kernel) rfl (Nat.le_of_ble_eq_true rfl) _ (ent_pad 1 rfl) (l_X7_found g _ _ _ H) (fun v15 h14 H hzv15 => ?_)
            exact wm_iret (by decide +kernel) ⟨.int, rfl, rfl⟩ H
        · replace H := H.2 c10
          refine wm_aload_n 0 45 (by decide +kernel) rfl rfl ?_
          refine wm_ldcw (-1000000007) 48 co_RX7_304 (by decide +kernel) rfl ?_
          refine wm_callVi mX7_found 1 7 [_] [] _ _ 51 mo_X7_found np_X7_found ml_RX7_59 im_X7_found se_X7_found (by decide +kernel) (by decide +kernel) rfl rfl rfl (Nat.le_of_ble_eq_true rfl) (by decide +kernel) rfl (Nat.le_of_ble_eq_true rfl) _ (ent_pad 1 rfl) (l_X7_found g _ _ _ H) (fun v17 h16 H hzv17 => ?_)
          exact wm_iret (by decide +kernel) ⟨.int, rfl, rfl⟩ H
      · replace H := H.1 c9
        refine wm_aload_n 0 28 (by decide +kernel) rfl rfl ?_
        refine wm_getr 7 6 107 107 31 fl_RX7_45 (by decide +kernel) rfl (by decide +kernel) rfl rfl (by decide) ?_
        refine wm_iload_n 1 32 (by decide +kernel) rfl rfl ?_
        obtain ⟨o18, H⟩ := H
        refine wm_aald 4 _ 33 (by decide +kernel) rfl (Or.inr (Or.inr ⟨(by decide +kernel), rfl⟩)) (by decide +kernel) o18 ?_
        refine wm_iconst 0 34 (by decide +kernel : decode cX7_sheet 33 = .ok (.iconst 0, 1)) rfl (by decide +kernel) ?_
        refine wm_iconst 0 35 (by decide +kernel : decode cX7_sheet 34 = .ok (.iconst 0, 1)) rfl (by decide +kernel) ?_
        refine wm_callVv mX2_renew 2 2 [_, _] [] _ _ 38 mo_X2_renew np_X2_renew ml_RX7_300 im_X2_renew se_X2_renew (by decide +kernel) (by decide +kernel) rfl rfl rfl (Nat.le_of_ble_eq_true rfl) (E_sh (by decide +kernel) (vp_in_lt o18)) rfl (Nat.le_of_ble_eq_true rfl) _ (ent_pad 0 rfl) (l_X2_renew g _ _ _ (E_sh (by decide +kernel) (vp_in_lt o18)) _ _ H) (fun h19 H => ?_)
        refine wm_iconst 0 39 (by decide +kernel : decode cX7_sheet 38 = .ok (.iconst 0, 1)) rfl (by decide +kernel) ?_
        exact wm_iret (by decide +kernel) ⟨.int, rfl, rfl⟩ H
    · replace H := H.1 c8
      refine wm_aload_n 0 17 (by decide +kernel) rfl rfl ?_
      refine wm_ldc (-1000000001) 19 co_RX7_58 (by decide +kernel) rfl ?_
      refine wm_callVi mX7_found 1 7 [_] [] _ _ 22 mo_X7_found np_X7_found ml_RX7_59 im_X7_found se_X7_found (by decide +kernel) (by decide +kernel) rfl rfl rfl (Nat.le_of_ble_eq_true rfl) (by decide +kernel) rfl (Nat.le_of_ble_eq_true rfl) _ (ent_pad 1 rfl) (l_X7_found g _ _ _ H) (fun v21 h20 H hzv21 => ?_)
      exact wm_iret (by decide +kernel) ⟨.int, rfl, rfl⟩ H
def f_X7_write (x1 : Int32) (x2 : Int32) (x3 : Int64) (h : HP) (Q : Int64 → HP → Prop) : Prop :=
  f_X7_sheetFault x1 h (fun v2 h1 =>
  (((v2 = 0) →
    vp_in x1 4 ∧
    f_X7_isIn x2 0 ((gi h1 (107 + 2 + 2 * ix x1) 2) - 1) h1 (fun v6 h5 =>
    (((v6 = 0) →
      f_X7_found (-1000000001 : Int32) h5 (fun v12 h11 =>
      Q ((v12 : Int32).toInt64) h11)) ∧
     (¬ (v6 = 0) →
      vp_in x2 40 ∧
      ∀ x7_9 : Int64, x7_9 = (gl h5 ((107 + 2 + 2 * ix x1) + 1) (ix x2)) →
      f_X2_put (107 + 2 + 2 * ix x1) x2 x3 h5 (fun h10 =>
      Q x7_9 h10))))) ∧
   (¬ (v2 = 0) →
    f_X7_found v2 h1 (fun v14 h13 =>
    Q ((v14 : Int32).toInt64) h13))))
set_option maxRecDepth 20000 in
theorem l_X7_write (g : GE) (x1 : Int32) (x2 : Int32) (x3 : Int64)  (h : HP) (Q : Int64 → HP → Prop) (H : f_X7_write x1 x2 x3 h Q) : Wm g mX7_write 0 [some (.ref 0), some (.int x1), some (.int x2), some (.long x3), none, none, none, none, none] [] h (ql Q) := by
  unfold f_X7_write at H
  refine wm_aload_n 0 1 (by decide +kernel) rfl rfl ?_
  refine wm_iload_n 1 2 (by decide +kernel) rfl rfl ?_
  refine wm_callVi mX7_sheetFault 1 7 [_] [] _ _ 5 mo_X7_sheetFault np_X7_sheetFault ml_RX7_221 im_X7_sheetFault se_X7_sheetFault (by decide +kernel) (by decide +kernel) rfl rfl rfl (Nat.le_of_ble_eq_true rfl) (by decide +kernel) rfl (Nat.le_of_ble_eq_true rfl) _ (ent_pad 0 rfl) (l_X7_sheetFault g _ _ _ H) (fun v2 h1 H hzv2 => ?_)
  refine wm_istore 5 7 [some _, some _, some _, some _, none, some _, none, none, none] (by decide +kernel) rfl (by decide +kernel) (okS_spec rfl) rfl ?_
  refine wm_iload 5 9 (by decide +kernel) rfl rfl ?_
  refine wm_if_eq 12 20 (by decide +kernel : decode cX7_write 9 = .ok (.ifCond .eq 11, 3)) (by decide) rfl (fun c3 => ?_) (fun c3 => ?_)
  · replace H := H.1 c3
    refine wm_aload_n 0 21 (by decide +kernel) rfl rfl ?_
    refine wm_getr 7 6 107 107 24 fl_RX7_45 (by decide +kernel) rfl (by decide +kernel) rfl rfl (by decide) ?_
    refine wm_iload_n 1 25 (by decide +kernel) rfl rfl ?_
    obtain ⟨o4, H⟩ := H
    refine wm_aald 4 _ 26 (by decide +kernel) rfl (Or.inr (Or.inr ⟨(by decide +kernel), rfl⟩)) (by decide +kernel) o4 ?_
    refine wm_astore 6 28 [some _, some _, some _, some _, none, some _, some _, none, none] (by decide +kernel) rfl (by decide +kernel) (okS_spec rfl) rfl ?_
    refine wm_iload_n 2 29 (by decide +kernel) rfl rfl ?_
    refine wm_iconst 0 30 (by decide +kernel : decode cX7_write 29 = .ok (.iconst 0, 1)) rfl (by decide +kernel) ?_
    refine wm_aload 6 32 (by decide +kernel) rfl rfl ?_
    refine wm_geti 2 2 35 fl_RX7_305 (by decide +kernel) rfl (E_sh (by decide +kernel) (vp_in_lt o4)) rfl ?_
    refine wm_iconst 1 36 (by decide +kernel : decode cX7_write 35 = .ok (.iconst 1, 1)) rfl (by decide +kernel) ?_
    refine wm_isub 37 (by decide +kernel) rfl ?_
    refine wm_callSi mX7_isIn 3 [_, _, _] [] _ _ 40 mo_X7_isIn np_X7_isIn ml_RX7_54 sc_X7_isIn (by decide +kernel) (by decide +kernel) rfl rfl rfl (Nat.le_of_ble_eq_true rfl) (Nat.le_of_ble_eq_true rfl) _ (ent_pad 0 rfl) (l_X7_isIn g _ _ _ _ _ H) (fun v6 h5 H hzv6 => ?_)
    refine wm_if_ne 43 51 (by decide +kernel : decode cX7_write 40 = .ok (.ifCond .ne 11, 3)) (by decide) rfl (fun c7 => ?_) (fun c7 => ?_)
    · replace H := H.2 c7
      refine wm_aload 6 53 (by decide +kernel) rfl rfl ?_
      refine wm_getr 2 0 1 _ 56 fl_RX7_306 (by decide +kernel) rfl (E_sh (by decide +kernel) (vp_in_lt o4)) rfl rfl (by decide) ?_
      refine wm_iload_n 2 57 (by decide +kernel) rfl rfl ?_
      obtain ⟨o8, H⟩ := H
      refine wm_lald 40 58 (by decide +kernel) rfl (S_row (E_sh (by decide +kernel) (vp_in_lt o4))).1 (S_row (E_sh (by decide +kernel) (vp_in_lt o4))).2 o8 ?_
      replace H := H _ rfl
      refine wm_lstore 7 60 [some _, some _, some _, some _, none, some _, some _, some _, none] (by decide +kernel) rfl (by decide +kernel) (okS_spec rfl) rfl ?_
      refine wm_aload 6 62 (by decide +kernel) rfl rfl ?_
      refine wm_iload_n 2 63 (by decide +kernel) rfl rfl ?_
      refine wm_lload_n 3 64 (by decide +kernel) rfl rfl ?_
      refine wm_callVv mX2_put 2 2 [_, _] [] _ _ 67 mo_X2_put np_X2_put ml_RX7_310 im_X2_put se_X2_put (by decide +kernel) (by decide +kernel) rfl rfl rfl (Nat.le_of_ble_eq_true rfl) (E_sh (by decide +kernel) (vp_in_lt o4)) rfl (Nat.le_of_ble_eq_true rfl) _ (ent_pad 0 rfl) (l_X2_put g _ _ _ (E_sh (by decide +kernel) (vp_in_lt o4)) _ _ H) (fun h10 H => ?_)
      refine wm_lload 7 69 (by decide +kernel) rfl rfl ?_
      exact wm_lret (by decide +kernel) rfl H
    · replace H := H.1 c7
      refine wm_aload_n 0 44 (by decide +kernel) rfl rfl ?_
      refine wm_ldc (-1000000001) 46 co_RX7_58 (by decide +kernel) rfl ?_
      refine wm_callVi mX7_found 1 7 [_] [] _ _ 49 mo_X7_found np_X7_found ml_RX7_59 im_X7_found se_X7_found (by decide +kernel) (by decide +kernel) rfl rfl rfl (Nat.le_of_ble_eq_true rfl) (by decide +kernel) rfl (Nat.le_of_ble_eq_true rfl) _ (ent_pad 1 rfl) (l_X7_found g _ _ _ H) (fun v12 h11 H hzv12 => ?_)
      refine wm_i2l 50 (by decide +kernel) rfl ?_
      exact wm_lret (by decide +kernel) rfl H
  · replace H := H.2 c3
    refine wm_aload_n 0 13 (by decide +kernel) rfl rfl ?_
    refine wm_iload 5 15 (by decide +kernel) rfl rfl ?_
    refine wm_callVi mX7_found 1 7 [_] [] _ _ 18 mo_X7_found np_X7_found ml_RX7_59 im_X7_found se_X7_found (by decide +kernel) (by decide +kernel) rfl rfl rfl (Nat.le_of_ble_eq_true rfl) (by decide +kernel) rfl (Nat.le_of_ble_eq_true rfl) _ (ent_pad 1 rfl) (l_X7_found g _ _ _ H) (fun v14 h13 H hzv14 => ?_)
    refine wm_i2l 19 (by decide +kernel) rfl ?_
    exact wm_lret (by decide +kernel) rfl H
def f_X7_copy (x1 : Int32) (x2 : Int32) (x3 : Int32) (x4 : Int32) (x5 : Int32) (h : HP) (Q : Int32 → HP → Prop) : Prop :=
  f_X7_isIn x1 0 3 h (fun v2 h1 =>
  (((v2 = 0) →
    f_X7_found (-1000000001 : Int32) h1 (fun v5 h4 =>
    Q v5 h4)) ∧
   (¬ (v2 = 0) →
    f_X7_isIn x3 0 3 h1 (fun v7 h6 =>
    (((v7 = 0) →
      f_X7_found (-1000000001 : Int32) h6 (fun v33 h32 =>
      Q v33 h32)) ∧
     (¬ (v7 = 0) →
      vp_in x1 4 ∧
      vp_in x3 4 ∧
      ((((gi h6 (107 + 2 + 2 * ix x1) 1) = 0) →
        f_X7_found (-1000000006 : Int32) h6 (fun v13 h12 =>
        Q v13 h12)) ∧
       (¬ ((gi h6 (107 + 2 + 2 * ix x1) 1) = 0) →
        ((((gi h6 (107 + 2 + 2 * ix x3) 1) = 0) →
          f_X7_found (-1000000006 : Int32) h6 (fun v31 h30 =>
          Q v31 h30)) ∧
         (¬ ((gi h6 (107 + 2 + 2 * ix x3) 1) = 0) →
          ((((gi h6 (107 + 2 + 2 * ix x1) 1) = (gi h6 (107 + 2 + 2 * ix x3) 1)) →
            f_X2_hasPart (107 + 2 + 2 * ix x1) x2 x5 h6 (fun v17 h16 =>
            (((v17 = 0) →
              f_X7_found (-1000000001 : Int32) h16 (fun v20 h19 =>
              Q v20 h19)) ∧
             (¬ (v17 = 0) →
              f_X2_hasPart (107 + 2 + 2 * ix x3) x4 x5 h16 (fun v22 h21 =>
              (((v22 = 0) →
                f_X7_found (-1000000001 : Int32) h21 (fun v27 h26 =>
                Q v27 h26)) ∧
               (¬ (v22 = 0) →
                (¬ (x2 : Int32) < 0 ∧ ¬ (x4 : Int32) < 0 ∧ ¬ (x5 : Int32) < 0 ∧ ix x2 + ix x5 ≤ 40 ∧ ix x4 + ix x5 ≤ 40) ∧
                ∀ h25 : HP, h25 = cpl h21 ((107 + 2 + 2 * ix x1) + 1) ((107 + 2 + 2 * ix x3) + 1) (ix x2) (ix x4) (ix x5) →
                Q x5 h25))))))) ∧
           (¬ ((gi h6 (107 + 2 + 2 * ix x1) 1) = (gi h6 (107 + 2 + 2 * ix x3) 1)) →
            f_X7_found (-1000000003 : Int32) h6 (fun v29 h28 =>
            Q v29 h28)))))))))))))
set_option maxRecDepth 20000 in
theorem l_X7_copy (g : GE) (x1 : Int32) (x2 : Int32) (x3 : Int32) (x4 : Int32) (x5 : Int32)  (h : HP) (Q : Int32 → HP → Prop) (H : f_X7_copy x1 x2 x3 x4 x5 h Q) : Wm g mX7_copy 0 [some (.ref 0), some (.int x1), some (.int x2), some (.int x3), some (.int x4), some (.int x5), none, none] [] h (qi Q) := by
  unfold f_X7_copy at H
  refine wm_iload_n 1 1 (by decide +kernel) rfl rfl ?_
  refine wm_iconst 0 2 (by decide +kernel : decode cX7_copy 1 = .ok (.iconst 0, 1)) rfl (by decide +kernel) ?_
  refine wm_iconst 3 3 (by decide +kernel : decode cX7_copy 2 = .ok (.iconst 3, 1)) rfl (by decide +kernel) ?_
  refine wm_callSi mX7_isIn 3 [_, _, _] [] _ _ 6 mo_X7_isIn np_X7_isIn ml_RX7_54 sc_X7_isIn (by decide +kernel) (by decide +kernel) rfl rfl rfl (Nat.le_of_ble_eq_true rfl) (Nat.le_of_ble_eq_true rfl) _ (ent_pad 0 rfl) (l_X7_isIn g _ _ _ _ _ H) (fun v2 h1 H hzv2 => ?_)
  refine wm_if_eq 9 18 (by decide +kernel : decode cX7_copy 6 = .ok (.ifCond .eq 12, 3)) (by decide) rfl (fun c3 => ?_) (fun c3 => ?_)
  · replace H := H.1 c3
    refine wm_aload_n 0 19 (by decide +kernel) rfl rfl ?_
    refine wm_ldc (-1000000001) 21 co_RX7_58 (by decide +kernel) rfl ?_
    refine wm_callVi mX7_found 1 7 [_] [] _ _ 24 mo_X7_found np_X7_found ml_RX7_59 im_X7_found se_X7_found (by decide +kernel) (by decide +kernel) rfl rfl rfl (Nat.le_of_ble_eq_true rfl) (by decide +kernel) rfl (Nat.le_of_ble_eq_true rfl) _ (ent_pad 1 rfl) (l_X7_found g _ _ _ H) (fun v5 h4 H hzv5 => ?_)
    exact wm_iret (by decide +kernel) ⟨.int, rfl, rfl⟩ H
  · replace H := H.2 c3
    refine wm_iload_n 3 10 (by decide +kernel) rfl rfl ?_
    refine wm_iconst 0 11 (by decide +kernel : decode cX7_copy 10 = .ok (.iconst 0, 1)) rfl (by decide +kernel) ?_
    refine wm_iconst 3 12 (by decide +kernel : decode cX7_copy 11 = .ok (.iconst 3, 1)) rfl (by decide +kernel) ?_
    refine wm_callSi mX7_isIn 3 [_, _, _] [] _ _ 15 mo_X7_isIn np_X7_isIn ml_RX7_54 sc_X7_isIn (by decide +kernel) (by decide +kernel) rfl rfl rfl (Nat.le_of_ble_eq_true rfl) (Nat.le_of_ble_eq_true rfl) _ (ent_pad 0 rfl) (l_X7_isIn g _ _ _ _ _ H) (fun v7 h6 H hzv7 => ?_)
    refine wm_if_ne 18 25 (by decide +kernel : decode cX7_copy 15 = .ok (.ifCond .ne 10, 3)) (by decide) rfl (fun c8 => ?_) (fun c8 => ?_)
    · replace H := H.2 c8
      refine wm_aload_n 0 26 (by decide +kernel) rfl rfl ?_
      refine wm_getr 7 6 107 107 29 fl_RX7_45 (by decide +kernel) rfl (by decide +kernel) rfl rfl (by decide) ?_
      refine wm_iload_n 1 30 (by decide +kernel) rfl rfl ?_
      obtain ⟨o9, H⟩ := H
      refine wm_aald 4 _ 31 (by decide +kernel) rfl (Or.inr (Or.inr ⟨(by decide +kernel), rfl⟩)) (by decide +kernel) o9 ?_
      refine wm_astore 6 33 [some _, some _, some _, some _, some _, some _, some _, none] (by decide +kernel) rfl (by decide +kernel) (okS_spec rfl) rfl ?_
      refine wm_aload_n 0 34 (by decide +kernel) rfl rfl ?_
      refine wm_getr 7 6 107 107 37 fl_RX7_45 (by decide +kernel) rfl (by decide +kernel) rfl rfl (by decide) ?_
      refine wm_iload_n 3 38 (by decide +kernel) rfl rfl ?_
      obtain ⟨o10, H⟩ := H
      refine wm_aald 4 _ 39 (by decide +kernel) rfl (Or.inr (Or.inr ⟨(by decide +kernel), rfl⟩)) (by decide +kernel) o10 ?_
      refine wm_astore 7 41 [some _, some _, some _, some _, some _, some _, some _, some _] (by decide +kernel) rfl (by decide +kernel) (okS_spec rfl) rfl ?_
      refine wm_aload 6 43 (by decide +kernel) rfl rfl ?_
      refine wm_geti 2 1 46 fl_RX7_314 (by decide +kernel) rfl (E_sh (by decide +kernel) (vp_in_lt o9)) rfl ?_
      refine wm_if_eq 49 57 (by decide +kernel : decode cX7_copy 46 = .ok (.ifCond .eq 11, 3)) (by decide) rfl (fun c11 => ?_) (fun c11 => ?_)
      · replace H := H.1 c11
        refine wm_aload_n 0 58 (by decide +kernel) rfl rfl ?_
        refine wm_ldcw (-1000000006) 61 co_RX7_317 (by decide +kernel) rfl ?_
        refine wm_callVi mX7_found 1 7 [_] [] _ _ 64 mo_X7_found np_X7_found ml_RX7_59 im_X7_found se_X7_found (by decide +kernel) (by decide +kernel) rfl rfl rfl (Nat.le_of_ble_eq_true rfl) (by decide +kernel) rfl (Nat.le_of_ble_eq_true rfl) _ (ent_pad 1 rfl) (l_X7_found g _ _ _ H) (fun v13 h12 H hzv13 => ?_)
        exact wm_iret (by decide +kernel) ⟨.int, rfl, rfl⟩ H
      · replace H := H.2 c11
        refine wm_aload 7 51 (by decide +kernel) rfl rfl ?_
        refine wm_geti 2 1 54 fl_RX7_314 (by decide +kernel) rfl (E_sh (by decide +kernel) (vp_in_lt o10)) rfl ?_
        refine wm_if_ne 57 65 (by decide +kernel : decode cX7_copy 54 = .ok (.ifCond .ne 11, 3)) (by decide) rfl (fun c14 => ?_) (fun c14 => ?_)
        · replace H := H.2 c14
          refine wm_aload 6 67 (by decide +kernel) rfl rfl ?_
          refine wm_geti 2 1 70 fl_RX7_314 (by decide +kernel) rfl (E_sh (by decide +kernel) (vp_in_lt o9)) rfl ?_
          refine wm_aload 7 72 (by decide +kernel) rfl rfl ?_
          refine wm_geti 2 1 75 fl_RX7_314 (by decide +kernel) rfl (E_sh (by decide +kernel) (vp_in_lt o10)) rfl ?_
          refine wm_icmp_eq 78 85 (by decide +kernel : decode cX7_copy 75 = .ok (.if_icmp .eq 10, 3)) (by decide) rfl (fun c15 => ?_) (fun c15 => ?_)
          · replace H := H.1 c15
            refine wm_aload 6 87 (by decide +kernel) rfl rfl ?_
            refine wm_iload_n 2 88 (by decide +kernel) rfl rfl ?_
            refine wm_iload 5 90 (by decide +kernel) rfl rfl ?_
            refine wm_callVi mX2_hasPart 2 2 [_, _] [] _ _ 93 mo_X2_hasPart np_X2_hasPart ml_RX7_318 im_X2_hasPart se_X2_hasPart (by decide +kernel) (by decide +kernel) rfl rfl rfl (Nat.le_of_ble_eq_true rfl) (E_sh (by decide +kernel) (vp_in_lt o9)) rfl (Nat.le_of_ble_eq_true rfl) _ (ent_pad 0 rfl) (l_X2_hasPart g _ _ _ (E_sh (by decide +kernel) (vp_in_lt o9)) _ _ H) (fun v17 h16 H hzv17 => ?_)
            refine wm_if_eq 96 108 (by decide +kernel : decode cX7_copy 93 = .ok (.ifCond .eq 15, 3)) (by decide) rfl (fun c18 => ?_) (fun c18 => ?_)
            · replace H := H.1 c18
              refine wm_aload_n 0 109 (by decide +kernel) rfl rfl ?_
              refine wm_ldc (-1000000001) 111 co_RX7_58 (by decide +kernel) rfl ?_
              refine wm_callVi mX7_found 1 7 [_] [] _ _ 114 mo_X7_found np_X7_found ml_RX7_59 im_X7_found se_X7_found (by decide +kernel) (by decide +kernel) rfl rfl rfl (Nat.le_of_ble_eq_true rfl) (by decide +kernel) rfl (Nat.le_of_ble_eq_true rfl) _ (ent_pad 1 rfl) (l_X7_found g _ _ _ H) (fun v20 h19 H hzv20 => ?_)
              exact wm_iret (by decide +kernel) ⟨.int, rfl, rfl⟩ H
            · replace H := H.2 c18
              refine wm_aload 7 98 (by decide +kernel) rfl rfl ?_
              refine wm_iload 4 100 (by decide +kernel) rfl rfl ?_
              refine wm_iload 5 102 (by decide +kernel) rfl rfl ?_
              refine wm_callVi mX2_hasPart 2 2 [_, _] [] _ _ 105 mo_X2_hasPart np_X2_hasPart ml_RX7_318 im_X2_hasPart se_X2_hasPart (by decide +kernel) (by decide +kernel) rfl rfl rfl (Nat.le_of_ble_eq_true rfl) (E_sh (by decide +kernel) (vp_in_lt o10)) rfl (Nat.le_of_ble_eq_true rfl) _ (ent_pad 0 rfl) (l_X2_hasPart g _ _ _ (E_sh (by decide +kernel) (vp_in_lt o10)) _ _ H) (fun v22 h21 H hzv22 => ?_)
              refine wm_if_ne 108 115 (by decide +kernel : decode cX7_copy 105 = .ok (.ifCond .ne 10, 3)) (by decide) rfl (fun c23 => ?_) (fun c23 => ?_)
              · replace H := H.2 c23
                refine wm_aload 6 117 (by decide +kernel) rfl rfl ?_
                refine wm_getr 2 0 1 _ 120 fl_RX7_306 (by decide +kernel) rfl (E_sh (by decide +kernel) (vp_in_lt o9)) rfl rfl (by decide) ?_
                refine wm_iload_n 2 121 (by decide +kernel) rfl rfl ?_
                refine wm_aload 7 123 (by decide +kernel) rfl rfl ?_
                refine wm_getr 2 0 1 _ 126 fl_RX7_306 (by decide +kernel) rfl (E_sh (by decide +kernel) (vp_in_lt o10)) rfl rfl (by decide) ?_
                refine wm_iload 4 128 (by decide +kernel) rfl rfl ?_
                refine wm_iload 5 130 (by decide +kernel) rfl rfl ?_
                obtain ⟨o24, H⟩ := H
                replace H := H _ rfl
                refine wm_cpl 40 40 133 ml_RX7_321 nv_cpy st_cpy in_Sys (by decide +kernel) (Nat.le_of_ble_eq_true rfl) (by decide +kernel) rfl (S_row (E_sh (by decide +kernel) (vp_in_lt o9))).1 (S_row (E_sh (by decide +kernel) (vp_in_lt o10))).1 (S_row (E_sh (by decide +kernel) (vp_in_lt o9))).2 (S_row (E_sh (by decide +kernel) (vp_in_lt o10))).2 o24 ?_
                refine wm_iload 5 135 (by decide +kernel) rfl rfl ?_
                exact wm_iret (by decide +kernel) ⟨.int, rfl, rfl⟩ H
              · replace H := H.1 c23
                refine wm_aload_n 0 109 (by decide +kernel) rfl rfl ?_
                refine wm_ldc (-1000000001) 111 co_RX7_58 (by decide +kernel) rfl ?_
                refine wm_callVi mX7_found 1 7 [_] [] _ _ 114 mo_X7_found np_X7_found ml_RX7_59 im_X7_found se_X7_found (by decide +kernel) (by decide +kernel) rfl rfl rfl (Nat.le_of_ble_eq_true rfl) (by decide +kernel) rfl (Nat.le_of_ble_eq_true rfl) _ (ent_pad 1 rfl) (l_X7_found g _ _ _ H) (fun v27 h26 H hzv27 => ?_)
                exact wm_iret (by decide +kernel) ⟨.int, rfl, rfl⟩ H
          · replace H := H.2 c15
            refine wm_aload_n 0 79 (by decide +kernel) rfl rfl ?_
            refine wm_ldc (-1000000003) 81 co_RX7_167 (by decide +kernel) rfl ?_
            refine wm_callVi mX7_found 1 7 [_] [] _ _ 84 mo_X7_found np_X7_found ml_RX7_59 im_X7_found se_X7_found (by decide +kernel) (by decide +kernel) rfl rfl rfl (Nat.le_of_ble_eq_true rfl) (by decide +kernel) rfl (Nat.le_of_ble_eq_true rfl) _ (ent_pad 1 rfl) (l_X7_found g _ _ _ H) (fun v29 h28 H hzv29 => ?_)
            exact wm_iret (by decide +kernel) ⟨.int, rfl, rfl⟩ H
        · replace H := H.1 c14
          refine wm_aload_n 0 58 (by decide +kernel) rfl rfl ?_
          refine wm_ldcw (-1000000006) 61 co_RX7_317 (by decide +kernel) rfl ?_
          refine wm_callVi mX7_found 1 7 [_] [] _ _ 64 mo_X7_found np_X7_found ml_RX7_59 im_X7_found se_X7_found (by decide +kernel) (by decide +kernel) rfl rfl rfl (Nat.le_of_ble_eq_true rfl) (by decide +kernel) rfl (Nat.le_of_ble_eq_true rfl) _ (ent_pad 1 rfl) (l_X7_found g _ _ _ H) (fun v31 h30 H hzv31 => ?_)
          exact wm_iret (by decide +kernel) ⟨.int, rfl, rfl⟩ H
    · replace H := H.1 c8
      refine wm_aload_n 0 19 (by decide +kernel) rfl rfl ?_
      refine wm_ldc (-1000000001) 21 co_RX7_58 (by decide +kernel) rfl ?_
      refine wm_callVi mX7_found 1 7 [_] [] _ _ 24 mo_X7_found np_X7_found ml_RX7_59 im_X7_found se_X7_found (by decide +kernel) (by decide +kernel) rfl rfl rfl (Nat.le_of_ble_eq_true rfl) (by decide +kernel) rfl (Nat.le_of_ble_eq_true rfl) _ (ent_pad 1 rfl) (l_X7_found g _ _ _ H) (fun v33 h32 H hzv33 => ?_)
      exact wm_iret (by decide +kernel) ⟨.int, rfl, rfl⟩ H
def f_X7_lays_L29 (a3 : Nat)  (Q : Int32 → HP → Prop) : Nat → Int32 → Int32 → HP → Prop
  | 0, _, _, _ => False
  | n + 1, x4, x5, h =>
    ((((gi h a3 2) ≤ x5) →
      Q x4 h) ∧
     (¬ ((gi h a3 2) ≤ x5) →
      ((((gi h 1 2) ≤ x5) →
        Q x4 h) ∧
       (¬ ((gi h 1 2) ≤ x5) →
        vp_in x5 40 ∧
        ∀ x6_8 : Int64, x6_8 = (gl h (a3 + 1) (ix x5)) →
        ((((lg_cmp x6_8 (0 : Int64)) < 0) →
          ∀ x5_10 : Int32, x5_10 = (x5 + 1) →
          f_X7_lays_L29 a3 Q n x4 x5_10 h) ∧
         (¬ ((lg_cmp x6_8 (0 : Int64)) < 0) →
          (((0 < (lg_cmp x6_8 (999 : Int64))) →
            ∀ x5_12 : Int32, x5_12 = (x5 + 1) →
            f_X7_lays_L29 a3 Q n x4 x5_12 h) ∧
           (¬ (0 < (lg_cmp x6_8 (999 : Int64))) →
            vp_in x5 6 ∧
            ∀ h14 : HP, h14 = si h (2 + 2 + ix x5) 1 ((x6_8 : Int64).toInt32) →
            ∀ x4_15 : Int32, x4_15 = (x4 + 1) →
            ∀ x5_16 : Int32, x5_16 = (x5 + 1) →
            f_X7_lays_L29 a3 Q n x4_15 x5_16 h14))))))))
def f_X7_lays (x1 : Int32) (h : HP) (Q : Int32 → HP → Prop) : Prop :=
  f_X7_sheetFault x1 h (fun v2 h1 =>
  (((v2 = 0) →
    vp_in x1 4 ∧
    ∃ n17, f_X7_lays_L29 (107 + 2 + 2 * ix x1)
      Q n17 0 0 h1) ∧
   (¬ (v2 = 0) →
    f_X7_found v2 h1 (fun v19 h18 =>
    Q v19 h18))))
set_option maxRecDepth 20000 in
theorem l_X7_lays_L29 (g : GE) (a3 : Nat) (ha3 : kd a3 = 2)  (Q : Int32 → HP → Prop)  : ∀ (n : Nat) (x4 : Int32) (x5 : Int32) (h : HP), f_X7_lays_L29 a3 Q n x4 x5 h → Wm g mX7_lays 29 [some (.ref 0), none, none, some (.ref a3), some (.int x4), some (.int x5), none, none] [] h (qi Q) := by
  intro n
  induction n with
  | zero => intro x4 x5 h H; exact H.elim
  | succ n ih =>
    intro x4 x5 h H
    unfold f_X7_lays_L29 at H
    refine wm_iload 5 31 (by decide +kernel) rfl rfl ?_
    refine wm_aload_n 3 32 (by decide +kernel) rfl rfl ?_
    refine wm_geti 2 2 35 fl_RX7_305 (by decide +kernel) rfl ha3 rfl ?_
    refine wm_icmp_ge 38 100 (by decide +kernel : decode cX7_lays 35 = .ok (.if_icmp .ge 65, 3)) (by decide) rfl (fun c5 => ?_) (fun c5 => ?_)
    · replace H := H.1 c5
      refine wm_iload 4 102 (by decide +kernel) rfl rfl ?_
      exact wm_iret (by decide +kernel) ⟨.int, rfl, rfl⟩ H
    · replace H := H.2 c5
      refine wm_iload 5 40 (by decide +kernel) rfl rfl ?_
      refine wm_aload_n 0 41 (by decide +kernel) rfl rfl ?_
      refine wm_getr 7 0 1 1 44 fl_RX7_10 (by decide +kernel) rfl (by decide +kernel) rfl rfl (by decide) ?_
      refine wm_geti 6 2 47 fl_RX7_63 (by decide +kernel) rfl (by decide +kernel) rfl ?_
      refine wm_icmp_ge 50 100 (by decide +kernel : decode cX7_lays 47 = .ok (.if_icmp .ge 53, 3)) (by decide) rfl (fun c6 => ?_) (fun c6 => ?_)
      · replace H := H.1 c6
        refine wm_iload 4 102 (by decide +kernel) rfl rfl ?_
        exact wm_iret (by decide +kernel) ⟨.int, rfl, rfl⟩ H
      · replace H := H.2 c6
        refine wm_aload_n 3 51 (by decide +kernel) rfl rfl ?_
        refine wm_getr 2 0 1 _ 54 fl_RX7_306 (by decide +kernel) rfl ha3 rfl rfl (by decide) ?_
        refine wm_iload 5 56 (by decide +kernel) rfl rfl ?_
        obtain ⟨o7, H⟩ := H
        refine wm_lald 40 57 (by decide +kernel) rfl (S_row ha3).1 (S_row ha3).2 o7 ?_
        replace H := H _ rfl
        refine wm_lstore 6 59 [some _, none, none, some _, some _, some _, some _, none] (by decide +kernel) rfl (by decide +kernel) (okS_spec rfl) rfl ?_
        refine wm_lload 6 61 (by decide +kernel) rfl rfl ?_
        refine wm_lconst 0 62 (by decide +kernel : decode cX7_lays 61 = .ok (.lconst 0, 1)) rfl (by decide +kernel) ?_
        refine wm_lcmp 63 (by decide +kernel) rfl ?_
        refine wm_if_lt 66 94 (by decide +kernel : decode cX7_lays 63 = .ok (.ifCond .lt 31, 3)) (by decide) rfl (fun c9 => ?_) (fun c9 => ?_)
        · replace H := H.1 c9
          replace H := H _ rfl
          refine wm_iinc 5 (_ + 1) 97 [some _, none, none, some _, some _, some _, some _, none] (by decide +kernel : decode cX7_lays 94 = .ok (.iinc 5 1, 3)) rfl (by decide +kernel) rfl (ofI_eq (by decide +kernel)) (okS_spec rfl) rfl ?_
          refine wm_goto 29 (by decide +kernel : decode cX7_lays 97 = .ok (.goto (-68), 3)) (by decide) ?_
          refine wm_mask [true, false, false, true, true, true, false, false] [some _, none, none, some _, some _, some _, none, none] rfl ?_
          exact ih _ _ _ H
        · replace H := H.2 c9
          refine wm_lload 6 68 (by decide +kernel) rfl rfl ?_
          refine wm_ldc2 999 71 cl_RX7_327 (by decide +kernel) rfl ?_
          refine wm_lcmp 72 (by decide +kernel) rfl ?_
          refine wm_if_gt 75 94 (by decide +kernel : decode cX7_lays 72 = .ok (.ifCond .gt 22, 3)) (by decide) rfl (fun c11 => ?_) (fun c11 => ?_)
          · replace H := H.1 c11
            replace H := H _ rfl
            refine wm_iinc 5 (_ + 1) 97 [some _, none, none, some _, some _, some _, some _, none] (by decide +kernel : decode cX7_lays 94 = .ok (.iinc 5 1, 3)) rfl (by decide +kernel) rfl (ofI_eq (by decide +kernel)) (okS_spec rfl) rfl ?_
            refine wm_goto 29 (by decide +kernel : decode cX7_lays 97 = .ok (.goto (-68), 3)) (by decide) ?_
            refine wm_mask [true, false, false, true, true, true, false, false] [some _, none, none, some _, some _, some _, none, none] rfl ?_
            exact ih _ _ _ H
          · replace H := H.2 c11
            refine wm_aload_n 0 76 (by decide +kernel) rfl rfl ?_
            refine wm_getr 7 0 1 1 79 fl_RX7_10 (by decide +kernel) rfl (by decide +kernel) rfl rfl (by decide) ?_
            refine wm_getr 6 4 1 2 82 fl_RX7_99 (by decide +kernel) rfl (by decide +kernel) rfl rfl (by decide) ?_
            refine wm_iload 5 84 (by decide +kernel) rfl rfl ?_
            obtain ⟨o13, H⟩ := H
            refine wm_aald 6 _ 85 (by decide +kernel) rfl (Or.inl ⟨(by decide +kernel), rfl⟩) (by decide +kernel) o13 ?_
            refine wm_lload 6 87 (by decide +kernel) rfl rfl ?_
            refine wm_l2i 88 (by decide +kernel) rfl ?_
            replace H := H _ rfl
            refine wm_puti 3 1 91 fl_RX7_108 (by decide +kernel) rfl (E_st (by decide +kernel) (vp_in_lt o13)) rfl rfl ⟨rfl, rfl⟩ ?_
            replace H := H _ rfl
            refine wm_iinc 4 (_ + 1) 94 [some _, none, none, some _, some _, some _, some _, none] (by decide +kernel : decode cX7_lays 91 = .ok (.iinc 4 1, 3)) rfl (by decide +kernel) rfl (ofI_eq (by decide +kernel)) (okS_spec rfl) rfl ?_
            replace H := H _ rfl
            refine wm_iinc 5 (_ + 1) 97 [some _, none, none, some _, some _, some _, some _, none] (by decide +kernel : decode cX7_lays 94 = .ok (.iinc 5 1, 3)) rfl (by decide +kernel) rfl (ofI_eq (by decide +kernel)) (okS_spec rfl) rfl ?_
            refine wm_goto 29 (by decide +kernel : decode cX7_lays 97 = .ok (.goto (-68), 3)) (by decide) ?_
            refine wm_mask [true, false, false, true, true, true, false, false] [some _, none, none, some _, some _, some _, none, none] rfl ?_
            exact ih _ _ _ H
set_option maxRecDepth 20000 in
theorem l_X7_lays (g : GE) (x1 : Int32)  (h : HP) (Q : Int32 → HP → Prop) (H : f_X7_lays x1 h Q) : Wm g mX7_lays 0 [some (.ref 0), some (.int x1), none, none, none, none, none, none] [] h (qi Q) := by
  unfold f_X7_lays at H
  refine wm_aload_n 0 1 (by decide +kernel) rfl rfl ?_
  refine wm_iload_n 1 2 (by decide +kernel) rfl rfl ?_
  refine wm_callVi mX7_sheetFault 1 7 [_] [] _ _ 5 mo_X7_sheetFault np_X7_sheetFault ml_RX7_221 im_X7_sheetFault se_X7_sheetFault (by decide +kernel) (by decide +kernel) rfl rfl rfl (Nat.le_of_ble_eq_true rfl) (by decide +kernel) rfl (Nat.le_of_ble_eq_true rfl) _ (ent_pad 0 rfl) (l_X7_sheetFault g _ _ _ H) (fun v2 h1 H hzv2 => ?_)
  refine wm_istore_n 2 6 [some _, some _, some _, none, none, none, none, none] (by decide +kernel) rfl (by decide +kernel) (okS_spec rfl) rfl ?_
  refine wm_iload_n 2 7 (by decide +kernel) rfl rfl ?_
  refine wm_if_eq 10 16 (by decide +kernel : decode cX7_lays 7 = .ok (.ifCond .eq 9, 3)) (by decide) rfl (fun c3 => ?_) (fun c3 => ?_)
  · replace H := H.1 c3
    refine wm_aload_n 0 17 (by decide +kernel) rfl rfl ?_
    refine wm_getr 7 6 107 107 20 fl_RX7_45 (by decide +kernel) rfl (by decide +kernel) rfl rfl (by decide) ?_
    refine wm_iload_n 1 21 (by decide +kernel) rfl rfl ?_
    obtain ⟨o4, H⟩ := H
    refine wm_aald 4 _ 22 (by decide +kernel) rfl (Or.inr (Or.inr ⟨(by decide +kernel), rfl⟩)) (by decide +kernel) o4 ?_
    refine wm_astore_n 3 23 [some _, some _, some _, some _, none, none, none, none] (by decide +kernel) rfl (by decide +kernel) (okS_spec rfl) rfl ?_
    refine wm_iconst 0 24 (by decide +kernel : decode cX7_lays 23 = .ok (.iconst 0, 1)) rfl (by decide +kernel) ?_
    refine wm_istore 4 26 [some _, some _, some _, some _, some _, none, none, none] (by decide +kernel) rfl (by decide +kernel) (okS_spec rfl) rfl ?_
    refine wm_iconst 0 27 (by decide +kernel : decode cX7_lays 26 = .ok (.iconst 0, 1)) rfl (by decide +kernel) ?_
    refine wm_istore 5 29 [some _, some _, some _, some _, some _, some _, none, none] (by decide +kernel) rfl (by decide +kernel) (okS_spec rfl) rfl ?_
    obtain ⟨n17, H⟩ := H
    refine wm_mask [true, false, false, true, true, true, false, false] [some _, none, none, some _, some _, some _, none, none] rfl ?_
    refine l_X7_lays_L29 g _ (E_sh (by decide +kernel) (vp_in_lt o4)) _  _ _ _ _ H
  · replace H := H.2 c3
    refine wm_aload_n 0 11 (by decide +kernel) rfl rfl ?_
    refine wm_iload_n 2 12 (by decide +kernel) rfl rfl ?_
    refine wm_callVi mX7_found 1 7 [_] [] _ _ 15 mo_X7_found np_X7_found ml_RX7_59 im_X7_found se_X7_found (by decide +kernel) (by decide +kernel) rfl rfl rfl (Nat.le_of_ble_eq_true rfl) (by decide +kernel) rfl (Nat.le_of_ble_eq_true rfl) _ (ent_pad 1 rfl) (l_X7_found g _ _ _ H) (fun v19 h18 H hzv19 => ?_)
    exact wm_iret (by decide +kernel) ⟨.int, rfl, rfl⟩ H
def f_X7_book_L69 (a4 : Nat) (x5 : Int32)  (Q : Int32 → HP → Prop) : Nat → Int32 → HP → Prop
  | 0, _, _ => False
  | n + 1, x6, h =>
    (((x5 ≤ x6) →
      Q x5 h) ∧
     (¬ (x5 ≤ x6) →
      f_X1_flowBehind x6 h (fun v12 h11 =>
      f_X2_put a4 x6 ((v12 : Int32).toInt64) h11 (fun h13 =>
      ∀ x6_14 : Int32, x6_14 = (x6 + 1) →
      f_X7_book_L69 a4 x5 Q n x6_14 h13))))
def f_X7_book (x1 : Int32) (x2 : Int32) (h : HP) (Q : Int32 → HP → Prop) : Prop :=
  f_X7_sheetFault x1 h (fun v2 h1 =>
  (((v2 = 0) →
    f_X6_hasStation 1 x2 h1 (fun v5 h4 =>
    (((v5 = 0) →
      f_X7_found (-1000000001 : Int32) h4 (fun v17 h16 =>
      Q v17 h16)) ∧
     (¬ (v5 = 0) →
      vp_in x1 4 ∧
      ∀ x5_8 : Int32, x5_8 = (if 25 < (gi h4 (107 + 2 + 2 * ix x1) 2) then 25 else (gi h4 (107 + 2 + 2 * ix x1) 2)) →
      f_X1_open 1 x2 h4 (fun h9 =>
      ∃ n15, f_X7_book_L69 (107 + 2 + 2 * ix x1) x5_8
        Q n15 0 h9))))) ∧
   (¬ (v2 = 0) →
    f_X7_found v2 h1 (fun v19 h18 =>
    Q v19 h18))))
set_option maxRecDepth 20000 in
theorem l_X7_book_L69 (g : GE) (a4 : Nat) (x5 : Int32) (ha4 : kd a4 = 2)  (Q : Int32 → HP → Prop)  : ∀ (n : Nat) (x6 : Int32) (h : HP), f_X7_book_L69 a4 x5 Q n x6 h → Wm g mX7_book 69 [some (.ref 0), none, none, none, some (.ref a4), some (.int x5), some (.int x6)] [] h (qi Q) := by
  intro n
  induction n with
  | zero => intro x6 h H; exact H.elim
  | succ n ih =>
    intro x6 h H
    unfold f_X7_book_L69 at H
    refine wm_iload 6 71 (by decide +kernel) rfl rfl ?_
    refine wm_iload 5 73 (by decide +kernel) rfl rfl ?_
    refine wm_icmp_ge 76 99 (by decide +kernel : decode cX7_book 73 = .ok (.if_icmp .ge 26, 3)) (by decide) rfl (fun c10 => ?_) (fun c10 => ?_)
    · replace H := H.1 c10
      refine wm_iload 5 101 (by decide +kernel) rfl rfl ?_
      exact wm_iret (by decide +kernel) ⟨.int, rfl, rfl⟩ H
    · replace H := H.2 c10
      refine wm_aload 4 78 (by decide +kernel) rfl rfl ?_
      refine wm_iload 6 80 (by decide +kernel) rfl rfl ?_
      refine wm_aload_n 0 81 (by decide +kernel) rfl rfl ?_
      refine wm_getr 7 3 88 88 84 fl_RX7_25 (by decide +kernel) rfl (by decide +kernel) rfl rfl (by decide) ?_
      refine wm_iload 6 86 (by decide +kernel) rfl rfl ?_
      refine wm_callVi mX1_flowBehind 1 1 [_] [_, _] _ _ 89 mo_X1_flowBehind np_X1_flowBehind ml_RX7_338 im_X1_flowBehind se_X1_flowBehind (by decide +kernel) (by decide +kernel) rfl rfl rfl (Nat.le_of_ble_eq_true rfl) (by decide +kernel) rfl (Nat.le_of_ble_eq_true rfl) _ (ent_pad 1 rfl) (l_X1_flowBehind g _ _ _ H) (fun v12 h11 H hzv12 => ?_)
      refine wm_i2l 90 (by decide +kernel) rfl ?_
      refine wm_callVv mX2_put 2 2 [_, _] [] _ _ 93 mo_X2_put np_X2_put ml_RX7_310 im_X2_put se_X2_put (by decide +kernel) (by decide +kernel) rfl rfl rfl (Nat.le_of_ble_eq_true rfl) ha4 rfl (Nat.le_of_ble_eq_true rfl) _ (ent_pad 0 rfl) (l_X2_put g _ _ _ ha4 _ _ H) (fun h13 H => ?_)
      replace H := H _ rfl
      refine wm_iinc 6 (_ + 1) 96 [some _, none, none, none, some _, some _, some _] (by decide +kernel : decode cX7_book 93 = .ok (.iinc 6 1, 3)) rfl (by decide +kernel) rfl (ofI_eq (by decide +kernel)) (okS_spec rfl) rfl ?_
      refine wm_goto 69 (by decide +kernel : decode cX7_book 96 = .ok (.goto (-27), 3)) (by decide) ?_
      exact ih _ _ H
set_option maxRecDepth 20000 in
theorem l_X7_book (g : GE) (x1 : Int32) (x2 : Int32)  (h : HP) (Q : Int32 → HP → Prop) (H : f_X7_book x1 x2 h Q) : Wm g mX7_book 0 [some (.ref 0), some (.int x1), some (.int x2), none, none, none, none] [] h (qi Q) := by
  unfold f_X7_book at H
  refine wm_aload_n 0 1 (by decide +kernel) rfl rfl ?_
  refine wm_iload_n 1 2 (by decide +kernel) rfl rfl ?_
  refine wm_callVi mX7_sheetFault 1 7 [_] [] _ _ 5 mo_X7_sheetFault np_X7_sheetFault ml_RX7_221 im_X7_sheetFault se_X7_sheetFault (by decide +kernel) (by decide +kernel) rfl rfl rfl (Nat.le_of_ble_eq_true rfl) (by decide +kernel) rfl (Nat.le_of_ble_eq_true rfl) _ (ent_pad 0 rfl) (l_X7_sheetFault g _ _ _ H) (fun v2 h1 H hzv2 => ?_)
  refine wm_istore_n 3 6 [some _, some _, some _, some _, none, none, none] (by decide +kernel) rfl (by decide +kernel) (okS_spec rfl) rfl ?_
  refine wm_iload_n 3 7 (by decide +kernel) rfl rfl ?_
  refine wm_if_eq 10 16 (by decide +kernel : decode cX7_book 7 = .ok (.ifCond .eq 9, 3)) (by decide) rfl (fun c3 => ?_) (fun c3 => ?_)
  · replace H := H.1 c3
    refine wm_aload_n 0 17 (by decide +kernel) rfl rfl ?_
    refine wm_getr 7 0 1 1 20 fl_RX7_10 (by decide +kernel) rfl (by decide +kernel) rfl rfl (by decide) ?_
    refine wm_iload_n 2 21 (by decide +kernel) rfl rfl ?_
    refine wm_callVi mX6_hasStation 1 6 [_] [] _ _ 24 mo_X6_hasStation np_X6_hasStation ml_RX7_95 im_X6_hasStation se_X6_hasStation (by decide +kernel) (by decide +kernel) rfl rfl rfl (Nat.le_of_ble_eq_true rfl) (by decide +kernel) rfl (Nat.le_of_ble_eq_true rfl) _ (ent_pad 0 rfl) (l_X6_hasStation g _ _ (by decide +kernel) _ _ H) (fun v5 h4 H hzv5 => ?_)
    refine wm_if_ne 27 34 (by decide +kernel : decode cX7_book 24 = .ok (.ifCond .ne 10, 3)) (by decide) rfl (fun c6 => ?_) (fun c6 => ?_)
    · replace H := H.2 c6
      refine wm_aload_n 0 35 (by decide +kernel) rfl rfl ?_
      refine wm_getr 7 6 107 107 38 fl_RX7_45 (by decide +kernel) rfl (by decide +kernel) rfl rfl (by decide) ?_
      refine wm_iload_n 1 39 (by decide +kernel) rfl rfl ?_
      obtain ⟨o7, H⟩ := H
      refine wm_aald 4 _ 40 (by decide +kernel) rfl (Or.inr (Or.inr ⟨(by decide +kernel), rfl⟩)) (by decide +kernel) o7 ?_
      refine wm_astore 4 42 [some _, some _, some _, some _, some _, none, none] (by decide +kernel) rfl (by decide +kernel) (okS_spec rfl) rfl ?_
      refine wm_aload 4 44 (by decide +kernel) rfl rfl ?_
      refine wm_geti 2 2 47 fl_RX7_305 (by decide +kernel) rfl (E_sh (by decide +kernel) (vp_in_lt o7)) rfl ?_
      refine wm_bipush 25 49 (by decide +kernel : decode cX7_book 47 = .ok (.bipush 25, 2)) rfl (by decide +kernel) ?_
      refine wm_min 52 ml_RX7_329 st_min in_Math cd_min (by decide +kernel) (Nat.le_of_ble_eq_true rfl) (by decide +kernel) rfl ?_
      replace H := H _ rfl
      refine wm_istore 5 54 [some _, some _, some _, some _, some _, some _, none] (by decide +kernel) rfl (by decide +kernel) (okS_spec rfl) rfl ?_
      refine wm_aload_n 0 55 (by decide +kernel) rfl rfl ?_
      refine wm_getr 7 3 88 88 58 fl_RX7_25 (by decide +kernel) rfl (by decide +kernel) rfl rfl (by decide) ?_
      refine wm_aload_n 0 59 (by decide +kernel) rfl rfl ?_
      refine wm_getr 7 0 1 1 62 fl_RX7_10 (by decide +kernel) rfl (by decide +kernel) rfl rfl (by decide) ?_
      refine wm_iload_n 2 63 (by decide +kernel) rfl rfl ?_
      refine wm_callVv mX1_open 2 1 [_, _] [] _ _ 66 mo_X1_open np_X1_open ml_RX7_334 im_X1_open se_X1_open (by decide +kernel) (by decide +kernel) rfl rfl rfl (Nat.le_of_ble_eq_true rfl) (by decide +kernel) rfl (Nat.le_of_ble_eq_true rfl) _ (ent_pad 0 rfl) (l_X1_open g _ _ (by decide +kernel) _ _ H) (fun h9 H => ?_)
      refine wm_iconst 0 67 (by decide +kernel : decode cX7_book 66 = .ok (.iconst 0, 1)) rfl (by decide +kernel) ?_
      refine wm_istore 6 69 [some _, some _, some _, some _, some _, some _, some _] (by decide +kernel) rfl (by decide +kernel) (okS_spec rfl) rfl ?_
      obtain ⟨n15, H⟩ := H
      refine wm_mask [true, false, false, false, true, true, true] [some _, none, none, none, some _, some _, some _] rfl ?_
      refine l_X7_book_L69 g _ _ (E_sh (by decide +kernel) (vp_in_lt o7)) _  _ _ _ H
    · replace H := H.1 c6
      refine wm_aload_n 0 28 (by decide +kernel) rfl rfl ?_
      refine wm_ldc (-1000000001) 30 co_RX7_58 (by decide +kernel) rfl ?_
      refine wm_callVi mX7_found 1 7 [_] [] _ _ 33 mo_X7_found np_X7_found ml_RX7_59 im_X7_found se_X7_found (by decide +kernel) (by decide +kernel) rfl rfl rfl (Nat.le_of_ble_eq_true rfl) (by decide +kernel) rfl (Nat.le_of_ble_eq_true rfl) _ (ent_pad 1 rfl) (l_X7_found g _ _ _ H) (fun v17 h16 H hzv17 => ?_)
      exact wm_iret (by decide +kernel) ⟨.int, rfl, rfl⟩ H
  · replace H := H.2 c3
    refine wm_aload_n 0 11 (by decide +kernel) rfl rfl ?_
    refine wm_iload_n 3 12 (by decide +kernel) rfl rfl ?_
    refine wm_callVi mX7_found 1 7 [_] [] _ _ 15 mo_X7_found np_X7_found ml_RX7_59 im_X7_found se_X7_found (by decide +kernel) (by decide +kernel) rfl rfl rfl (Nat.le_of_ble_eq_true rfl) (by decide +kernel) rfl (Nat.le_of_ble_eq_true rfl) _ (ent_pad 1 rfl) (l_X7_found g _ _ _ H) (fun v19 h18 H hzv19 => ?_)
    exact wm_iret (by decide +kernel) ⟨.int, rfl, rfl⟩ H
def f_X7_planFault (x1 : Int32) (x2 : Int32) (x3 : Int32) (h : HP) (Q : Int32 → HP → Prop) : Prop :=
  f_X7_sheetFault x1 h (fun v2 h1 =>
  (((v2 = 0) →
    f_X7_isAsked x2 x3 h1 (fun v5 h4 =>
    Q (if v5 = 0 then ((-1000000001 : Int32) : Int32) else 0) h4)) ∧
   (¬ (v2 = 0) →
    Q v2 h1)))
set_option maxRecDepth 20000 in
theorem l_X7_planFault (g : GE) (x1 : Int32) (x2 : Int32) (x3 : Int32)  (h : HP) (Q : Int32 → HP → Prop) (H : f_X7_planFault x1 x2 x3 h Q) : Wm g mX7_planFault 0 [some (.ref 0), some (.int x1), some (.int x2), some (.int x3), none] [] h (qi Q) := by
  unfold f_X7_planFault at H
  refine wm_aload_n 0 1 (by decide +kernel) rfl rfl ?_
  refine wm_iload_n 1 2 (by decide +kernel) rfl rfl ?_
  refine wm_callVi mX7_sheetFault 1 7 [_] [] _ _ 5 mo_X7_sheetFault np_X7_sheetFault ml_RX7_221 im_X7_sheetFault se_X7_sheetFault (by decide +kernel) (by decide +kernel) rfl rfl rfl (Nat.le_of_ble_eq_true rfl) (by decide +kernel) rfl (Nat.le_of_ble_eq_true rfl) _ (ent_pad 0 rfl) (l_X7_sheetFault g _ _ _ H) (fun v2 h1 H hzv2 => ?_)
  refine wm_istore 4 7 [some _, some _, some _, some _, some _] (by decide +kernel) rfl (by decide +kernel) (okS_spec rfl) rfl ?_
  refine wm_iload 4 9 (by decide +kernel) rfl rfl ?_
  refine wm_if_eq 12 15 (by decide +kernel : decode cX7_planFault 9 = .ok (.ifCond .eq 6, 3)) (by decide) rfl (fun c3 => ?_) (fun c3 => ?_)
  · replace H := H.1 c3
    refine wm_aload_n 0 16 (by decide +kernel) rfl rfl ?_
    refine wm_iload_n 2 17 (by decide +kernel) rfl rfl ?_
    refine wm_iload_n 3 18 (by decide +kernel) rfl rfl ?_
    refine wm_callVi mX7_isAsked 2 7 [_, _] [] _ _ 21 mo_X7_isAsked np_X7_isAsked ml_RX7_201 im_X7_isAsked se_X7_isAsked (by decide +kernel) (by decide +kernel) rfl rfl rfl (Nat.le_of_ble_eq_true rfl) (by decide +kernel) rfl (Nat.le_of_ble_eq_true rfl) _ (ent_pad 0 rfl) (l_X7_isAsked g _ _ _ _ H) (fun v5 h4 H hzv5 => ?_)
    refine' wm_dia (pcJ := 30) (fun kt kf => wm_if_eq 24 28 (by decide +kernel : decode cX7_planFault 21 = .ok (.ifCond .eq 7, 3)) (by decide) rfl kt kf) ?D7k (fun kj c1 => ?D7t) (fun kj c1 => ?D7f)
    case D7t =>
      refine wm_ldc (-1000000001) 30 co_RX7_58 (by decide +kernel) rfl ?_
      exact kj
    case D7f =>
      refine wm_iconst 0 25 (by decide +kernel : decode cX7_planFault 24 = .ok (.iconst 0, 1)) rfl (by decide +kernel) ?_
      refine wm_goto 30 (by decide +kernel : decode cX7_planFault 25 = .ok (.goto 5, 3)) (by decide) ?_
      exact kj
    case D7k =>
      exact wm_iret (by decide +kernel) ⟨.int, rfl, rfl⟩ H
  · replace H := H.2 c3
    refine wm_iload 4 14 (by decide +kernel) rfl rfl ?_
    exact wm_iret (by decide +kernel) ⟨.int, rfl, rfl⟩ H
def f_X7_follow (x1 : Int32) (x2 : Int32) (x3 : Int32) (h : HP) (Q : Int32 → HP → Prop) : Prop :=
  f_X6_become 59 1 h (fun h1 =>
  vp_in x1 4 ∧
  f_X6_follow 59 (107 + 2 + 2 * ix x1) x3 h1 (fun v4 h3 =>
  ((v4 < 0) → vp_in x2 6) ∧
  Q (if v4 < 0 then ((gi h3 (60 + 2 + ix x2) 1) : Int32) else ((-1 : Int32) - v4)) h3))
set_option maxRecDepth 20000 in
theorem l_X7_follow (g : GE) (x1 : Int32) (x2 : Int32) (x3 : Int32)  (h : HP) (Q : Int32 → HP → Prop) (H : f_X7_follow x1 x2 x3 h Q) : Wm g mX7_follow 0 [some (.ref 0), some (.int x1), some (.int x2), some (.int x3), none] [] h (qi Q) := by
  unfold f_X7_follow at H
  refine wm_aload_n 0 1 (by decide +kernel) rfl rfl ?_
  refine wm_getr 7 2 59 59 4 fl_RX7_19 (by decide +kernel) rfl (by decide +kernel) rfl rfl (by decide) ?_
  refine wm_aload_n 0 5 (by decide +kernel) rfl rfl ?_
  refine wm_getr 7 0 1 1 8 fl_RX7_10 (by decide +kernel) rfl (by decide +kernel) rfl rfl (by decide) ?_
  refine wm_callVv mX6_become 1 6 [_] [] _ _ 11 mo_X6_become np_X6_become ml_RX7_253 im_X6_become se_X6_become (by decide +kernel) (by decide +kernel) rfl rfl rfl (Nat.le_of_ble_eq_true rfl) (by decide +kernel) rfl (Nat.le_of_ble_eq_true rfl) _ (ent_pad 1 rfl) (l_X6_become g _ _ (by decide +kernel) (by decide +kernel) _ _ H) (fun h1 H => ?_)
  refine wm_aload_n 0 12 (by decide +kernel) rfl rfl ?_
  refine wm_getr 7 2 59 59 15 fl_RX7_19 (by decide +kernel) rfl (by decide +kernel) rfl rfl (by decide) ?_
  refine wm_aload_n 0 16 (by decide +kernel) rfl rfl ?_
  refine wm_getr 7 6 107 107 19 fl_RX7_45 (by decide +kernel) rfl (by decide +kernel) rfl rfl (by decide) ?_
  refine wm_iload_n 1 20 (by decide +kernel) rfl rfl ?_
  obtain ⟨o2, H⟩ := H
  refine wm_aald 4 _ 21 (by decide +kernel) rfl (Or.inr (Or.inr ⟨(by decide +kernel), rfl⟩)) (by decide +kernel) o2 ?_
  refine wm_iload_n 3 22 (by decide +kernel) rfl rfl ?_
  refine wm_callVi mX6_follow 2 6 [_, _] [] _ _ 25 mo_X6_follow np_X6_follow ml_RX7_351 im_X6_follow se_X6_follow (by decide +kernel) (by decide +kernel) rfl rfl rfl (Nat.le_of_ble_eq_true rfl) (by decide +kernel) rfl (Nat.le_of_ble_eq_true rfl) _ (ent_pad 4 rfl) (l_X6_follow g _ _ _ (by decide +kernel) (E_sh (by decide +kernel) (vp_in_lt o2)) _ _ H) (fun v4 h3 H hzv4 => ?_)
  refine wm_istore 4 27 [some _, some _, some _, some _, some _] (by decide +kernel) rfl (by decide +kernel) (okS_spec rfl) rfl ?_
  refine wm_iload 4 29 (by decide +kernel) rfl rfl ?_
  obtain ⟨D7a, H⟩ := H
  refine' wm_dia (pcJ := 51) (fun kt kf => wm_if_lt 32 39 (by decide +kernel : decode cX7_follow 29 = .ok (.ifCond .lt 10, 3)) (by decide) rfl kt kf) ?D7k (fun kj c1 => ?D7t) (fun kj c1 => ?D7f)
  case D7t =>
    have H := D7a c1
    refine wm_aload_n 0 40 (by decide +kernel) rfl rfl ?_
    refine wm_getr 7 2 59 59 43 fl_RX7_19 (by decide +kernel) rfl (by decide +kernel) rfl rfl (by decide) ?_
    refine wm_getr 6 4 1 60 46 fl_RX7_99 (by decide +kernel) rfl (by decide +kernel) rfl rfl (by decide) ?_
    refine wm_iload_n 2 47 (by decide +kernel) rfl rfl ?_
    have o6 := H
    refine wm_aald 6 _ 48 (by decide +kernel) rfl (Or.inl ⟨(by decide +kernel), rfl⟩) (by decide +kernel) o6 ?_
    refine wm_geti 3 1 51 fl_RX7_108 (by decide +kernel) rfl (E_st (by decide +kernel) (vp_in_lt o6)) rfl ?_
    exact kj
  case D7f =>
    refine wm_iconst (-1) 33 (by decide +kernel : decode cX7_follow 32 = .ok (.iconst (-1), 1)) rfl (by decide +kernel) ?_
    refine wm_iload 4 35 (by decide +kernel) rfl rfl ?_
    refine wm_isub 36 (by decide +kernel) rfl ?_
    refine wm_goto 51 (by decide +kernel : decode cX7_follow 36 = .ok (.goto 15, 3)) (by decide) ?_
    exact kj
  case D7k =>
    exact wm_iret (by decide +kernel) ⟨.int, rfl, rfl⟩ H
def f_X7_replay (x1 : Int32) (x2 : Int32) (x3 : Int32) (h : HP) (Q : Int32 → HP → Prop) : Prop :=
  f_X7_planFault x1 x2 x3 h (fun v2 h1 =>
  (((v2 = 0) →
    f_X7_follow x1 x2 x3 h1 (fun v5 h4 =>
    Q v5 h4)) ∧
   (¬ (v2 = 0) →
    f_X7_found v2 h1 (fun v7 h6 =>
    Q v7 h6))))
set_option maxRecDepth 20000 in
theorem l_X7_replay (g : GE) (x1 : Int32) (x2 : Int32) (x3 : Int32)  (h : HP) (Q : Int32 → HP → Prop) (H : f_X7_replay x1 x2 x3 h Q) : Wm g mX7_replay 0 [some (.ref 0), some (.int x1), some (.int x2), some (.int x3), none] [] h (qi Q) := by
  unfold f_X7_replay at H
  refine wm_aload_n 0 1 (by decide +kernel) rfl rfl ?_
  refine wm_iload_n 1 2 (by decide +kernel) rfl rfl ?_
  refine wm_iload_n 2 3 (by decide +kernel) rfl rfl ?_
  refine wm_iload_n 3 4 (by decide +kernel) rfl rfl ?_
  refine wm_callVi mX7_planFault 3 7 [_, _, _] [] _ _ 7 mo_X7_planFault np_X7_planFault ml_RX7_341 im_X7_planFault se_X7_planFault (by decide +kernel) (by decide +kernel) rfl rfl rfl (Nat.le_of_ble_eq_true rfl) (by decide +kernel) rfl (Nat.le_of_ble_eq_true rfl) _ (ent_pad 1 rfl) (l_X7_planFault g _ _ _ _ _ H) (fun v2 h1 H hzv2 => ?_)
  refine wm_istore 4 9 [some _, some _, some _, some _, some _] (by decide +kernel) rfl (by decide +kernel) (okS_spec rfl) rfl ?_
  refine wm_iload 4 11 (by decide +kernel) rfl rfl ?_
  refine wm_if_eq 14 21 (by decide +kernel : decode cX7_replay 11 = .ok (.ifCond .eq 10, 3)) (by decide) rfl (fun c3 => ?_) (fun c3 => ?_)
  · replace H := H.1 c3
    refine wm_aload_n 0 22 (by decide +kernel) rfl rfl ?_
    refine wm_iload_n 1 23 (by decide +kernel) rfl rfl ?_
    refine wm_iload_n 2 24 (by decide +kernel) rfl rfl ?_
    refine wm_iload_n 3 25 (by decide +kernel) rfl rfl ?_
    refine wm_callVi mX7_follow 3 7 [_, _, _] [] _ _ 28 mo_X7_follow np_X7_follow ml_RX7_344 im_X7_follow se_X7_follow (by decide +kernel) (by decide +kernel) rfl rfl rfl (Nat.le_of_ble_eq_true rfl) (by decide +kernel) rfl (Nat.le_of_ble_eq_true rfl) _ (ent_pad 1 rfl) (l_X7_follow g _ _ _ _ _ H) (fun v5 h4 H hzv5 => ?_)
    exact wm_iret (by decide +kernel) ⟨.int, rfl, rfl⟩ H
  · replace H := H.2 c3
    refine wm_aload_n 0 15 (by decide +kernel) rfl rfl ?_
    refine wm_iload 4 17 (by decide +kernel) rfl rfl ?_
    refine wm_callVi mX7_found 1 7 [_] [] _ _ 20 mo_X7_found np_X7_found ml_RX7_59 im_X7_found se_X7_found (by decide +kernel) (by decide +kernel) rfl rfl rfl (Nat.le_of_ble_eq_true rfl) (by decide +kernel) rfl (Nat.le_of_ble_eq_true rfl) _ (ent_pad 1 rfl) (l_X7_found g _ _ _ H) (fun v7 h6 H hzv7 => ?_)
    exact wm_iret (by decide +kernel) ⟨.int, rfl, rfl⟩ H
def f_X7_run (x1 : Int32) (x2 : Int32) (x3 : Int32) (h : HP) (Q : Int32 → HP → Prop) : Prop :=
  f_X7_planFault x1 x2 x3 h (fun v2 h1 =>
  (((v2 = 0) →
    (((((gi h1 1 0) + x3) ≤ 99999) →
      f_X7_follow x1 x2 x3 h1 (fun v6 h5 =>
      (((v6 < 0) →
        Q v6 h5) ∧
       (¬ (v6 < 0) →
        f_X6_become 1 59 h5 (fun h8 =>
        Q v6 h8))))) ∧
     (¬ (((gi h1 1 0) + x3) ≤ 99999) →
      f_X7_found (-1000000005 : Int32) h1 (fun v10 h9 =>
      Q v10 h9)))) ∧
   (¬ (v2 = 0) →
    f_X7_found v2 h1 (fun v12 h11 =>
    Q v12 h11))))
set_option maxRecDepth 20000 in
theorem l_X7_run (g : GE) (x1 : Int32) (x2 : Int32) (x3 : Int32)  (h : HP) (Q : Int32 → HP → Prop) (H : f_X7_run x1 x2 x3 h Q) : Wm g mX7_run 0 [some (.ref 0), some (.int x1), some (.int x2), some (.int x3), none, none] [] h (qi Q) := by
  unfold f_X7_run at H
  refine wm_aload_n 0 1 (by decide +kernel) rfl rfl ?_
  refine wm_iload_n 1 2 (by decide +kernel) rfl rfl ?_
  refine wm_iload_n 2 3 (by decide +kernel) rfl rfl ?_
  refine wm_iload_n 3 4 (by decide +kernel) rfl rfl ?_
  refine wm_callVi mX7_planFault 3 7 [_, _, _] [] _ _ 7 mo_X7_planFault np_X7_planFault ml_RX7_341 im_X7_planFault se_X7_planFault (by decide +kernel) (by decide +kernel) rfl rfl rfl (Nat.le_of_ble_eq_true rfl) (by decide +kernel) rfl (Nat.le_of_ble_eq_true rfl) _ (ent_pad 1 rfl) (l_X7_planFault g _ _ _ _ _ H) (fun v2 h1 H hzv2 => ?_)
  refine wm_istore 4 9 [some _, some _, some _, some _, some _, none] (by decide +kernel) rfl (by decide +kernel) (okS_spec rfl) rfl ?_
  refine wm_iload 4 11 (by decide +kernel) rfl rfl ?_
  refine wm_if_eq 14 21 (by decide +kernel : decode cX7_run 11 = .ok (.ifCond .eq 10, 3)) (by decide) rfl (fun c3 => ?_) (fun c3 => ?_)
  · replace H := H.1 c3
    refine wm_aload_n 0 22 (by decide +kernel) rfl rfl ?_
    refine wm_getr 7 0 1 1 25 fl_RX7_10 (by decide +kernel) rfl (by decide +kernel) rfl rfl (by decide) ?_
    refine wm_geti 6 0 28 fl_RX7_114 (by decide +kernel) rfl (by decide +kernel) rfl ?_
    refine wm_iload_n 3 29 (by decide +kernel) rfl rfl ?_
    refine wm_iadd 30 (by decide +kernel) rfl ?_
    refine wm_ldc 99999 32 co_RX7_176 (by decide +kernel) rfl ?_
    refine wm_icmp_le 35 42 (by decide +kernel : decode cX7_run 32 = .ok (.if_icmp .le 10, 3)) (by decide) rfl (fun c4 => ?_) (fun c4 => ?_)
    · replace H := H.1 c4
      refine wm_aload_n 0 43 (by decide +kernel) rfl rfl ?_
      refine wm_iload_n 1 44 (by decide +kernel) rfl rfl ?_
      refine wm_iload_n 2 45 (by decide +kernel) rfl rfl ?_
      refine wm_iload_n 3 46 (by decide +kernel) rfl rfl ?_
      refine wm_callVi mX7_follow 3 7 [_, _, _] [] _ _ 49 mo_X7_follow np_X7_follow ml_RX7_344 im_X7_follow se_X7_follow (by decide +kernel) (by decide +kernel) rfl rfl rfl (Nat.le_of_ble_eq_true rfl) (by decide +kernel) rfl (Nat.le_of_ble_eq_true rfl) _ (ent_pad 1 rfl) (l_X7_follow g _ _ _ _ _ H) (fun v6 h5 H hzv6 => ?_)
      refine wm_istore 5 51 [some _, some _, some _, some _, some _, some _] (by decide +kernel) rfl (by decide +kernel) (okS_spec rfl) rfl ?_
      refine wm_iload 5 53 (by decide +kernel) rfl rfl ?_
      refine wm_if_lt 56 67 (by decide +kernel : decode cX7_run 53 = .ok (.ifCond .lt 14, 3)) (by decide) rfl (fun c7 => ?_) (fun c7 => ?_)
      · replace H := H.1 c7
        refine wm_iload 5 69 (by decide +kernel) rfl rfl ?_
        exact wm_iret (by decide +kernel) ⟨.int, rfl, rfl⟩ H
      · replace H := H.2 c7
        refine wm_aload_n 0 57 (by decide +kernel) rfl rfl ?_
        refine wm_getr 7 0 1 1 60 fl_RX7_10 (by decide +kernel) rfl (by decide +kernel) rfl rfl (by decide) ?_
        refine wm_aload_n 0 61 (by decide +kernel) rfl rfl ?_
        refine wm_getr 7 2 59 59 64 fl_RX7_19 (by decide +kernel) rfl (by decide +kernel) rfl rfl (by decide) ?_
        refine wm_callVv mX6_become 1 6 [_] [] _ _ 67 mo_X6_become np_X6_become ml_RX7_253 im_X6_become se_X6_become (by decide +kernel) (by decide +kernel) rfl rfl rfl (Nat.le_of_ble_eq_true rfl) (by decide +kernel) rfl (Nat.le_of_ble_eq_true rfl) _ (ent_pad 1 rfl) (l_X6_become g _ _ (by decide +kernel) (by decide +kernel) _ _ H) (fun h8 H => ?_)
        refine wm_iload 5 69 (by decide +kernel) rfl rfl ?_
        exact wm_iret (by decide +kernel) ⟨.int, rfl, rfl⟩ H
    · replace H := H.2 c4
      refine wm_aload_n 0 36 (by decide +kernel) rfl rfl ?_
      refine wm_ldc (-1000000005) 38 co_RX7_175 (by decide +kernel) rfl ?_
      refine wm_callVi mX7_found 1 7 [_] [] _ _ 41 mo_X7_found np_X7_found ml_RX7_59 im_X7_found se_X7_found (by decide +kernel) (by decide +kernel) rfl rfl rfl (Nat.le_of_ble_eq_true rfl) (by decide +kernel) rfl (Nat.le_of_ble_eq_true rfl) _ (ent_pad 1 rfl) (l_X7_found g _ _ _ H) (fun v10 h9 H hzv10 => ?_)
      exact wm_iret (by decide +kernel) ⟨.int, rfl, rfl⟩ H
  · replace H := H.2 c3
    refine wm_aload_n 0 15 (by decide +kernel) rfl rfl ?_
    refine wm_iload 4 17 (by decide +kernel) rfl rfl ?_
    refine wm_callVi mX7_found 1 7 [_] [] _ _ 20 mo_X7_found np_X7_found ml_RX7_59 im_X7_found se_X7_found (by decide +kernel) (by decide +kernel) rfl rfl rfl (Nat.le_of_ble_eq_true rfl) (by decide +kernel) rfl (Nat.le_of_ble_eq_true rfl) _ (ent_pad 1 rfl) (l_X7_found g _ _ _ H) (fun v12 h11 H hzv12 => ?_)
    exact wm_iret (by decide +kernel) ⟨.int, rfl, rfl⟩ H
def f_X7_image  (h : HP) (Q : Int32 → HP → Prop) : Prop :=
  f_X6_become 30 1 h (fun h1 =>
  ∀ h2 : HP, h2 = si h1 0 8 1 →
  Q 1 h2)
set_option maxRecDepth 20000 in
theorem l_X7_image (g : GE)   (h : HP) (Q : Int32 → HP → Prop) (H : f_X7_image  h Q) : Wm g mX7_image 0 [some (.ref 0)] [] h (qi Q) := by
  unfold f_X7_image at H
  refine wm_aload_n 0 1 (by decide +kernel) rfl rfl ?_
  refine wm_getr 7 1 30 30 4 fl_RX7_16 (by decide +kernel) rfl (by decide +kernel) rfl rfl (by decide) ?_
  refine wm_aload_n 0 5 (by decide +kernel) rfl rfl ?_
  refine wm_getr 7 0 1 1 8 fl_RX7_10 (by decide +kernel) rfl (by decide +kernel) rfl rfl (by decide) ?_
  refine wm_callVv mX6_become 1 6 [_] [] _ _ 11 mo_X6_become np_X6_become ml_RX7_253 im_X6_become se_X6_become (by decide +kernel) (by decide +kernel) rfl rfl rfl (Nat.le_of_ble_eq_true rfl) (by decide +kernel) rfl (Nat.le_of_ble_eq_true rfl) _ (ent_pad 1 rfl) (l_X6_become g _ _ (by decide +kernel) (by decide +kernel) _ _ H) (fun h1 H => ?_)
  refine wm_aload_n 0 12 (by decide +kernel) rfl rfl ?_
  refine wm_iconst 1 13 (by decide +kernel : decode cX7_image 12 = .ok (.iconst 1, 1)) rfl (by decide +kernel) ?_
  replace H := H _ rfl
  refine wm_puti 7 8 16 fl_RX7_347 (by decide +kernel) rfl (by decide +kernel) rfl rfl (zfit_of (by decide)) ?_
  refine wm_iconst 1 17 (by decide +kernel : decode cX7_image 16 = .ok (.iconst 1, 1)) rfl (by decide +kernel) ?_
  exact wm_iret (by decide +kernel) ⟨.int, rfl, rfl⟩ H
def f_X7_undo  (h : HP) (Q : Int32 → HP → Prop) : Prop :=
  ((((gi h 0 8) = 0) →
    f_X7_found (-1000000004 : Int32) h (fun v4 h3 =>
    Q v4 h3)) ∧
   (¬ ((gi h 0 8) = 0) →
    f_X6_become 1 30 h (fun h2 =>
    Q (gi h2 1 0) h2)))
set_option maxRecDepth 20000 in
theorem l_X7_undo (g : GE)   (h : HP) (Q : Int32 → HP → Prop) (H : f_X7_undo  h Q) : Wm g mX7_undo 0 [some (.ref 0)] [] h (qi Q) := by
  unfold f_X7_undo at H
  refine wm_aload_n 0 1 (by decide +kernel) rfl rfl ?_
  refine wm_geti 7 8 4 fl_RX7_347 (by decide +kernel) rfl (by decide +kernel) rfl ?_
  refine wm_if_ne 7 14 (by decide +kernel : decode cX7_undo 4 = .ok (.ifCond .ne 10, 3)) (by decide) rfl (fun c1 => ?_) (fun c1 => ?_)
  · replace H := H.2 c1
    refine wm_aload_n 0 15 (by decide +kernel) rfl rfl ?_
    refine wm_getr 7 0 1 1 18 fl_RX7_10 (by decide +kernel) rfl (by decide +kernel) rfl rfl (by decide) ?_
    refine wm_aload_n 0 19 (by decide +kernel) rfl rfl ?_
    refine wm_getr 7 1 30 30 22 fl_RX7_16 (by decide +kernel) rfl (by decide +kernel) rfl rfl (by decide) ?_
    refine wm_callVv mX6_become 1 6 [_] [] _ _ 25 mo_X6_become np_X6_become ml_RX7_253 im_X6_become se_X6_become (by decide +kernel) (by decide +kernel) rfl rfl rfl (Nat.le_of_ble_eq_true rfl) (by decide +kernel) rfl (Nat.le_of_ble_eq_true rfl) _ (ent_pad 1 rfl) (l_X6_become g _ _ (by decide +kernel) (by decide +kernel) _ _ H) (fun h2 H => ?_)
    refine wm_aload_n 0 26 (by decide +kernel) rfl rfl ?_
    refine wm_getr 7 0 1 1 29 fl_RX7_10 (by decide +kernel) rfl (by decide +kernel) rfl rfl (by decide) ?_
    refine wm_geti 6 0 32 fl_RX7_114 (by decide +kernel) rfl (by decide +kernel) rfl ?_
    exact wm_iret (by decide +kernel) ⟨.int, rfl, rfl⟩ H
  · replace H := H.1 c1
    refine wm_aload_n 0 8 (by decide +kernel) rfl rfl ?_
    refine wm_ldc (-1000000004) 10 co_RX7_211 (by decide +kernel) rfl ?_
    refine wm_callVi mX7_found 1 7 [_] [] _ _ 13 mo_X7_found np_X7_found ml_RX7_59 im_X7_found se_X7_found (by decide +kernel) (by decide +kernel) rfl rfl rfl (Nat.le_of_ble_eq_true rfl) (by decide +kernel) rfl (Nat.le_of_ble_eq_true rfl) _ (ent_pad 1 rfl) (l_X7_found g _ _ _ H) (fun v4 h3 H hzv4 => ?_)
    exact wm_iret (by decide +kernel) ⟨.int, rfl, rfl⟩ H
def f_X7_tear  (h : HP) (Q : Int32 → HP → Prop) : Prop :=
  ∀ x1_3 : Int32, x1_3 = (if (gi h 0 8) = 0 then (0 : Int32) else 1) →
  ∀ h4 : HP, h4 = si h 0 8 0 →
  Q x1_3 h4
set_option maxRecDepth 20000 in
theorem l_X7_tear (g : GE)   (h : HP) (Q : Int32 → HP → Prop) (H : f_X7_tear  h Q) : Wm g mX7_tear 0 [some (.ref 0), none] [] h (qi Q) := by
  unfold f_X7_tear at H
  refine wm_aload_n 0 1 (by decide +kernel) rfl rfl ?_
  refine wm_geti 7 8 4 fl_RX7_347 (by decide +kernel) rfl (by decide +kernel) rfl ?_
  refine' wm_dia (pcJ := 12) (fun kt kf => wm_if_eq 7 11 (by decide +kernel : decode cX7_tear 4 = .ok (.ifCond .eq 7, 3)) (by decide) rfl kt kf) ?D2k (fun kj c1 => ?D2t) (fun kj c1 => ?D2f)
  case D2t =>
    refine wm_iconst 0 12 (by decide +kernel : decode cX7_tear 11 = .ok (.iconst 0, 1)) rfl (by decide +kernel) ?_
    exact kj
  case D2f =>
    refine wm_iconst 1 8 (by decide +kernel : decode cX7_tear 7 = .ok (.iconst 1, 1)) rfl (by decide +kernel) ?_
    refine wm_goto 12 (by decide +kernel : decode cX7_tear 8 = .ok (.goto 4, 3)) (by decide) ?_
    exact kj
  case D2k =>
    replace H := H _ rfl
    refine wm_istore_n 1 13 [some _, some _] (by decide +kernel) rfl (by decide +kernel) (okS_spec rfl) rfl ?_
    refine wm_aload_n 0 14 (by decide +kernel) rfl rfl ?_
    refine wm_iconst 0 15 (by decide +kernel : decode cX7_tear 14 = .ok (.iconst 0, 1)) rfl (by decide +kernel) ?_
    replace H := H _ rfl
    refine wm_puti 7 8 18 fl_RX7_347 (by decide +kernel) rfl (by decide +kernel) rfl rfl (zfit_of (by decide)) ?_
    refine wm_iload_n 1 19 (by decide +kernel) rfl rfl ?_
    exact wm_iret (by decide +kernel) ⟨.int, rfl, rfl⟩ H
def f_X7_count (x1 : Int32) (h : HP) (Q : Int32 → HP → Prop) : Prop :=
  (((x1 = 0) →
    Q (gi h 1 0) h) ∧
   (¬ (x1 = 0) →
    (((x1 = 1) →
      Q (gi h 1 2) h) ∧
     (¬ (x1 = 1) →
      (((x1 = 2) →
        Q (gi h 1 3) h) ∧
       (¬ (x1 = 2) →
        (((x1 = 3) →
          Q (gi h 1 1) h) ∧
         (¬ (x1 = 3) →
          (((x1 = 4) →
            f_X6_allGoods 1 h (fun v7 h6 =>
            Q v7 h6)) ∧
           (¬ (x1 = 4) →
            (((x1 = 5) →
              Q (gi h 105 1) h) ∧
             (¬ (x1 = 5) →
              f_X7_found (-1000000001 : Int32) h (fun v10 h9 =>
              Q v10 h9)))))))))))))
set_option maxRecDepth 20000 in
theorem l_X7_count (g : GE) (x1 : Int32)  (h : HP) (Q : Int32 → HP → Prop) (H : f_X7_count x1 h Q) : Wm g mX7_count 0 [some (.ref 0), some (.int x1)] [] h (qi Q) := by
  unfold f_X7_count at H
  refine wm_iload_n 1 1 (by decide +kernel) rfl rfl ?_
  refine em_go H (fun c1 H => ?_) (fun c1 H => ?_)
  · refine wm_tin (off := 39) 0 40 c1 (by decide +kernel : decode cX7_count 1 = .ok (.tableswitch 87 0 5 #[39, 47, 55, 63, 71, 79], 39)) (by decide +kernel) (by decide +kernel) (by decide +kernel) (by decide) ?_
    refine wm_aload_n 0 41 (by decide +kernel) rfl rfl ?_
    refine wm_getr 7 0 1 1 44 fl_RX7_10 (by decide +kernel) rfl (by decide +kernel) rfl rfl (by decide) ?_
    refine wm_geti 6 0 47 fl_RX7_114 (by decide +kernel) rfl (by decide +kernel) rfl ?_
    exact wm_iret (by decide +kernel) ⟨.int, rfl, rfl⟩ H
  · skip
    refine em_go H (fun c2 H => ?_) (fun c2 H => ?_)
    · refine wm_tin (off := 47) 1 48 c2 (by decide +kernel : decode cX7_count 1 = .ok (.tableswitch 87 0 5 #[39, 47, 55, 63, 71, 79], 39)) (by decide +kernel) (by decide +kernel) (by decide +kernel) (by decide) ?_
      refine wm_aload_n 0 49 (by decide +kernel) rfl rfl ?_
      refine wm_getr 7 0 1 1 52 fl_RX7_10 (by decide +kernel) rfl (by decide +kernel) rfl rfl (by decide) ?_
      refine wm_geti 6 2 55 fl_RX7_63 (by decide +kernel) rfl (by decide +kernel) rfl ?_
      exact wm_iret (by decide +kernel) ⟨.int, rfl, rfl⟩ H
    · skip
      refine em_go H (fun c3 H => ?_) (fun c3 H => ?_)
      · refine wm_tin (off := 55) 2 56 c3 (by decide +kernel : decode cX7_count 1 = .ok (.tableswitch 87 0 5 #[39, 47, 55, 63, 71, 79], 39)) (by decide +kernel) (by decide +kernel) (by decide +kernel) (by decide) ?_
        refine wm_aload_n 0 57 (by decide +kernel) rfl rfl ?_
        refine wm_getr 7 0 1 1 60 fl_RX7_10 (by decide +kernel) rfl (by decide +kernel) rfl rfl (by decide) ?_
        refine wm_geti 6 3 63 fl_RX7_76 (by decide +kernel) rfl (by decide +kernel) rfl ?_
        exact wm_iret (by decide +kernel) ⟨.int, rfl, rfl⟩ H
      · skip
        refine em_go H (fun c4 H => ?_) (fun c4 H => ?_)
        · refine wm_tin (off := 63) 3 64 c4 (by decide +kernel : decode cX7_count 1 = .ok (.tableswitch 87 0 5 #[39, 47, 55, 63, 71, 79], 39)) (by decide +kernel) (by decide +kernel) (by decide +kernel) (by decide) ?_
          refine wm_aload_n 0 65 (by decide +kernel) rfl rfl ?_
          refine wm_getr 7 0 1 1 68 fl_RX7_10 (by decide +kernel) rfl (by decide +kernel) rfl rfl (by decide) ?_
          refine wm_geti 6 1 71 fl_RX7_180 (by decide +kernel) rfl (by decide +kernel) rfl ?_
          exact wm_iret (by decide +kernel) ⟨.int, rfl, rfl⟩ H
        · skip
          refine em_go H (fun c5 H => ?_) (fun c5 H => ?_)
          · refine wm_tin (off := 71) 4 72 c5 (by decide +kernel : decode cX7_count 1 = .ok (.tableswitch 87 0 5 #[39, 47, 55, 63, 71, 79], 39)) (by decide +kernel) (by decide +kernel) (by decide +kernel) (by decide) ?_
            refine wm_aload_n 0 73 (by decide +kernel) rfl rfl ?_
            refine wm_getr 7 0 1 1 76 fl_RX7_10 (by decide +kernel) rfl (by decide +kernel) rfl rfl (by decide) ?_
            refine wm_callVi mX6_allGoods 0 6 [] [] _ _ 79 mo_X6_allGoods np_X6_allGoods ml_RX7_212 im_X6_allGoods se_X6_allGoods (by decide +kernel) (by decide +kernel) rfl rfl rfl (Nat.le_of_ble_eq_true rfl) (by decide +kernel) rfl (Nat.le_of_ble_eq_true rfl) _ (ent_pad 0 rfl) (l_X6_allGoods g _ (by decide +kernel) _ _ H) (fun v7 h6 H hzv7 => ?_)
            exact wm_iret (by decide +kernel) ⟨.int, rfl, rfl⟩ H
          · skip
            refine em_go H (fun c8 H => ?_) (fun c8 H => ?_)
            · refine wm_tin (off := 79) 5 80 c8 (by decide +kernel : decode cX7_count 1 = .ok (.tableswitch 87 0 5 #[39, 47, 55, 63, 71, 79], 39)) (by decide +kernel) (by decide +kernel) (by decide +kernel) (by decide) ?_
              refine wm_aload_n 0 81 (by decide +kernel) rfl rfl ?_
              refine wm_getr 7 5 105 105 84 fl_RX7_39 (by decide +kernel) rfl (by decide +kernel) rfl rfl (by decide) ?_
              refine wm_geti 5 1 87 fl_RX7_277 (by decide +kernel) rfl (by decide +kernel) rfl ?_
              exact wm_iret (by decide +kernel) ⟨.int, rfl, rfl⟩ H
            · skip
              refine wm_tout 88 (by decide +kernel : decode cX7_count 1 = .ok (.tableswitch 87 0 5 #[39, 47, 55, 63, 71, 79], 39)) (by have q0 := ne_toInt 0 (by decide +kernel) c1; have q1 := ne_toInt 1 (by decide +kernel) c2; have q2 := ne_toInt 2 (by decide +kernel) c3; have q3 := ne_toInt 3 (by decide +kernel) c4; have q4 := ne_toInt 4 (by decide +kernel) c5; have q5 := ne_toInt 5 (by decide +kernel) c8; omega) (by decide) ?_
              refine wm_aload_n 0 89 (by decide +kernel) rfl rfl ?_
              refine wm_ldc (-1000000001) 91 co_RX7_58 (by decide +kernel) rfl ?_
              refine wm_callVi mX7_found 1 7 [_] [] _ _ 94 mo_X7_found np_X7_found ml_RX7_59 im_X7_found se_X7_found (by decide +kernel) (by decide +kernel) rfl rfl rfl (Nat.le_of_ble_eq_true rfl) (by decide +kernel) rfl (Nat.le_of_ble_eq_true rfl) _ (ent_pad 1 rfl) (l_X7_found g _ _ _ H) (fun v10 h9 H hzv10 => ?_)
              exact wm_iret (by decide +kernel) ⟨.int, rfl, rfl⟩ H
def f_X7_status_L32   (Q : Int32 → HP → Prop) : Nat → Int32 → Int32 → HP → Prop
  | 0, _, _, _ => False
  | n + 1, x2, x3, h =>
    (((8 ≤ x3) →
      Q x2 h) ∧
     (¬ (8 ≤ x3) →
      vp_in x3 8 ∧
      ∀ x2_7 : Int32, x2_7 = (x2 + (gi h 108 (ix x3))) →
      ∀ x3_8 : Int32, x3_8 = (x3 + 1) →
      f_X7_status_L32 Q n x2_7 x3_8 h))
def f_X7_status (x1 : Int32) (h : HP) (Q : Int32 → HP → Prop) : Prop :=
  f_X7_isIn x1 (-1 : Int32) 7 h (fun v2 h1 =>
  (((v2 = 0) →
    f_X7_found (-1000000001 : Int32) h1 (fun v12 h11 =>
    Q v12 h11)) ∧
   (¬ (v2 = 0) →
    (((x1 < 0) →
      ∃ n9, f_X7_status_L32 
        Q n9 0 0 h1) ∧
     (¬ (x1 < 0) →
      vp_in x1 8 ∧
      Q (gi h1 108 (ix x1)) h1)))))
set_option maxRecDepth 20000 in
theorem l_X7_status_L32 (g : GE)    (Q : Int32 → HP → Prop)  : ∀ (n : Nat) (x2 : Int32) (x3 : Int32) (h : HP), f_X7_status_L32 Q n x2 x3 h → Wm g mX7_status 32 [some (.ref 0), none, some (.int x2), some (.int x3)] [] h (qi Q) := by
  intro n
  induction n with
  | zero => intro x2 x3 h H; exact H.elim
  | succ n ih =>
    intro x2 x3 h H
    unfold f_X7_status_L32 at H
    refine wm_iload_n 3 33 (by decide +kernel) rfl rfl ?_
    refine wm_bipush 8 35 (by decide +kernel : decode cX7_status 33 = .ok (.bipush 8, 2)) rfl (by decide +kernel) ?_
    refine wm_icmp_ge 38 53 (by decide +kernel : decode cX7_status 35 = .ok (.if_icmp .ge 18, 3)) (by decide) rfl (fun c5 => ?_) (fun c5 => ?_)
    · replace H := H.1 c5
      refine wm_iload_n 2 54 (by decide +kernel) rfl rfl ?_
      exact wm_iret (by decide +kernel) ⟨.int, rfl, rfl⟩ H
    · replace H := H.2 c5
      refine wm_iload_n 2 39 (by decide +kernel) rfl rfl ?_
      refine wm_aload_n 0 40 (by decide +kernel) rfl rfl ?_
      refine wm_getr 7 7 108 108 43 fl_RX7_49 (by decide +kernel) rfl (by decide +kernel) rfl rfl (by decide) ?_
      refine wm_iload_n 3 44 (by decide +kernel) rfl rfl ?_
      obtain ⟨o6, H⟩ := H
      refine wm_iald 8 45 (by decide +kernel) rfl (by decide +kernel) (by decide +kernel) o6 ?_
      refine wm_iadd 46 (by decide +kernel) rfl ?_
      replace H := H _ rfl
      refine wm_istore_n 2 47 [some _, none, some _, some _] (by decide +kernel) rfl (by decide +kernel) (okS_spec rfl) rfl ?_
      replace H := H _ rfl
      refine wm_iinc 3 (_ + 1) 50 [some _, none, some _, some _] (by decide +kernel : decode cX7_status 47 = .ok (.iinc 3 1, 3)) rfl (by decide +kernel) rfl (ofI_eq (by decide +kernel)) (okS_spec rfl) rfl ?_
      refine wm_goto 32 (by decide +kernel : decode cX7_status 50 = .ok (.goto (-18), 3)) (by decide) ?_
      exact ih _ _ _ H
set_option maxRecDepth 20000 in
theorem l_X7_status (g : GE) (x1 : Int32)  (h : HP) (Q : Int32 → HP → Prop) (H : f_X7_status x1 h Q) : Wm g mX7_status 0 [some (.ref 0), some (.int x1), none, none] [] h (qi Q) := by
  unfold f_X7_status at H
  refine wm_iload_n 1 1 (by decide +kernel) rfl rfl ?_
  refine wm_iconst (-1) 2 (by decide +kernel : decode cX7_status 1 = .ok (.iconst (-1), 1)) rfl (by decide +kernel) ?_
  refine wm_bipush 7 4 (by decide +kernel : decode cX7_status 2 = .ok (.bipush 7, 2)) rfl (by decide +kernel) ?_
  refine wm_callSi mX7_isIn 3 [_, _, _] [] _ _ 7 mo_X7_isIn np_X7_isIn ml_RX7_54 sc_X7_isIn (by decide +kernel) (by decide +kernel) rfl rfl rfl (Nat.le_of_ble_eq_true rfl) (Nat.le_of_ble_eq_true rfl) _ (ent_pad 0 rfl) (l_X7_isIn g _ _ _ _ _ H) (fun v2 h1 H hzv2 => ?_)
  refine wm_if_ne 10 17 (by decide +kernel : decode cX7_status 7 = .ok (.ifCond .ne 10, 3)) (by decide) rfl (fun c3 => ?_) (fun c3 => ?_)
  · replace H := H.2 c3
    refine wm_iload_n 1 18 (by decide +kernel) rfl rfl ?_
    refine wm_if_lt 21 28 (by decide +kernel : decode cX7_status 18 = .ok (.ifCond .lt 10, 3)) (by decide) rfl (fun c4 => ?_) (fun c4 => ?_)
    · replace H := H.1 c4
      refine wm_iconst 0 29 (by decide +kernel : decode cX7_status 28 = .ok (.iconst 0, 1)) rfl (by decide +kernel) ?_
      refine wm_istore_n 2 30 [some _, some _, some _, none] (by decide +kernel) rfl (by decide +kernel) (okS_spec rfl) rfl ?_
      refine wm_iconst 0 31 (by decide +kernel : decode cX7_status 30 = .ok (.iconst 0, 1)) rfl (by decide +kernel) ?_
      refine wm_istore_n 3 32 [some _, some _, some _, some _] (by decide +kernel) rfl (by decide +kernel) (okS_spec rfl) rfl ?_
      obtain ⟨n9, H⟩ := H
      refine wm_mask [true, false, true, true] [some _, none, some _, some _] rfl ?_
      refine l_X7_status_L32 g _  _ _ _ _ H
    · replace H := H.2 c4
      refine wm_aload_n 0 22 (by decide +kernel) rfl rfl ?_
      refine wm_getr 7 7 108 108 25 fl_RX7_49 (by decide +kernel) rfl (by decide +kernel) rfl rfl (by decide) ?_
      refine wm_iload_n 1 26 (by decide +kernel) rfl rfl ?_
      obtain ⟨o10, H⟩ := H
      refine wm_iald 8 27 (by decide +kernel) rfl (by decide +kernel) (by decide +kernel) o10 ?_
      exact wm_iret (by decide +kernel) ⟨.int, rfl, rfl⟩ H
  · replace H := H.1 c3
    refine wm_aload_n 0 11 (by decide +kernel) rfl rfl ?_
    refine wm_ldc (-1000000001) 13 co_RX7_58 (by decide +kernel) rfl ?_
    refine wm_callVi mX7_found 1 7 [_] [] _ _ 16 mo_X7_found np_X7_found ml_RX7_59 im_X7_found se_X7_found (by decide +kernel) (by decide +kernel) rfl rfl rfl (Nat.le_of_ble_eq_true rfl) (by decide +kernel) rfl (Nat.le_of_ble_eq_true rfl) _ (ent_pad 1 rfl) (l_X7_found g _ _ _ H) (fun v12 h11 H hzv12 => ?_)
    exact wm_iret (by decide +kernel) ⟨.int, rfl, rfl⟩ H
