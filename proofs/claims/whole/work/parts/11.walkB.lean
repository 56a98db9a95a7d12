def f_X1_open (a1 : Nat) (x2 : Int32) (h : HP) (Q : HP → Prop) : Prop :=
  ∀ h1 : HP, h1 = sw h 0 a1 →
  ∀ h2 : HP, h2 = si h1 88 1 x2 →
  ∀ h3 : HP, h3 = si h2 88 2 (-1 : Int32) →
  ∀ h4 : HP, h4 = si h3 88 3 0 →
  ∀ h5 : HP, h5 = si h4 88 4 0 →
  ∀ h6 : HP, h6 = si h5 88 5 0 →
  ∀ h7 : HP, h7 = si h6 88 6 0 →
  f_J7_fill_53178 89 (-1 : Int32) h7 (fun h8 =>
  Q h8)
set_option maxRecDepth 20000 in
theorem l_X1_open (g : GE) (a1 : Nat) (x2 : Int32) (ha1 : kd a1 = 6) (h : HP) (Q : HP → Prop) (H : f_X1_open a1 x2 h Q) : Wm g mX1_open 0 [some (.ref 88), some (.ref a1), some (.int x2)] [] h (qv Q) := by
  unfold f_X1_open at H
  refine wm_aload_n 0 1 (by decide +kernel) rfl rfl ?_
  refine wm_aload_n 1 2 (by decide +kernel) rfl rfl ?_
  replace H := H _ rfl
  refine wm_putw 1 0 5 fl_RX1_42 (by decide +kernel) rfl (by decide +kernel) (by decide) ha1 ?_
  refine wm_aload_n 0 6 (by decide +kernel) rfl rfl ?_
  refine wm_iload_n 2 7 (by decide +kernel) rfl rfl ?_
  replace H := H _ rfl
  refine wm_puti 1 1 10 fl_RX1_46 (by decide +kernel) rfl (by decide +kernel) rfl rfl ⟨rfl, rfl⟩ ?_
  refine wm_aload_n 0 11 (by decide +kernel) rfl rfl ?_
  refine wm_iconst (-1) 12 (by decide +kernel : decode cX1_open 11 = .ok (.iconst (-1), 1)) rfl (by decide +kernel) ?_
  replace H := H _ rfl
  refine wm_puti 1 2 15 fl_RX1_50 (by decide +kernel) rfl (by decide +kernel) rfl rfl ⟨rfl, rfl⟩ ?_
  refine wm_aload_n 0 16 (by decide +kernel) rfl rfl ?_
  refine wm_iconst 0 17 (by decide +kernel : decode cX1_open 16 = .ok (.iconst 0, 1)) rfl (by decide +kernel) ?_
  replace H := H _ rfl
  refine wm_puti 1 3 20 fl_RX1_53 (by decide +kernel) rfl (by decide +kernel) rfl rfl ⟨rfl, rfl⟩ ?_
  refine wm_aload_n 0 21 (by decide +kernel) rfl rfl ?_
  refine wm_iconst 0 22 (by decide +kernel : decode cX1_open 21 = .ok (.iconst 0, 1)) rfl (by decide +kernel) ?_
  replace H := H _ rfl
  refine wm_puti 1 4 25 fl_RX1_56 (by decide +kernel) rfl (by decide +kernel) rfl rfl ⟨rfl, rfl⟩ ?_
  refine wm_aload_n 0 26 (by decide +kernel) rfl rfl ?_
  refine wm_iconst 0 27 (by decide +kernel : decode cX1_open 26 = .ok (.iconst 0, 1)) rfl (by decide +kernel) ?_
  replace H := H _ rfl
  refine wm_puti 1 5 30 fl_RX1_59 (by decide +kernel) rfl (by decide +kernel) rfl rfl ⟨rfl, rfl⟩ ?_
  refine wm_aload_n 0 31 (by decide +kernel) rfl rfl ?_
  refine wm_iconst 0 32 (by decide +kernel : decode cX1_open 31 = .ok (.iconst 0, 1)) rfl (by decide +kernel) ?_
  replace H := H _ rfl
  refine wm_puti 1 6 35 fl_RX1_62 (by decide +kernel) rfl (by decide +kernel) rfl rfl ⟨rfl, rfl⟩ ?_
  refine wm_aload_n 0 36 (by decide +kernel) rfl rfl ?_
  refine wm_getr 1 7 1 89 39 fl_RX1_11 (by decide +kernel) rfl (by decide +kernel) rfl rfl (by decide) ?_
  refine wm_iconst (-1) 40 (by decide +kernel : decode cX1_open 39 = .ok (.iconst (-1), 1)) rfl (by decide +kernel) ?_
  refine wm_callSv mJ7_fill_53178 2 [_, _] [] _ _ 43 mo_J7_fill_53178 np_J7_fill_53178 ml_RX1_65 sc_J7_fill_53178 (by decide +kernel) (by decide +kernel) rfl rfl rfl (Nat.le_of_ble_eq_true rfl) (Nat.le_of_ble_eq_true rfl) _ (ent_pad 2 rfl) (l_J7_fill_53178 g _ _ (by decide +kernel) _ _ H) (fun h8 H => ?_)
  exact wm_vret (by decide +kernel) rfl H
def f_X1_hold (x1 : Int32) (x2 : Int32) (h : HP) (Q : HP → Prop) : Prop :=
  ∀ h1 : HP, h1 = si h 88 2 x1 →
  ∀ h2 : HP, h2 = si h1 88 3 x2 →
  Q h2
set_option maxRecDepth 20000 in
theorem l_X1_hold (g : GE) (x1 : Int32) (x2 : Int32)  (h : HP) (Q : HP → Prop) (H : f_X1_hold x1 x2 h Q) : Wm g mX1_hold 0 [some (.ref 88), some (.int x1), some (.int x2)] [] h (qv Q) := by
  unfold f_X1_hold at H
  refine wm_aload_n 0 1 (by decide +kernel) rfl rfl ?_
  refine wm_iload_n 1 2 (by decide +kernel) rfl rfl ?_
  replace H := H _ rfl
  refine wm_puti 1 2 5 fl_RX1_50 (by decide +kernel) rfl (by decide +kernel) rfl rfl ⟨rfl, rfl⟩ ?_
  refine wm_aload_n 0 6 (by decide +kernel) rfl rfl ?_
  refine wm_iload_n 2 7 (by decide +kernel) rfl rfl ?_
  replace H := H _ rfl
  refine wm_puti 1 3 10 fl_RX1_53 (by decide +kernel) rfl (by decide +kernel) rfl rfl ⟨rfl, rfl⟩ ?_
  exact wm_vret (by decide +kernel) rfl H
def f_X1_node (x1 : Int32) (x2 : Int32) (h : HP) (Q : Int32 → HP → Prop) : Prop :=
  Q (if x1 = (gi h 88 1) then (150 : Int32) else ((x2 * 6) + x1)) h
set_option maxRecDepth 20000 in
theorem l_X1_node (g : GE) (x1 : Int32) (x2 : Int32)  (h : HP) (Q : Int32 → HP → Prop) (H : f_X1_node x1 x2 h Q) : Wm g mX1_node 0 [some (.ref 88), some (.int x1), some (.int x2)] [] h (qi Q) := by
  unfold f_X1_node at H
  refine wm_iload_n 1 1 (by decide +kernel) rfl rfl ?_
  refine wm_aload_n 0 2 (by decide +kernel) rfl rfl ?_
  refine wm_geti 1 1 5 fl_RX1_46 (by decide +kernel) rfl (by decide +kernel) rfl ?_
  refine' wm_dia (pcJ := 20) (fun kt kf => wm_icmp_ne 8 14 (by decide +kernel : decode cX1_node 5 = .ok (.if_icmp .ne 9, 3)) (by decide) rfl kf kt) ?D2k (fun kj c1 => ?D2t) (fun kj c1 => ?D2f)
  case D2t =>
    refine wm_sipush 150 11 (by decide +kernel : decode cX1_node 8 = .ok (.sipush 150, 3)) rfl (by decide +kernel) ?_
    refine wm_goto 20 (by decide +kernel : decode cX1_node 11 = .ok (.goto 9, 3)) (by decide) ?_
    exact kj
  case D2f =>
    refine wm_iload_n 2 15 (by decide +kernel) rfl rfl ?_
    refine wm_bipush 6 17 (by decide +kernel : decode cX1_node 15 = .ok (.bipush 6, 2)) rfl (by decide +kernel) ?_
    refine wm_imul 18 (by decide +kernel) rfl ?_
    refine wm_iload_n 1 19 (by decide +kernel) rfl rfl ?_
    refine wm_iadd 20 (by decide +kernel) rfl ?_
    exact kj
  case D2k =>
    exact wm_iret (by decide +kernel) ⟨.int, rfl, rfl⟩ H
def f_X1_putArc (x1 : Int32) (x2 : Int32) (x3 : Int32) (h : HP) (Q : HP → Prop) : Prop :=
  vp_in (gi h 88 6) 1068 ∧
  ∀ h2 : HP, h2 = si h 91 (ix (gi h 88 6)) x2 →
  vp_in (gi h2 88 6) 1068 ∧
  ∀ h4 : HP, h4 = si h2 92 (ix (gi h2 88 6)) x3 →
  vp_in x1 152 ∧
  vp_in (gi h4 88 6) 1068 ∧
  ∀ h7 : HP, h7 = si h4 90 (ix (gi h4 88 6)) (gi h4 89 (ix x1)) →
  vp_in x1 152 ∧
  ∀ h9 : HP, h9 = si h7 89 (ix x1) (gi h7 88 6) →
  ∀ h10 : HP, h10 = si h9 88 6 ((gi h9 88 6) + 1) →
  Q h10
set_option maxRecDepth 20000 in
theorem l_X1_putArc (g : GE) (x1 : Int32) (x2 : Int32) (x3 : Int32)  (h : HP) (Q : HP → Prop) (H : f_X1_putArc x1 x2 x3 h Q) : Wm g mX1_putArc 0 [some (.ref 88), some (.int x1), some (.int x2), some (.int x3)] [] h (qv Q) := by
  unfold f_X1_putArc at H
  refine wm_aload_n 0 1 (by decide +kernel) rfl rfl ?_
  refine wm_getr 1 9 3 91 4 fl_RX1_18 (by decide +kernel) rfl (by decide +kernel) rfl rfl (by decide) ?_
  refine wm_aload_n 0 5 (by decide +kernel) rfl rfl ?_
  refine wm_geti 1 6 8 fl_RX1_62 (by decide +kernel) rfl (by decide +kernel) rfl ?_
  refine wm_iload_n 2 9 (by decide +kernel) rfl rfl ?_
  obtain ⟨o1, H⟩ := H
  replace H := H _ rfl
  refine wm_iast 1068 10 (by decide +kernel) rfl (by decide +kernel) (by decide +kernel) o1 ?_
  refine wm_aload_n 0 11 (by decide +kernel) rfl rfl ?_
  refine wm_getr 1 10 4 92 14 fl_RX1_21 (by decide +kernel) rfl (by decide +kernel) rfl rfl (by decide) ?_
  refine wm_aload_n 0 15 (by decide +kernel) rfl rfl ?_
  refine wm_geti 1 6 18 fl_RX1_62 (by decide +kernel) rfl (by decide +kernel) rfl ?_
  refine wm_iload_n 3 19 (by decide +kernel) rfl rfl ?_
  obtain ⟨o3, H⟩ := H
  replace H := H _ rfl
  refine wm_iast 1068 20 (by decide +kernel) rfl (by decide +kernel) (by decide +kernel) o3 ?_
  refine wm_aload_n 0 21 (by decide +kernel) rfl rfl ?_
  refine wm_getr 1 8 2 90 24 fl_RX1_15 (by decide +kernel) rfl (by decide +kernel) rfl rfl (by decide) ?_
  refine wm_aload_n 0 25 (by decide +kernel) rfl rfl ?_
  refine wm_geti 1 6 28 fl_RX1_62 (by decide +kernel) rfl (by decide +kernel) rfl ?_
  refine wm_aload_n 0 29 (by decide +kernel) rfl rfl ?_
  refine wm_getr 1 7 1 89 32 fl_RX1_11 (by decide +kernel) rfl (by decide +kernel) rfl rfl (by decide) ?_
  refine wm_iload_n 1 33 (by decide +kernel) rfl rfl ?_
  obtain ⟨o5, H⟩ := H
  refine wm_iald 152 34 (by decide +kernel) rfl (by decide +kernel) (by decide +kernel) o5 ?_
  obtain ⟨o6, H⟩ := H
  replace H := H _ rfl
  refine wm_iast 1068 35 (by decide +kernel) rfl (by decide +kernel) (by decide +kernel) o6 ?_
  refine wm_aload_n 0 36 (by decide +kernel) rfl rfl ?_
  refine wm_getr 1 7 1 89 39 fl_RX1_11 (by decide +kernel) rfl (by decide +kernel) rfl rfl (by decide) ?_
  refine wm_iload_n 1 40 (by decide +kernel) rfl rfl ?_
  refine wm_aload_n 0 41 (by decide +kernel) rfl rfl ?_
  refine wm_geti 1 6 44 fl_RX1_62 (by decide +kernel) rfl (by decide +kernel) rfl ?_
  obtain ⟨o8, H⟩ := H
  replace H := H _ rfl
  refine wm_iast 152 45 (by decide +kernel) rfl (by decide +kernel) (by decide +kernel) o8 ?_
  refine wm_aload_n 0 46 (by decide +kernel) rfl rfl ?_
  refine wm_dup 47 (by decide +kernel) rfl rfl ?_
  refine wm_geti 1 6 50 fl_RX1_62 (by decide +kernel) rfl (by decide +kernel) rfl ?_
  refine wm_iconst 1 51 (by decide +kernel : decode cX1_putArc 50 = .ok (.iconst 1, 1)) rfl (by decide +kernel) ?_
  refine wm_iadd 52 (by decide +kernel) rfl ?_
  replace H := H _ rfl
  refine wm_puti 1 6 55 fl_RX1_62 (by decide +kernel) rfl (by decide +kernel) rfl rfl ⟨rfl, rfl⟩ ?_
  exact wm_vret (by decide +kernel) rfl H
def f_X1_addArc (x1 : Int32) (x2 : Int32) (x3 : Int32) (x4 : Int32) (h : HP) (Q : HP → Prop) : Prop :=
  (((x3 ≤ 0) →
    Q h) ∧
   (¬ (x3 ≤ 0) →
    (((((gi h 88 6) + 2) ≤ 1068) →
      vp_in ((gi h 88 6) / 2) 534 ∧
      ∀ h4 : HP, h4 = si h 93 (ix ((gi h 88 6) / 2)) x4 →
      f_X1_putArc x1 x2 x3 h4 (fun h5 =>
      f_X1_putArc x2 x1 0 h5 (fun h6 =>
      Q h6))) ∧
     (¬ (((gi h 88 6) + 2) ≤ 1068) →
      Q h))))
set_option maxRecDepth 20000 in
theorem l_X1_addArc (g : GE) (x1 : Int32) (x2 : Int32) (x3 : Int32) (x4 : Int32)  (h : HP) (Q : HP → Prop) (H : f_X1_addArc x1 x2 x3 x4 h Q) : Wm g mX1_addArc 0 [some (.ref 88), some (.int x1), some (.int x2), some (.int x3), some (.int x4)] [] h (qv Q) := by
  unfold f_X1_addArc at H
  refine wm_iload_n 3 1 (by decide +kernel) rfl rfl ?_
  refine wm_if_le 4 16 (by decide +kernel : decode cX1_addArc 1 = .ok (.ifCond .le 15, 3)) (by decide) rfl (fun c1 => ?_) (fun c1 => ?_)
  · replace H := H.1 c1
    exact wm_vret (by decide +kernel) rfl H
  · replace H := H.2 c1
    refine wm_aload_n 0 5 (by decide +kernel) rfl rfl ?_
    refine wm_geti 1 6 8 fl_RX1_62 (by decide +kernel) rfl (by decide +kernel) rfl ?_
    refine wm_iconst 2 9 (by decide +kernel : decode cX1_addArc 8 = .ok (.iconst 2, 1)) rfl (by decide +kernel) ?_
    refine wm_iadd 10 (by decide +kernel) rfl ?_
    refine wm_sipush 1068 13 (by decide +kernel : decode cX1_addArc 10 = .ok (.sipush 1068, 3)) rfl (by decide +kernel) ?_
    refine wm_icmp_le 16 17 (by decide +kernel : decode cX1_addArc 13 = .ok (.if_icmp .le 4, 3)) (by decide) rfl (fun c2 => ?_) (fun c2 => ?_)
    · replace H := H.1 c2
      refine wm_aload_n 0 18 (by decide +kernel) rfl rfl ?_
      refine wm_getr 1 11 5 93 21 fl_RX1_24 (by decide +kernel) rfl (by decide +kernel) rfl rfl (by decide) ?_
      refine wm_aload_n 0 22 (by decide +kernel) rfl rfl ?_
      refine wm_geti 1 6 25 fl_RX1_62 (by decide +kernel) rfl (by decide +kernel) rfl ?_
      refine wm_iconst 2 26 (by decide +kernel : decode cX1_addArc 25 = .ok (.iconst 2, 1)) rfl (by decide +kernel) ?_
      refine wm_idiv 27 (by decide +kernel) rfl (by decide +kernel) ?_
      refine wm_iload 4 29 (by decide +kernel) rfl rfl ?_
      obtain ⟨o3, H⟩ := H
      replace H := H _ rfl
      refine wm_iast 534 30 (by decide +kernel) rfl (by decide +kernel) (by decide +kernel) o3 ?_
      refine wm_aload_n 0 31 (by decide +kernel) rfl rfl ?_
      refine wm_iload_n 1 32 (by decide +kernel) rfl rfl ?_
      refine wm_iload_n 2 33 (by decide +kernel) rfl rfl ?_
      refine wm_iload_n 3 34 (by decide +kernel) rfl rfl ?_
      refine wm_callVv mX1_putArc 3 1 [_, _, _] [] _ _ 37 mo_X1_putArc np_X1_putArc ml_RX1_139 im_X1_putArc se_X1_putArc (by decide +kernel) (by decide +kernel) rfl rfl rfl (Nat.le_of_ble_eq_true rfl) (by decide +kernel) rfl (Nat.le_of_ble_eq_true rfl) _ (ent_pad 0 rfl) (l_X1_putArc g _ _ _ _ _ H) (fun h5 H => ?_)
      refine wm_aload_n 0 38 (by decide +kernel) rfl rfl ?_
      refine wm_iload_n 2 39 (by decide +kernel) rfl rfl ?_
      refine wm_iload_n 1 40 (by decide +kernel) rfl rfl ?_
      refine wm_iconst 0 41 (by decide +kernel : decode cX1_addArc 40 = .ok (.iconst 0, 1)) rfl (by decide +kernel) ?_
      refine wm_callVv mX1_putArc 3 1 [_, _, _] [] _ _ 44 mo_X1_putArc np_X1_putArc ml_RX1_139 im_X1_putArc se_X1_putArc (by decide +kernel) (by decide +kernel) rfl rfl rfl (Nat.le_of_ble_eq_true rfl) (by decide +kernel) rfl (Nat.le_of_ble_eq_true rfl) _ (ent_pad 0 rfl) (l_X1_putArc g _ _ _ _ _ H) (fun h6 H => ?_)
      exact wm_vret (by decide +kernel) rfl H
    · replace H := H.2 c2
      exact wm_vret (by decide +kernel) rfl H
def f_X1_addTick_L2 (x1 : Int32) (k111 : HP → Prop) (Q : HP → Prop) : Nat → Int32 → HP → Prop
  | 0, _, _ => False
  | n + 1, x2, h =>
    kd (gw h 0) = 6 ∧
    ((((gi h (gw h 0) 2) ≤ x2) →
      k111 h) ∧
     (¬ ((gi h (gw h 0) 2) ≤ x2) →
      kd (gw h 0) = 6 ∧
      f_X6_supply (gw h 0) x2 x1 h (fun v5 h4 =>
      (((x2 = (gi h4 88 1)) →
        ∀ h23 : HP, h23 = si h4 88 5 ((gi h4 88 5) + v5) →
        ∀ x2_24 : Int32, x2_24 = (x2 + 1) →
        f_X1_addTick_L2 x1 k111 Q n x2_24 h23) ∧
       (¬ (x2 = (gi h4 88 1)) →
        f_X1_node x2 x1 h4 (fun v8 h7 =>
        f_X1_addArc 151 v8 v5 (-1 : Int32) h7 (fun h9 =>
        (((x1 ≤ 0) →
          ∀ x2_11 : Int32, x2_11 = (x2 + 1) →
          f_X1_addTick_L2 x1 k111 Q n x2_11 h9) ∧
         (¬ (x1 ≤ 0) →
          f_X1_node x2 (x1 - 1) h9 (fun v13 h12 =>
          f_X1_node x2 x1 h12 (fun v15 h14 =>
          kd (gw h14 0) = 6 ∧
          vp_in x2 6 ∧
          kd (gw h14 0) = 6 ∧
          f_X3_holds (((gw h14 0) + 1) + 2 + ix x2) (((gi h14 (gw h14 0) 0) + x1) - 1) h14 (fun v20 h19 =>
          f_X1_addArc v13 v15 v20 (-1 : Int32) h19 (fun h21 =>
          ∀ x2_22 : Int32, x2_22 = (x2 + 1) →
          f_X1_addTick_L2 x1 k111 Q n x2_22 h21)))))))))))))
def f_X1_addTick_L113 (x1 : Int32)  (Q : HP → Prop) : Nat → Int32 → HP → Prop
  | 0, _, _ => False
  | n + 1, x2, h =>
    kd (gw h 0) = 6 ∧
    ((((gi h (gw h 0) 3) ≤ x2) →
      Q h) ∧
     (¬ ((gi h (gw h 0) 3) ≤ x2) →
      kd (gw h 0) = 6 ∧
      vp_in x2 10 ∧
      f_X0_takes (((gw h 0) + 2) + 7 + 2 * ix x2) h (fun v31 h30 =>
      ∀ x4_32 : Int32, x4_32 = (x1 - v31) →
      (((x4_32 < 0) →
        ∀ x2_34 : Int32, x2_34 = (x2 + 1) →
        f_X1_addTick_L113 x1 Q n x2_34 h30) ∧
       (¬ (x4_32 < 0) →
        ((((gi h30 (((gw h 0) + 2) + 7 + 2 * ix x2) 1) = (gi h30 88 1)) →
          ∀ x2_36 : Int32, x2_36 = (x2 + 1) →
          f_X1_addTick_L113 x1 Q n x2_36 h30) ∧
         (¬ ((gi h30 (((gw h 0) + 2) + 7 + 2 * ix x2) 1) = (gi h30 88 1)) →
          ∀ x5_39 : Int32, x5_39 = (if x2 = (gi h30 88 2) then ((gi h30 88 3) : Int32) else 2147483647) →
          f_X1_node (gi h30 (((gw h 0) + 2) + 7 + 2 * ix x2) 1) x4_32 h30 (fun v41 h40 =>
          f_X1_node (gi h40 (((gw h 0) + 2) + 7 + 2 * ix x2) 2) x1 h40 (fun v43 h42 =>
          kd (gw h42 0) = 6 ∧
          f_X6_roomAhead (gw h42 0) x2 x4_32 x5_39 h42 (fun v46 h45 =>
          f_X1_addArc v41 v43 v46 x2 h45 (fun h47 =>
          ∀ x2_48 : Int32, x2_48 = (x2 + 1) →
          f_X1_addTick_L113 x1 Q n x2_48 h47)))))))))))
def f_X1_addTick (x1 : Int32) (h : HP) (Q : HP → Prop) : Prop :=
  ∃ n50, f_X1_addTick_L2 x1
    (fun h25 =>
      ∃ n49, f_X1_addTick_L113 x1
        Q n49 0 h25)
    Q n50 0 h
set_option maxRecDepth 20000 in
theorem l_X1_addTick_L2 (g : GE) (x1 : Int32)  (k111 : HP → Prop) (Q : HP → Prop) (hk111 : ∀  (h : HP), k111  h → Wm g mX1_addTick 111 [some (.ref 88), some (.int x1), none, none, none, none] [] h (qv Q)) : ∀ (n : Nat) (x2 : Int32) (h : HP), f_X1_addTick_L2 x1 k111 Q n x2 h → Wm g mX1_addTick 2 [some (.ref 88), some (.int x1), some (.int x2), none, none, none] [] h (qv Q) := by
  intro n
  induction n with
  | zero => intro x2 h H; exact H.elim
  | succ n ih =>
    intro x2 h H
    unfold f_X1_addTick_L2 at H
    refine wm_iload_n 2 3 (by decide +kernel) rfl rfl ?_
    refine wm_aload_n 0 4 (by decide +kernel) rfl rfl ?_
    obtain ⟨o1, H⟩ := H
    refine wm_getw 1 0 7 fl_RX1_42 (by decide +kernel) rfl (by decide +kernel) rfl (by decide) o1 ?_
    refine wm_geti 6 2 10 fl_RX1_87 (by decide +kernel) rfl o1 rfl ?_
    refine wm_icmp_ge 13 111 (by decide +kernel : decode cX1_addTick 10 = .ok (.if_icmp .ge 101, 3)) (by decide) rfl (fun c2 => ?_) (fun c2 => ?_)
    · replace H := H.1 c2
      refine wm_mask [true, true, false, false, false, false] [some _, some _, none, none, none, none] rfl ?_
      exact hk111 _ H
    · replace H := H.2 c2
      refine wm_aload_n 0 14 (by decide +kernel) rfl rfl ?_
      obtain ⟨o3, H⟩ := H
      refine wm_getw 1 0 17 fl_RX1_42 (by decide +kernel) rfl (by decide +kernel) rfl (by decide) o3 ?_
      refine wm_iload_n 2 18 (by decide +kernel) rfl rfl ?_
      refine wm_iload_n 1 19 (by decide +kernel) rfl rfl ?_
      refine wm_callVi mX6_supply 2 6 [_, _] [] _ _ 22 mo_X6_supply np_X6_supply ml_RX1_92 im_X6_supply se_X6_supply (by decide +kernel) (by decide +kernel) rfl rfl rfl (Nat.le_of_ble_eq_true rfl) o3 rfl (Nat.le_of_ble_eq_true rfl) _ (ent_pad 2 rfl) (l_X6_supply g _ _ _ o3 _ _ H) (fun v5 h4 H hzv5 => ?_)
      refine wm_istore_n 3 23 [some _, some _, some _, some _, none, none] (by decide +kernel) rfl (by decide +kernel) (okS_spec rfl) rfl ?_
      refine wm_iload_n 2 24 (by decide +kernel) rfl rfl ?_
      refine wm_aload_n 0 25 (by decide +kernel) rfl rfl ?_
      refine wm_geti 1 1 28 fl_RX1_46 (by decide +kernel) rfl (by decide +kernel) rfl ?_
      refine wm_icmp_ne 31 44 (by decide +kernel : decode cX1_addTick 28 = .ok (.if_icmp .ne 16, 3)) (by decide) rfl (fun c6 => ?_) (fun c6 => ?_)
      · replace H := H.2 c6
        refine wm_aload_n 0 45 (by decide +kernel) rfl rfl ?_
        refine wm_sipush 151 48 (by decide +kernel : decode cX1_addTick 45 = .ok (.sipush 151, 3)) rfl (by decide +kernel) ?_
        refine wm_aload_n 0 49 (by decide +kernel) rfl rfl ?_
        refine wm_iload_n 2 50 (by decide +kernel) rfl rfl ?_
        refine wm_iload_n 1 51 (by decide +kernel) rfl rfl ?_
        refine wm_callVi mX1_node 2 1 [_, _] [_, _] _ _ 54 mo_X1_node np_X1_node ml_RX1_95 im_X1_node se_X1_node (by decide +kernel) (by decide +kernel) rfl rfl rfl (Nat.le_of_ble_eq_true rfl) (by decide +kernel) rfl (Nat.le_of_ble_eq_true rfl) _ (ent_pad 0 rfl) (l_X1_node g _ _ _ _ H) (fun v8 h7 H hzv8 => ?_)
        refine wm_iload_n 3 55 (by decide +kernel) rfl rfl ?_
        refine wm_iconst (-1) 56 (by decide +kernel : decode cX1_addTick 55 = .ok (.iconst (-1), 1)) rfl (by decide +kernel) ?_
        refine wm_callVv mX1_addArc 4 1 [_, _, _, _] [] _ _ 59 mo_X1_addArc np_X1_addArc ml_RX1_98 im_X1_addArc se_X1_addArc (by decide +kernel) (by decide +kernel) rfl rfl rfl (Nat.le_of_ble_eq_true rfl) (by decide +kernel) rfl (Nat.le_of_ble_eq_true rfl) _ (ent_pad 0 rfl) (l_X1_addArc g _ _ _ _ _ _ H) (fun h9 H => ?_)
        refine wm_iload_n 1 60 (by decide +kernel) rfl rfl ?_
        refine wm_if_le 63 105 (by decide +kernel : decode cX1_addTick 60 = .ok (.ifCond .le 45, 3)) (by decide) rfl (fun c10 => ?_) (fun c10 => ?_)
        · replace H := H.1 c10
          replace H := H _ rfl
          refine wm_iinc 2 (_ + 1) 108 [some _, some _, some _, some _, none, none] (by decide +kernel : decode cX1_addTick 105 = .ok (.iinc 2 1, 3)) rfl (by decide +kernel) rfl (ofI_eq (by decide +kernel)) (okS_spec rfl) rfl ?_
          refine wm_goto 2 (by decide +kernel : decode cX1_addTick 108 = .ok (.goto (-106), 3)) (by decide) ?_
          refine wm_mask [true, true, true, false, false, false] [some _, some _, some _, none, none, none] rfl ?_
          exact ih _ _ H
        · replace H := H.2 c10
          refine wm_aload_n 0 64 (by decide +kernel) rfl rfl ?_
          refine wm_aload_n 0 65 (by decide +kernel) rfl rfl ?_
          refine wm_iload_n 2 66 (by decide +kernel) rfl rfl ?_
          refine wm_iload_n 1 67 (by decide +kernel) rfl rfl ?_
          refine wm_iconst 1 68 (by decide +kernel : decode cX1_addTick 67 = .ok (.iconst 1, 1)) rfl (by decide +kernel) ?_
          refine wm_isub 69 (by decide +kernel) rfl ?_
          refine wm_callVi mX1_node 2 1 [_, _] [_] _ _ 72 mo_X1_node np_X1_node ml_RX1_95 im_X1_node se_X1_node (by decide +kernel) (by decide +kernel) rfl rfl rfl (Nat.le_of_ble_eq_true rfl) (by decide +kernel) rfl (Nat.le_of_ble_eq_true rfl) _ (ent_pad 0 rfl) (l_X1_node g _ _ _ _ H) (fun v13 h12 H hzv13 => ?_)
          refine wm_aload_n 0 73 (by decide +kernel) rfl rfl ?_
          refine wm_iload_n 2 74 (by decide +kernel) rfl rfl ?_
          refine wm_iload_n 1 75 (by decide +kernel) rfl rfl ?_
          refine wm_callVi mX1_node 2 1 [_, _] [_, _] _ _ 78 mo_X1_node np_X1_node ml_RX1_95 im_X1_node se_X1_node (by decide +kernel) (by decide +kernel) rfl rfl rfl (Nat.le_of_ble_eq_true rfl) (by decide +kernel) rfl (Nat.le_of_ble_eq_true rfl) _ (ent_pad 0 rfl) (l_X1_node g _ _ _ _ H) (fun v15 h14 H hzv15 => ?_)
          refine wm_aload_n 0 79 (by decide +kernel) rfl rfl ?_
          obtain ⟨o16, H⟩ := H
          refine wm_getw 1 0 82 fl_RX1_42 (by decide +kernel) rfl (by decide +kernel) rfl (by decide) o16 ?_
          refine wm_getr 6 4 1 _ 85 fl_RX1_102 (by decide +kernel) rfl o16 rfl rfl (by decide) ?_
          refine wm_iload_n 2 86 (by decide +kernel) rfl rfl ?_
          obtain ⟨o17, H⟩ := H
          refine wm_aald 6 _ 87 (by decide +kernel) rfl (Or.inl ⟨(W_st o16).1, rfl⟩) (W_st o16).2 o17 ?_
          refine wm_aload_n 0 88 (by decide +kernel) rfl rfl ?_
          obtain ⟨o18, H⟩ := H
          refine wm_getw 1 0 91 fl_RX1_42 (by decide +kernel) rfl (by decide +kernel) rfl (by decide) o18 ?_
          refine wm_geti 6 0 94 fl_RX1_106 (by decide +kernel) rfl o18 rfl ?_
          refine wm_iload_n 1 95 (by decide +kernel) rfl rfl ?_
          refine wm_iadd 96 (by decide +kernel) rfl ?_
          refine wm_iconst 1 97 (by decide +kernel : decode cX1_addTick 96 = .ok (.iconst 1, 1)) rfl (by decide +kernel) ?_
          refine wm_isub 98 (by decide +kernel) rfl ?_
          refine wm_callVi mX3_holds 1 3 [_] [_, _, _] _ _ 101 mo_X3_holds np_X3_holds ml_RX1_109 im_X3_holds se_X3_holds (by decide +kernel) (by decide +kernel) rfl rfl rfl (Nat.le_of_ble_eq_true rfl) (E_st (W_st o16).1 (vp_in_lt o17)) rfl (Nat.le_of_ble_eq_true rfl) _ (ent_pad 0 rfl) (l_X3_holds g _ _ (E_st (W_st o16).1 (vp_in_lt o17)) _ _ H) (fun v20 h19 H hzv20 => ?_)
          refine wm_iconst (-1) 102 (by decide +kernel : decode cX1_addTick 101 = .ok (.iconst (-1), 1)) rfl (by decide +kernel) ?_
          refine wm_callVv mX1_addArc 4 1 [_, _, _, _] [] _ _ 105 mo_X1_addArc np_X1_addArc ml_RX1_98 im_X1_addArc se_X1_addArc (by decide +kernel) (by decide +kernel) rfl rfl rfl (Nat.le_of_ble_eq_true rfl) (by decide +kernel) rfl (Nat.le_of_ble_eq_true rfl) _ (ent_pad 0 rfl) (l_X1_addArc g _ _ _ _ _ _ H) (fun h21 H => ?_)
          replace H := H _ rfl
          refine wm_iinc 2 (_ + 1) 108 [some _, some _, some _, some _, none, none] (by decide +kernel : decode cX1_addTick 105 = .ok (.iinc 2 1, 3)) rfl (by decide +kernel) rfl (ofI_eq (by decide +kernel)) (okS_spec rfl) rfl ?_
          refine wm_goto 2 (by decide +kernel : decode cX1_addTick 108 = .ok (.goto (-106), 3)) (by decide) ?_
          refine wm_mask [true, true, true, false, false, false] [some _, some _, some _, none, none, none] rfl ?_
          exact ih _ _ H
      · replace H := H.1 c6
        refine wm_aload_n 0 32 (by decide +kernel) rfl rfl ?_
        refine wm_dup 33 (by decide +kernel) rfl rfl ?_
        refine wm_geti 1 5 36 fl_RX1_59 (by decide +kernel) rfl (by decide +kernel) rfl ?_
        refine wm_iload_n 3 37 (by decide +kernel) rfl rfl ?_
        refine wm_iadd 38 (by decide +kernel) rfl ?_
        replace H := H _ rfl
        refine wm_puti 1 5 41 fl_RX1_59 (by decide +kernel) rfl (by decide +kernel) rfl rfl ⟨rfl, rfl⟩ ?_
        refine wm_goto 105 (by decide +kernel : decode cX1_addTick 41 = .ok (.goto 64, 3)) (by decide) ?_
        replace H := H _ rfl
        refine wm_iinc 2 (_ + 1) 108 [some _, some _, some _, some _, none, none] (by decide +kernel : decode cX1_addTick 105 = .ok (.iinc 2 1, 3)) rfl (by decide +kernel) rfl (ofI_eq (by decide +kernel)) (okS_spec rfl) rfl ?_
        refine wm_goto 2 (by decide +kernel : decode cX1_addTick 108 = .ok (.goto (-106), 3)) (by decide) ?_
        refine wm_mask [true, true, true, false, false, false] [some _, some _, some _, none, none, none] rfl ?_
        exact ih _ _ H
set_option maxRecDepth 20000 in
theorem l_X1_addTick_L113 (g : GE) (x1 : Int32)   (Q : HP → Prop)  : ∀ (n : Nat) (x2 : Int32) (h : HP), f_X1_addTick_L113 x1 Q n x2 h → Wm g mX1_addTick 113 [some (.ref 88), some (.int x1), some (.int x2), none, none, none] [] h (qv Q) := by
  intro n
  induction n with
  | zero => intro x2 h H; exact H.elim
  | succ n ih =>
    intro x2 h H
    unfold f_X1_addTick_L113 at H
    refine wm_iload_n 2 114 (by decide +kernel) rfl rfl ?_
    refine wm_aload_n 0 115 (by decide +kernel) rfl rfl ?_
    obtain ⟨o26, H⟩ := H
    refine wm_getw 1 0 118 fl_RX1_42 (by decide +kernel) rfl (by decide +kernel) rfl (by decide) o26 ?_
    refine wm_geti 6 3 121 fl_RX1_115 (by decide +kernel) rfl o26 rfl ?_
    refine wm_icmp_ge 124 219 (by decide +kernel : decode cX1_addTick 121 = .ok (.if_icmp .ge 98, 3)) (by decide) rfl (fun c27 => ?_) (fun c27 => ?_)
    · replace H := H.1 c27
      exact wm_vret (by decide +kernel) rfl H
    · replace H := H.2 c27
      refine wm_aload_n 0 125 (by decide +kernel) rfl rfl ?_
      obtain ⟨o28, H⟩ := H
      refine wm_getw 1 0 128 fl_RX1_42 (by decide +kernel) rfl (by decide +kernel) rfl (by decide) o28 ?_
      refine wm_getr 6 5 2 _ 131 fl_RX1_118 (by decide +kernel) rfl o28 rfl rfl (by decide) ?_
      refine wm_iload_n 2 132 (by decide +kernel) rfl rfl ?_
      obtain ⟨o29, H⟩ := H
      refine wm_aald 10 _ 133 (by decide +kernel) rfl (Or.inr (Or.inl ⟨(W_ln o28).1, rfl⟩)) (W_ln o28).2 o29 ?_
      refine wm_astore_n 3 134 [some _, some _, some _, some _, none, none] (by decide +kernel) rfl (by decide +kernel) (okS_spec rfl) rfl ?_
      refine wm_iload_n 1 135 (by decide +kernel) rfl rfl ?_
      refine wm_aload_n 3 136 (by decide +kernel) rfl rfl ?_
      refine wm_callVi mX0_takes 0 0 [] [_] _ _ 139 mo_X0_takes np_X0_takes ml_RX1_122 im_X0_takes se_X0_takes (by decide +kernel) (by decide +kernel) rfl rfl rfl (Nat.le_of_ble_eq_true rfl) (E_ln (W_ln o28).1 (vp_in_lt o29)) rfl (Nat.le_of_ble_eq_true rfl) _ (ent_pad 0 rfl) (l_X0_takes g _ (E_ln (W_ln o28).1 (vp_in_lt o29)) _ _ H) (fun v31 h30 H hzv31 => ?_)
      refine wm_isub 140 (by decide +kernel) rfl ?_
      replace H := H _ rfl
      refine wm_istore 4 142 [some _, some _, some _, some _, some _, none] (by decide +kernel) rfl (by decide +kernel) (okS_spec rfl) rfl ?_
      refine wm_iload 4 144 (by decide +kernel) rfl rfl ?_
      refine wm_if_lt 147 213 (by decide +kernel : decode cX1_addTick 144 = .ok (.ifCond .lt 69, 3)) (by decide) rfl (fun c33 => ?_) (fun c33 => ?_)
      · replace H := H.1 c33
        replace H := H _ rfl
        refine wm_iinc 2 (_ + 1) 216 [some _, some _, some _, some _, some _, none] (by decide +kernel : decode cX1_addTick 213 = .ok (.iinc 2 1, 3)) rfl (by decide +kernel) rfl (ofI_eq (by decide +kernel)) (okS_spec rfl) rfl ?_
        refine wm_goto 113 (by decide +kernel : decode cX1_addTick 216 = .ok (.goto (-103), 3)) (by decide) ?_
        refine wm_mask [true, true, true, false, false, false] [some _, some _, some _, none, none, none] rfl ?_
        exact ih _ _ H
      · replace H := H.2 c33
        refine wm_aload_n 3 148 (by decide +kernel) rfl rfl ?_
        refine wm_geti 0 1 151 fl_RX1_128 (by decide +kernel) rfl (E_ln (W_ln o28).1 (vp_in_lt o29)) rfl ?_
        refine wm_aload_n 0 152 (by decide +kernel) rfl rfl ?_
        refine wm_geti 1 1 155 fl_RX1_46 (by decide +kernel) rfl (by decide +kernel) rfl ?_
        refine wm_icmp_eq 158 213 (by decide +kernel : decode cX1_addTick 155 = .ok (.if_icmp .eq 58, 3)) (by decide) rfl (fun c35 => ?_) (fun c35 => ?_)
        · replace H := H.1 c35
          replace H := H _ rfl
          refine wm_iinc 2 (_ + 1) 216 [some _, some _, some _, some _, some _, none] (by decide +kernel : decode cX1_addTick 213 = .ok (.iinc 2 1, 3)) rfl (by decide +kernel) rfl (ofI_eq (by decide +kernel)) (okS_spec rfl) rfl ?_
          refine wm_goto 113 (by decide +kernel : decode cX1_addTick 216 = .ok (.goto (-103), 3)) (by decide) ?_
          refine wm_mask [true, true, true, false, false, false] [some _, some _, some _, none, none, none] rfl ?_
          exact ih _ _ H
        · replace H := H.2 c35
          refine wm_iload_n 2 159 (by decide +kernel) rfl rfl ?_
          refine wm_aload_n 0 160 (by decide +kernel) rfl rfl ?_
          refine wm_geti 1 2 163 fl_RX1_50 (by decide +kernel) rfl (by decide +kernel) rfl ?_
          refine' wm_dia (pcJ := 175) (fun kt kf => wm_icmp_ne 166 173 (by decide +kernel : decode cX1_addTick 163 = .ok (.if_icmp .ne 10, 3)) (by decide) rfl kf kt) ?D38k (fun kj c1 => ?D38t) (fun kj c1 => ?D38f)
          case D38t =>
            refine wm_aload_n 0 167 (by decide +kernel) rfl rfl ?_
            refine wm_geti 1 3 170 fl_RX1_53 (by decide +kernel) rfl (by decide +kernel) rfl ?_
            refine wm_goto 175 (by decide +kernel : decode cX1_addTick 170 = .ok (.goto 5, 3)) (by decide) ?_
            exact kj
          case D38f =>
            refine wm_ldc 2147483647 175 co_RX1_131 (by decide +kernel) rfl ?_
            exact kj
          case D38k =>
            replace H := H _ rfl
            refine wm_istore 5 177 [some _, some _, some _, some _, some _, some _] (by decide +kernel) rfl (by decide +kernel) (okS_spec rfl) rfl ?_
            refine wm_aload_n 0 178 (by decide +kernel) rfl rfl ?_
            refine wm_aload_n 0 179 (by decide +kernel) rfl rfl ?_
            refine wm_aload_n 3 180 (by decide +kernel) rfl rfl ?_
            refine wm_geti 0 1 183 fl_RX1_128 (by decide +kernel) rfl (E_ln (W_ln o28).1 (vp_in_lt o29)) rfl ?_
            refine wm_iload 4 185 (by decide +kernel) rfl rfl ?_
            refine wm_callVi mX1_node 2 1 [_, _] [_] _ _ 188 mo_X1_node np_X1_node ml_RX1_95 im_X1_node se_X1_node (by decide +kernel) (by decide +kernel) rfl rfl rfl (Nat.le_of_ble_eq_true rfl) (by decide +kernel) rfl (Nat.le_of_ble_eq_true rfl) _ (ent_pad 0 rfl) (l_X1_node g _ _ _ _ H) (fun v41 h40 H hzv41 => ?_)
            refine wm_aload_n 0 189 (by decide +kernel) rfl rfl ?_
            refine wm_aload_n 3 190 (by decide +kernel) rfl rfl ?_
            refine wm_geti 0 2 193 fl_RX1_132 (by decide +kernel) rfl (E_ln (W_ln o28).1 (vp_in_lt o29)) rfl ?_
            refine wm_iload_n 1 194 (by decide +kernel) rfl rfl ?_
            refine wm_callVi mX1_node 2 1 [_, _] [_, _] _ _ 197 mo_X1_node np_X1_node ml_RX1_95 im_X1_node se_X1_node (by decide +kernel) (by decide +kernel) rfl rfl rfl (Nat.le_of_ble_eq_true rfl) (by decide +kernel) rfl (Nat.le_of_ble_eq_true rfl) _ (ent_pad 0 rfl) (l_X1_node g _ _ _ _ H) (fun v43 h42 H hzv43 => ?_)
            refine wm_aload_n 0 198 (by decide +kernel) rfl rfl ?_
            obtain ⟨o44, H⟩ := H
            refine wm_getw 1 0 201 fl_RX1_42 (by decide +kernel) rfl (by decide +kernel) rfl (by decide) o44 ?_
            refine wm_iload_n 2 202 (by decide +kernel) rfl rfl ?_
            refine wm_iload 4 204 (by decide +kernel) rfl rfl ?_
            refine wm_iload 5 206 (by decide +kernel) rfl rfl ?_
            refine wm_callVi mX6_roomAhead 3 6 [_, _, _] [_, _, _] _ _ 209 mo_X6_roomAhead np_X6_roomAhead ml_RX1_135 im_X6_roomAhead se_X6_roomAhead (by decide +kernel) (by decide +kernel) rfl rfl rfl (Nat.le_of_ble_eq_true rfl) o44 rfl (Nat.le_of_ble_eq_true rfl) _ (ent_pad 1 rfl) (l_X6_roomAhead g _ _ _ _ o44 _ _ H) (fun v46 h45 H hzv46 => ?_)
            refine wm_iload_n 2 210 (by decide +kernel) rfl rfl ?_
            refine wm_callVv mX1_addArc 4 1 [_, _, _, _] [] _ _ 213 mo_X1_addArc np_X1_addArc ml_RX1_98 im_X1_addArc se_X1_addArc (by decide +kernel) (by decide +kernel) rfl rfl rfl (Nat.le_of_ble_eq_true rfl) (by decide +kernel) rfl (Nat.le_of_ble_eq_true rfl) _ (ent_pad 0 rfl) (l_X1_addArc g _ _ _ _ _ _ H) (fun h47 H => ?_)
            replace H := H _ rfl
            refine wm_iinc 2 (_ + 1) 216 [some _, some _, some _, some _, some _, some _] (by decide +kernel : decode cX1_addTick 213 = .ok (.iinc 2 1, 3)) rfl (by decide +kernel) rfl (ofI_eq (by decide +kernel)) (okS_spec rfl) rfl ?_
            refine wm_goto 113 (by decide +kernel : decode cX1_addTick 216 = .ok (.goto (-103), 3)) (by decide) ?_
            refine wm_mask [true, true, true, false, false, false] [some _, some _, some _, none, none, none] rfl ?_
            exact ih _ _ H
set_option maxRecDepth 20000 in
theorem l_X1_addTick (g : GE) (x1 : Int32)  (h : HP) (Q : HP → Prop) (H : f_X1_addTick x1 h Q) : Wm g mX1_addTick 0 [some (.ref 88), some (.int x1), none, none, none, none] [] h (qv Q) := by
  unfold f_X1_addTick at H
  refine wm_iconst 0 1 (by decide +kernel : decode cX1_addTick 0 = .ok (.iconst 0, 1)) rfl (by decide +kernel) ?_
  refine wm_istore_n 2 2 [some _, some _, some _, none, none, none] (by decide +kernel) rfl (by decide +kernel) (okS_spec rfl) rfl ?_
  obtain ⟨n50, H⟩ := H
  refine l_X1_addTick_L2 g _ _ _ (fun h25 H => ?_) _ _ _ H
  · skip
    refine wm_iconst 0 112 (by decide +kernel : decode cX1_addTick 111 = .ok (.iconst 0, 1)) rfl (by decide +kernel) ?_
    refine wm_istore_n 2 113 [some _, some _, some _, none, none, none] (by decide +kernel) rfl (by decide +kernel) (okS_spec rfl) rfl ?_
    obtain ⟨n49, H⟩ := H
    refine l_X1_addTick_L113 g _ _  _ _ _ H
def f_X1_findLevels_J141 (x1 : Int32) (x2 : Int32) (x3 : Int32) (x4 : Int32) (x5 : Int32) (k71 : Int32 → Int32 → Int32 → HP → Prop) (Q : Int32 → HP → Prop) (h : HP) : Prop :=
  vp_in x4 1068 ∧
  ∀ x4_21 : Int32, x4_21 = (gi h 90 (ix x4)) →
  ∀ x5_22 : Int32, x5_22 = (x5 + 1) →
  k71 x1 x4_21 x5_22 h
def f_X1_findLevels_L71 (x2 : Int32) (x3 : Int32) (k156 : Int32 → HP → Prop) (Q : Int32 → HP → Prop) : Nat → Int32 → Int32 → Int32 → HP → Prop
  | 0, _, _, _, _ => False
  | n + 1, x1, x4, x5, h =>
    (((1068 ≤ x5) →
      k156 x1 h) ∧
     (¬ (1068 ≤ x5) →
      (((x4 < 0) →
        k156 x1 h) ∧
       (¬ (x4 < 0) →
        vp_in x4 1068 ∧
        ∀ x6_17 : Int32, x6_17 = (gi h 91 (ix x4)) →
        vp_in (x4 ^^^ 1) 1068 ∧
        ((((gi h 92 (ix (x4 ^^^ 1))) ≤ 0) →
          f_X1_findLevels_J141 x1 x2 x3 x4 x5 (f_X1_findLevels_L71 x2 x3 k156 Q n) Q h) ∧
         (¬ ((gi h 92 (ix (x4 ^^^ 1))) ≤ 0) →
          vp_in x6_17 152 ∧
          (((0 ≤ (gi h 94 (ix x6_17))) →
            f_X1_findLevels_J141 x1 x2 x3 x4 x5 (f_X1_findLevels_L71 x2 x3 k156 Q n) Q h) ∧
           (¬ (0 ≤ (gi h 94 (ix x6_17))) →
            vp_in x3 152 ∧
            vp_in x6_17 152 ∧
            ∀ h27 : HP, h27 = si h 94 (ix x6_17) ((gi h 94 (ix x3)) + 1) →
            vp_in x1 152 ∧
            ∀ h29 : HP, h29 = si h27 97 (ix x1) x6_17 →
            ∀ x1_30 : Int32, x1_30 = (x1 + 1) →
            f_X1_findLevels_J141 x1_30 x2 x3 x4 x5 (f_X1_findLevels_L71 x2 x3 k156 Q n) Q h29))))))))
def f_X1_findLevels_L30  (k162 : HP → Prop) (Q : Int32 → HP → Prop) : Nat → Int32 → Int32 → HP → Prop
  | 0, _, _, _ => False
  | n + 1, x1, x2, h =>
    (((x1 ≤ x2) →
      k162 h) ∧
     (¬ (x1 ≤ x2) →
      (((152 ≤ x2) →
        k162 h) ∧
       (¬ (152 ≤ x2) →
        vp_in 151 152 ∧
        (((0 ≤ (gi h 94 (ix 151))) →
          k162 h) ∧
         (¬ (0 ≤ (gi h 94 (ix 151))) →
          vp_in x2 152 ∧
          ∀ x3_11 : Int32, x3_11 = (gi h 97 (ix x2)) →
          vp_in x3_11 152 ∧
          ∀ x4_13 : Int32, x4_13 = (gi h 89 (ix x3_11)) →
          ∃ n34, f_X1_findLevels_L71 x2 x3_11
            (fun x1_31 h32 =>
              ∀ x2_33 : Int32, x2_33 = (x2 + 1) →
              f_X1_findLevels_L30 k162 Q n x1_31 x2_33 h32)
            Q n34 x1 x4_13 0 h))))))
def f_X1_findLevels_J162   (Q : Int32 → HP → Prop) (h : HP) : Prop :=
  vp_in 151 152 ∧
  Q (if (gi h 94 (ix 151)) < 0 then (0 : Int32) else 1) h
def f_X1_findLevels  (h : HP) (Q : Int32 → HP → Prop) : Prop :=
  f_J7_fill_53178 94 (-1 : Int32) h (fun h1 =>
  vp_in 150 152 ∧
  ∀ h3 : HP, h3 = si h1 94 (ix 150) 0 →
  vp_in 0 152 ∧
  ∀ h5 : HP, h5 = si h3 97 (ix 0) 150 →
  ∃ n39, f_X1_findLevels_L30 
    (fun h35 =>
      f_X1_findLevels_J162   Q h35)
    Q n39 1 0 h5)
set_option maxRecDepth 20000 in
theorem l_X1_findLevels_J141 (g : GE) (x1 : Int32) (x2 : Int32) (x3 : Int32) (x4 : Int32) (x5 : Int32)  (k71 : Int32 → Int32 → Int32 → HP → Prop) (Q : Int32 → HP → Prop) (hk71 : ∀ (x1 : Int32) (x4 : Int32) (x5 : Int32) (h : HP), k71 x1 x4 x5 h → Wm g mX1_findLevels 71 [some (.ref 88), some (.int x1), some (.int x2), some (.int x3), some (.int x4), some (.int x5), none] [] h (qi Q)) (h : HP) (H : f_X1_findLevels_J141 x1 x2 x3 x4 x5 k71 Q h) : Wm g mX1_findLevels 141 [some (.ref 88), some (.int x1), some (.int x2), some (.int x3), some (.int x4), some (.int x5), none] [] h (qi Q) := by
  unfold f_X1_findLevels_J141 at H
  refine wm_aload_n 0 142 (by decide +kernel) rfl rfl ?_
  refine wm_getr 1 8 2 90 145 fl_RX1_15 (by decide +kernel) rfl (by decide +kernel) rfl rfl (by decide) ?_
  refine wm_iload 4 147 (by decide +kernel) rfl rfl ?_
  obtain ⟨o20, H⟩ := H
  refine wm_iald 1068 148 (by decide +kernel) rfl (by decide +kernel) (by decide +kernel) o20 ?_
  replace H := H _ rfl
  refine wm_istore 4 150 [some _, some _, some _, some _, some _, some _, none] (by decide +kernel) rfl (by decide +kernel) (okS_spec rfl) rfl ?_
  replace H := H _ rfl
  refine wm_iinc 5 (_ + 1) 153 [some _, some _, some _, some _, some _, some _, none] (by decide +kernel : decode cX1_findLevels 150 = .ok (.iinc 5 1, 3)) rfl (by decide +kernel) rfl (ofI_eq (by decide +kernel)) (okS_spec rfl) rfl ?_
  refine wm_goto 71 (by decide +kernel : decode cX1_findLevels 153 = .ok (.goto (-82), 3)) (by decide) ?_
  exact hk71 _ _ _ _ H
set_option maxRecDepth 20000 in
theorem l_X1_findLevels_L71 (g : GE) (x2 : Int32) (x3 : Int32)  (k156 : Int32 → HP → Prop) (Q : Int32 → HP → Prop) (hk156 : ∀ (x1 : Int32) (h : HP), k156 x1 h → Wm g mX1_findLevels 156 [some (.ref 88), some (.int x1), some (.int x2), none, none, none, none] [] h (qi Q)) : ∀ (n : Nat) (x1 : Int32) (x4 : Int32) (x5 : Int32) (h : HP), f_X1_findLevels_L71 x2 x3 k156 Q n x1 x4 x5 h → Wm g mX1_findLevels 71 [some (.ref 88), some (.int x1), some (.int x2), some (.int x3), some (.int x4), some (.int x5), none] [] h (qi Q) := by
  intro n
  induction n with
  | zero => intro x1 x4 x5 h H; exact H.elim
  | succ n ih =>
    intro x1 x4 x5 h H
    unfold f_X1_findLevels_L71 at H
    refine wm_iload 5 73 (by decide +kernel) rfl rfl ?_
    refine wm_sipush 1068 76 (by decide +kernel : decode cX1_findLevels 73 = .ok (.sipush 1068, 3)) rfl (by decide +kernel) ?_
    refine wm_icmp_ge 79 156 (by decide +kernel : decode cX1_findLevels 76 = .ok (.if_icmp .ge 80, 3)) (by decide) rfl (fun c14 => ?_) (fun c14 => ?_)
    · replace H := H.1 c14
      refine wm_mask [true, true, true, false, false, false, false] [some _, some _, some _, none, none, none, none] rfl ?_
      exact hk156 _ _ H
    · replace H := H.2 c14
      refine wm_iload 4 81 (by decide +kernel) rfl rfl ?_
      refine wm_if_lt 84 156 (by decide +kernel : decode cX1_findLevels 81 = .ok (.ifCond .lt 75, 3)) (by decide) rfl (fun c15 => ?_) (fun c15 => ?_)
      · replace H := H.1 c15
        refine wm_mask [true, true, true, false, false, false, false] [some _, some _, some _, none, none, none, none] rfl ?_
        exact hk156 _ _ H
      · replace H := H.2 c15
        refine wm_aload_n 0 85 (by decide +kernel) rfl rfl ?_
        refine wm_getr 1 9 3 91 88 fl_RX1_18 (by decide +kernel) rfl (by decide +kernel) rfl rfl (by decide) ?_
        refine wm_iload 4 90 (by decide +kernel) rfl rfl ?_
        obtain ⟨o16, H⟩ := H
        refine wm_iald 1068 91 (by decide +kernel) rfl (by decide +kernel) (by decide +kernel) o16 ?_
        replace H := H _ rfl
        refine wm_istore 6 93 [some _, some _, some _, some _, some _, some _, some _] (by decide +kernel) rfl (by decide +kernel) (okS_spec rfl) rfl ?_
        refine wm_aload_n 0 94 (by decide +kernel) rfl rfl ?_
        refine wm_getr 1 10 4 92 97 fl_RX1_21 (by decide +kernel) rfl (by decide +kernel) rfl rfl (by decide) ?_
        refine wm_iload 4 99 (by decide +kernel) rfl rfl ?_
        refine wm_iconst 1 100 (by decide +kernel : decode cX1_findLevels 99 = .ok (.iconst 1, 1)) rfl (by decide +kernel) ?_
        refine wm_ixor 101 (by decide +kernel) rfl ?_
        obtain ⟨o18, H⟩ := H
        refine wm_iald 1068 102 (by decide +kernel) rfl (by decide +kernel) (by decide +kernel) o18 ?_
        refine wm_if_le 105 141 (by decide +kernel : decode cX1_findLevels 102 = .ok (.ifCond .le 39, 3)) (by decide) rfl (fun c19 => ?_) (fun c19 => ?_)
        · replace H := H.1 c19
          refine wm_mask [true, true, true, true, true, true, false] [some _, some _, some _, some _, some _, some _, none] rfl ?_
          exact l_X1_findLevels_J141 g _ _ _ _ _ _ _ (ih) _ H
        · replace H := H.2 c19
          refine wm_aload_n 0 106 (by decide +kernel) rfl rfl ?_
          refine wm_getr 1 12 6 94 109 fl_RX1_27 (by decide +kernel) rfl (by decide +kernel) rfl rfl (by decide) ?_
          refine wm_iload 6 111 (by decide +kernel) rfl rfl ?_
          obtain ⟨o23, H⟩ := H
          refine wm_iald 152 112 (by decide +kernel) rfl (by decide +kernel) (by decide +kernel) o23 ?_
          refine wm_if_ge 115 141 (by decide +kernel : decode cX1_findLevels 112 = .ok (.ifCond .ge 29, 3)) (by decide) rfl (fun c24 => ?_) (fun c24 => ?_)
          · replace H := H.1 c24
            refine wm_mask [true, true, true, true, true, true, false] [some _, some _, some _, some _, some _, some _, none] rfl ?_
            exact l_X1_findLevels_J141 g _ _ _ _ _ _ _ (ih) _ H
          · replace H := H.2 c24
            refine wm_aload_n 0 116 (by decide +kernel) rfl rfl ?_
            refine wm_getr 1 12 6 94 119 fl_RX1_27 (by decide +kernel) rfl (by decide +kernel) rfl rfl (by decide) ?_
            refine wm_iload 6 121 (by decide +kernel) rfl rfl ?_
            refine wm_aload_n 0 122 (by decide +kernel) rfl rfl ?_
            refine wm_getr 1 12 6 94 125 fl_RX1_27 (by decide +kernel) rfl (by decide +kernel) rfl rfl (by decide) ?_
            refine wm_iload_n 3 126 (by decide +kernel) rfl rfl ?_
            obtain ⟨o25, H⟩ := H
            refine wm_iald 152 127 (by decide +kernel) rfl (by decide +kernel) (by decide +kernel) o25 ?_
            refine wm_iconst 1 128 (by decide +kernel : decode cX1_findLevels 127 = .ok (.iconst 1, 1)) rfl (by decide +kernel) ?_
            refine wm_iadd 129 (by decide +kernel) rfl ?_
            obtain ⟨o26, H⟩ := H
            replace H := H _ rfl
            refine wm_iast 152 130 (by decide +kernel) rfl (by decide +kernel) (by decide +kernel) o26 ?_
            refine wm_aload_n 0 131 (by decide +kernel) rfl rfl ?_
            refine wm_getr 1 15 9 97 134 fl_RX1_36 (by decide +kernel) rfl (by decide +kernel) rfl rfl (by decide) ?_
            refine wm_iload_n 1 135 (by decide +kernel) rfl rfl ?_
            refine wm_iload 6 137 (by decide +kernel) rfl rfl ?_
            obtain ⟨o28, H⟩ := H
            replace H := H _ rfl
            refine wm_iast 152 138 (by decide +kernel) rfl (by decide +kernel) (by decide +kernel) o28 ?_
            replace H := H _ rfl
            refine wm_iinc 1 (_ + 1) 141 [some _, some _, some _, some _, some _, some _, some _] (by decide +kernel : decode cX1_findLevels 138 = .ok (.iinc 1 1, 3)) rfl (by decide +kernel) rfl (ofI_eq (by decide +kernel)) (okS_spec rfl) rfl ?_
            refine wm_mask [true, true, true, true, true, true, false] [some _, some _, some _, some _, some _, some _, none] rfl ?_
            exact l_X1_findLevels_J141 g _ _ _ _ _ _ _ (ih) _ H
set_option maxRecDepth 20000 in
theorem l_X1_findLevels_L30 (g : GE)   (k162 : HP → Prop) (Q : Int32 → HP → Prop) (hk162 : ∀  (h : HP), k162  h → Wm g mX1_findLevels 162 [some (.ref 88), none, none, none, none, none, none] [] h (qi Q)) : ∀ (n : Nat) (x1 : Int32) (x2 : Int32) (h : HP), f_X1_findLevels_L30 k162 Q n x1 x2 h → Wm g mX1_findLevels 30 [some (.ref 88), some (.int x1), some (.int x2), none, none, none, none] [] h (qi Q) := by
  intro n
  induction n with
  | zero => intro x1 x2 h H; exact H.elim
  | succ n ih =>
    intro x1 x2 h H
    unfold f_X1_findLevels_L30 at H
    refine wm_iload_n 2 31 (by decide +kernel) rfl rfl ?_
    refine wm_iload_n 1 32 (by decide +kernel) rfl rfl ?_
    refine wm_icmp_ge 35 162 (by decide +kernel : decode cX1_findLevels 32 = .ok (.if_icmp .ge 130, 3)) (by decide) rfl (fun c6 => ?_) (fun c6 => ?_)
    · replace H := H.1 c6
      refine wm_mask [true, false, false, false, false, false, false] [some _, none, none, none, none, none, none] rfl ?_
      exact hk162 _ H
    · replace H := H.2 c6
      refine wm_iload_n 2 36 (by decide +kernel) rfl rfl ?_
      refine wm_sipush 152 39 (by decide +kernel : decode cX1_findLevels 36 = .ok (.sipush 152, 3)) rfl (by decide +kernel) ?_
      refine wm_icmp_ge 42 162 (by decide +kernel : decode cX1_findLevels 39 = .ok (.if_icmp .ge 123, 3)) (by decide) rfl (fun c7 => ?_) (fun c7 => ?_)
      · replace H := H.1 c7
        refine wm_mask [true, false, false, false, false, false, false] [some _, none, none, none, none, none, none] rfl ?_
        exact hk162 _ H
      · replace H := H.2 c7
        refine wm_aload_n 0 43 (by decide +kernel) rfl rfl ?_
        refine wm_getr 1 12 6 94 46 fl_RX1_27 (by decide +kernel) rfl (by decide +kernel) rfl rfl (by decide) ?_
        refine wm_sipush 151 49 (by decide +kernel : decode cX1_findLevels 46 = .ok (.sipush 151, 3)) rfl (by decide +kernel) ?_
        obtain ⟨o8, H⟩ := H
        refine wm_iald 152 50 (by decide +kernel) rfl (by decide +kernel) (by decide +kernel) o8 ?_
        refine wm_if_ge 53 162 (by decide +kernel : decode cX1_findLevels 50 = .ok (.ifCond .ge 112, 3)) (by decide) rfl (fun c9 => ?_) (fun c9 => ?_)
        · replace H := H.1 c9
          refine wm_mask [true, false, false, false, false, false, false] [some _, none, none, none, none, none, none] rfl ?_
          exact hk162 _ H
        · replace H := H.2 c9
          refine wm_aload_n 0 54 (by decide +kernel) rfl rfl ?_
          refine wm_getr 1 15 9 97 57 fl_RX1_36 (by decide +kernel) rfl (by decide +kernel) rfl rfl (by decide) ?_
          refine wm_iload_n 2 58 (by decide +kernel) rfl rfl ?_
          obtain ⟨o10, H⟩ := H
          refine wm_iald 152 59 (by decide +kernel) rfl (by decide +kernel) (by decide +kernel) o10 ?_
          replace H := H _ rfl
          refine wm_istore_n 3 60 [some _, some _, some _, some _, none, none, none] (by decide +kernel) rfl (by decide +kernel) (okS_spec rfl) rfl ?_
          refine wm_aload_n 0 61 (by decide +kernel) rfl rfl ?_
          refine wm_getr 1 7 1 89 64 fl_RX1_11 (by decide +kernel) rfl (by decide +kernel) rfl rfl (by decide) ?_
          refine wm_iload_n 3 65 (by decide +kernel) rfl rfl ?_
          obtain ⟨o12, H⟩ := H
          refine wm_iald 152 66 (by decide +kernel) rfl (by decide +kernel) (by decide +kernel) o12 ?_
          replace H := H _ rfl
          refine wm_istore 4 68 [some _, some _, some _, some _, some _, none, none] (by decide +kernel) rfl (by decide +kernel) (okS_spec rfl) rfl ?_
          refine wm_iconst 0 69 (by decide +kernel : decode cX1_findLevels 68 = .ok (.iconst 0, 1)) rfl (by decide +kernel) ?_
          refine wm_istore 5 71 [some _, some _, some _, some _, some _, some _, none] (by decide +kernel) rfl (by decide +kernel) (okS_spec rfl) rfl ?_
          obtain ⟨n34, H⟩ := H
          refine l_X1_findLevels_L71 g _ _ _ _ (fun x1_31 h32 H => ?_) _ _ _ _ _ H
          · skip
            replace H := H _ rfl
            refine wm_iinc 2 (_ + 1) 159 [some _, some _, some _, none, none, none, none] (by decide +kernel : decode cX1_findLevels 156 = .ok (.iinc 2 1, 3)) rfl (by decide +kernel) rfl (ofI_eq (by decide +kernel)) (okS_spec rfl) rfl ?_
            refine wm_goto 30 (by decide +kernel : decode cX1_findLevels 159 = .ok (.goto (-129), 3)) (by decide) ?_
            exact ih _ _ _ H
set_option maxRecDepth 20000 in
theorem l_X1_findLevels_J162 (g : GE)    (Q : Int32 → HP → Prop)  (h : HP) (H : f_X1_findLevels_J162   Q h) : Wm g mX1_findLevels 162 [some (.ref 88), none, none, none, none, none, none] [] h (qi Q) := by
  unfold f_X1_findLevels_J162 at H
  refine wm_aload_n 0 163 (by decide +kernel) rfl rfl ?_
  refine wm_getr 1 12 6 94 166 fl_RX1_27 (by decide +kernel) rfl (by decide +kernel) rfl rfl (by decide) ?_
  refine wm_sipush 151 169 (by decide +kernel : decode cX1_findLevels 166 = .ok (.sipush 151, 3)) rfl (by decide +kernel) ?_
  obtain ⟨o36, H⟩ := H
  refine wm_iald 152 170 (by decide +kernel) rfl (by decide +kernel) (by decide +kernel) o36 ?_
  refine' wm_dia (pcJ := 178) (fun kt kf => wm_if_lt 173 177 (by decide +kernel : decode cX1_findLevels 170 = .ok (.ifCond .lt 7, 3)) (by decide) rfl kt kf) ?D38k (fun kj c1 => ?D38t) (fun kj c1 => ?D38f)
  case D38t =>
    refine wm_iconst 0 178 (by decide +kernel : decode cX1_findLevels 177 = .ok (.iconst 0, 1)) rfl (by decide +kernel) ?_
    exact kj
  case D38f =>
    refine wm_iconst 1 174 (by decide +kernel : decode cX1_findLevels 173 = .ok (.iconst 1, 1)) rfl (by decide +kernel) ?_
    refine wm_goto 178 (by decide +kernel : decode cX1_findLevels 174 = .ok (.goto 4, 3)) (by decide) ?_
    exact kj
  case D38k =>
    exact wm_iret (by decide +kernel) ⟨.boolean, rfl, (nb_ite (by decide +kernel) (by decide +kernel))⟩ H
set_option maxRecDepth 20000 in
theorem l_X1_findLevels (g : GE)   (h : HP) (Q : Int32 → HP → Prop) (H : f_X1_findLevels  h Q) : Wm g mX1_findLevels 0 [some (.ref 88), none, none, none, none, none, none] [] h (qi Q) := by
  unfold f_X1_findLevels at H
  refine wm_aload_n 0 1 (by decide +kernel) rfl rfl ?_
  refine wm_getr 1 12 6 94 4 fl_RX1_27 (by decide +kernel) rfl (by decide +kernel) rfl rfl (by decide) ?_
  refine wm_iconst (-1) 5 (by decide +kernel : decode cX1_findLevels 4 = .ok (.iconst (-1), 1)) rfl (by decide +kernel) ?_
  refine wm_callSv mJ7_fill_53178 2 [_, _] [] _ _ 8 mo_J7_fill_53178 np_J7_fill_53178 ml_RX1_65 sc_J7_fill_53178 (by decide +kernel) (by decide +kernel) rfl rfl rfl (Nat.le_of_ble_eq_true rfl) (Nat.le_of_ble_eq_true rfl) _ (ent_pad 2 rfl) (l_J7_fill_53178 g _ _ (by decide +kernel) _ _ H) (fun h1 H => ?_)
  refine wm_aload_n 0 9 (by decide +kernel) rfl rfl ?_
  refine wm_getr 1 12 6 94 12 fl_RX1_27 (by decide +kernel) rfl (by decide +kernel) rfl rfl (by decide) ?_
  refine wm_sipush 150 15 (by decide +kernel : decode cX1_findLevels 12 = .ok (.sipush 150, 3)) rfl (by decide +kernel) ?_
  refine wm_iconst 0 16 (by decide +kernel : decode cX1_findLevels 15 = .ok (.iconst 0, 1)) rfl (by decide +kernel) ?_
  obtain ⟨o2, H⟩ := H
  replace H := H _ rfl
  refine wm_iast 152 17 (by decide +kernel) rfl (by decide +kernel) (by decide +kernel) o2 ?_
  refine wm_aload_n 0 18 (by decide +kernel) rfl rfl ?_
  refine wm_getr 1 15 9 97 21 fl_RX1_36 (by decide +kernel) rfl (by decide +kernel) rfl rfl (by decide) ?_
  refine wm_iconst 0 22 (by decide +kernel : decode cX1_findLevels 21 = .ok (.iconst 0, 1)) rfl (by decide +kernel) ?_
  refine wm_sipush 150 25 (by decide +kernel : decode cX1_findLevels 22 = .ok (.sipush 150, 3)) rfl (by decide +kernel) ?_
  obtain ⟨o4, H⟩ := H
  replace H := H _ rfl
  refine wm_iast 152 26 (by decide +kernel) rfl (by decide +kernel) (by decide +kernel) o4 ?_
  refine wm_iconst 1 27 (by decide +kernel : decode cX1_findLevels 26 = .ok (.iconst 1, 1)) rfl (by decide +kernel) ?_
  refine wm_istore_n 1 28 [some _, some _, none, none, none, none, none] (by decide +kernel) rfl (by decide +kernel) (okS_spec rfl) rfl ?_
  refine wm_iconst 0 29 (by decide +kernel : decode cX1_findLevels 28 = .ok (.iconst 0, 1)) rfl (by decide +kernel) ?_
  refine wm_istore_n 2 30 [some _, some _, some _, none, none, none, none] (by decide +kernel) rfl (by decide +kernel) (okS_spec rfl) rfl ?_
  obtain ⟨n39, H⟩ := H
  refine l_X1_findLevels_L30 g _ _ (fun h35 H => ?_) _ _ _ _ H
  · skip
    exact l_X1_findLevels_J162 g _  _ H
def f_X1_push_L5 (x1 : Int32) (k32 : Int32 → HP → Prop) (Q : Int32 → HP → Prop) : Nat → Int32 → Int32 → HP → Prop
  | 0, _, _, _ => False
  | n + 1, x2, x3, h =>
    (((x1 ≤ x3) →
      k32 x2 h) ∧
     (¬ (x1 ≤ x3) →
      vp_in x3 152 ∧
      vp_in (gi h 96 (ix x3)) 1068 ∧
      ∀ x2_4 : Int32, x2_4 = (if (gi h 92 (ix (gi h 96 (ix x3)))) < x2 then (gi h 92 (ix (gi h 96 (ix x3)))) else x2) →
      ∀ x3_5 : Int32, x3_5 = (x3 + 1) →
      f_X1_push_L5 x1 k32 Q n x2_4 x3_5 h))
def f_X1_push_L39 (x2 : Int32)  (Q : Int32 → HP → Prop) : Nat → Int32 → Int32 → HP → Prop
  | 0, _, _, _ => False
  | n + 1, x3, x4, h =>
    (((x4 < 0) →
      ∀ h10 : HP, h10 = si h 88 5 ((gi h 88 5) + x2) →
      Q x3 h10) ∧
     (¬ (x4 < 0) →
      vp_in x4 152 ∧
      vp_in (gi h 96 (ix x4)) 1068 ∧
      vp_in (gi h 96 (ix x4)) 1068 ∧
      ∀ h14 : HP, h14 = si h 92 (ix (gi h 96 (ix x4))) ((gi h 92 (ix (gi h 96 (ix x4)))) - x2) →
      vp_in x4 152 ∧
      vp_in ((gi h14 96 (ix x4)) ^^^ 1) 1068 ∧
      vp_in ((gi h14 96 (ix x4)) ^^^ 1) 1068 ∧
      ∀ h18 : HP, h18 = si h14 92 (ix ((gi h14 96 (ix x4)) ^^^ 1)) ((gi h14 92 (ix ((gi h14 96 (ix x4)) ^^^ 1))) + x2) →
      vp_in x4 152 ∧
      vp_in (gi h18 96 (ix x4)) 1068 ∧
      ((((gi h18 92 (ix (gi h18 96 (ix x4)))) = 0) →
        ∀ x4_23 : Int32, x4_23 = (x4 + (-1)) →
        f_X1_push_L39 x2 Q n x4 x4_23 h18) ∧
       (¬ ((gi h18 92 (ix (gi h18 96 (ix x4)))) = 0) →
        ∀ x4_22 : Int32, x4_22 = (x4 + (-1)) →
        f_X1_push_L39 x2 Q n x3 x4_22 h18))))
def f_X1_push (x1 : Int32) (h : HP) (Q : Int32 → HP → Prop) : Prop :=
  ∃ n25, f_X1_push_L5 x1
    (fun x2_6 h7 =>
      ∀ x4_8 : Int32, x4_8 = (x1 - 1) →
      ∃ n24, f_X1_push_L39 x2_6
        Q n24 0 x4_8 h7)
    Q n25 2147483647 0 h
set_option maxRecDepth 20000 in
theorem l_X1_push_L5 (g : GE) (x1 : Int32)  (k32 : Int32 → HP → Prop) (Q : Int32 → HP → Prop) (hk32 : ∀ (x2 : Int32) (h : HP), k32 x2 h → Wm g mX1_push 32 [some (.ref 88), some (.int x1), some (.int x2), none, none] [] h (qi Q)) : ∀ (n : Nat) (x2 : Int32) (x3 : Int32) (h : HP), f_X1_push_L5 x1 k32 Q n x2 x3 h → Wm g mX1_push 5 [some (.ref 88), some (.int x1), some (.int x2), some (.int x3), none] [] h (qi Q) := by
  intro n
  induction n with
  | zero => intro x2 x3 h H; exact H.elim
  | succ n ih =>
    intro x2 x3 h H
    unfold f_X1_push_L5 at H
    refine wm_iload_n 3 6 (by decide +kernel) rfl rfl ?_
    refine wm_iload_n 1 7 (by decide +kernel) rfl rfl ?_
    refine wm_icmp_ge 10 32 (by decide +kernel : decode cX1_push 7 = .ok (.if_icmp .ge 25, 3)) (by decide) rfl (fun c1 => ?_) (fun c1 => ?_)
    · replace H := H.1 c1
      refine wm_mask [true, true, true, false, false] [some _, some _, some _, none, none] rfl ?_
      exact hk32 _ _ H
    · replace H := H.2 c1
      refine wm_iload_n 2 11 (by decide +kernel) rfl rfl ?_
      refine wm_aload_n 0 12 (by decide +kernel) rfl rfl ?_
      refine wm_getr 1 10 4 92 15 fl_RX1_21 (by decide +kernel) rfl (by decide +kernel) rfl rfl (by decide) ?_
      refine wm_aload_n 0 16 (by decide +kernel) rfl rfl ?_
      refine wm_getr 1 14 8 96 19 fl_RX1_33 (by decide +kernel) rfl (by decide +kernel) rfl rfl (by decide) ?_
      refine wm_iload_n 3 20 (by decide +kernel) rfl rfl ?_
      obtain ⟨o2, H⟩ := H
      refine wm_iald 152 21 (by decide +kernel) rfl (by decide +kernel) (by decide +kernel) o2 ?_
      obtain ⟨o3, H⟩ := H
      refine wm_iald 1068 22 (by decide +kernel) rfl (by decide +kernel) (by decide +kernel) o3 ?_
      refine wm_min 25 ml_RX1_160 st_min in_Math cd_min (by decide +kernel) (Nat.le_of_ble_eq_true rfl) (by decide +kernel) rfl ?_
      replace H := H _ rfl
      refine wm_istore_n 2 26 [some _, some _, some _, some _, none] (by decide +kernel) rfl (by decide +kernel) (okS_spec rfl) rfl ?_
      replace H := H _ rfl
      refine wm_iinc 3 (_ + 1) 29 [some _, some _, some _, some _, none] (by decide +kernel : decode cX1_push 26 = .ok (.iinc 3 1, 3)) rfl (by decide +kernel) rfl (ofI_eq (by decide +kernel)) (okS_spec rfl) rfl ?_
      refine wm_goto 5 (by decide +kernel : decode cX1_push 29 = .ok (.goto (-24), 3)) (by decide) ?_
      exact ih _ _ _ H
set_option maxRecDepth 20000 in
theorem l_X1_push_L39 (g : GE) (x2 : Int32)   (Q : Int32 → HP → Prop)  : ∀ (n : Nat) (x3 : Int32) (x4 : Int32) (h : HP), f_X1_push_L39 x2 Q n x3 x4 h → Wm g mX1_push 39 [some (.ref 88), none, some (.int x2), some (.int x3), some (.int x4)] [] h (qi Q) := by
  intro n
  induction n with
  | zero => intro x3 x4 h H; exact H.elim
  | succ n ih =>
    intro x3 x4 h H
    unfold f_X1_push_L39 at H
    refine wm_iload 4 41 (by decide +kernel) rfl rfl ?_
    refine wm_if_lt 44 102 (by decide +kernel : decode cX1_push 41 = .ok (.ifCond .lt 61, 3)) (by decide) rfl (fun c9 => ?_) (fun c9 => ?_)
    · replace H := H.1 c9
      refine wm_aload_n 0 103 (by decide +kernel) rfl rfl ?_
      refine wm_dup 104 (by decide +kernel) rfl rfl ?_
      refine wm_geti 1 5 107 fl_RX1_59 (by decide +kernel) rfl (by decide +kernel) rfl ?_
      refine wm_iload_n 2 108 (by decide +kernel) rfl rfl ?_
      refine wm_iadd 109 (by decide +kernel) rfl ?_
      replace H := H _ rfl
      refine wm_puti 1 5 112 fl_RX1_59 (by decide +kernel) rfl (by decide +kernel) rfl rfl ⟨rfl, rfl⟩ ?_
      refine wm_iload_n 3 113 (by decide +kernel) rfl rfl ?_
      exact wm_iret (by decide +kernel) ⟨.int, rfl, rfl⟩ H
    · replace H := H.2 c9
      refine wm_aload_n 0 45 (by decide +kernel) rfl rfl ?_
      refine wm_getr 1 10 4 92 48 fl_RX1_21 (by decide +kernel) rfl (by decide +kernel) rfl rfl (by decide) ?_
      refine wm_aload_n 0 49 (by decide +kernel) rfl rfl ?_
      refine wm_getr 1 14 8 96 52 fl_RX1_33 (by decide +kernel) rfl (by decide +kernel) rfl rfl (by decide) ?_
      refine wm_iload 4 54 (by decide +kernel) rfl rfl ?_
      obtain ⟨o11, H⟩ := H
      refine wm_iald 152 55 (by decide +kernel) rfl (by decide +kernel) (by decide +kernel) o11 ?_
      refine wm_dup2 56 (by decide +kernel) rfl rfl rfl ?_
      obtain ⟨o12, H⟩ := H
      refine wm_iald 1068 57 (by decide +kernel) rfl (by decide +kernel) (by decide +kernel) o12 ?_
      refine wm_iload_n 2 58 (by decide +kernel) rfl rfl ?_
      refine wm_isub 59 (by decide +kernel) rfl ?_
      obtain ⟨o13, H⟩ := H
      replace H := H _ rfl
      refine wm_iast 1068 60 (by decide +kernel) rfl (by decide +kernel) (by decide +kernel) o13 ?_
      refine wm_aload_n 0 61 (by decide +kernel) rfl rfl ?_
      refine wm_getr 1 10 4 92 64 fl_RX1_21 (by decide +kernel) rfl (by decide +kernel) rfl rfl (by decide) ?_
      refine wm_aload_n 0 65 (by decide +kernel) rfl rfl ?_
      refine wm_getr 1 14 8 96 68 fl_RX1_33 (by decide +kernel) rfl (by decide +kernel) rfl rfl (by decide) ?_
      refine wm_iload 4 70 (by decide +kernel) rfl rfl ?_
      obtain ⟨o15, H⟩ := H
      refine wm_iald 152 71 (by decide +kernel) rfl (by decide +kernel) (by decide +kernel) o15 ?_
      refine wm_iconst 1 72 (by decide +kernel : decode cX1_push 71 = .ok (.iconst 1, 1)) rfl (by decide +kernel) ?_
      refine wm_ixor 73 (by decide +kernel) rfl ?_
      refine wm_dup2 74 (by decide +kernel) rfl rfl rfl ?_
      obtain ⟨o16, H⟩ := H
      refine wm_iald 1068 75 (by decide +kernel) rfl (by decide +kernel) (by decide +kernel) o16 ?_
      refine wm_iload_n 2 76 (by decide +kernel) rfl rfl ?_
      refine wm_iadd 77 (by decide +kernel) rfl ?_
      obtain ⟨o17, H⟩ := H
      replace H := H _ rfl
      refine wm_iast 1068 78 (by decide +kernel) rfl (by decide +kernel) (by decide +kernel) o17 ?_
      refine wm_aload_n 0 79 (by decide +kernel) rfl rfl ?_
      refine wm_getr 1 10 4 92 82 fl_RX1_21 (by decide +kernel) rfl (by decide +kernel) rfl rfl (by decide) ?_
      refine wm_aload_n 0 83 (by decide +kernel) rfl rfl ?_
      refine wm_getr 1 14 8 96 86 fl_RX1_33 (by decide +kernel) rfl (by decide +kernel) rfl rfl (by decide) ?_
      refine wm_iload 4 88 (by decide +kernel) rfl rfl ?_
      obtain ⟨o19, H⟩ := H
      refine wm_iald 152 89 (by decide +kernel) rfl (by decide +kernel) (by decide +kernel) o19 ?_
      obtain ⟨o20, H⟩ := H
      refine wm_iald 1068 90 (by decide +kernel) rfl (by decide +kernel) (by decide +kernel) o20 ?_
      refine wm_if_ne 93 96 (by decide +kernel : decode cX1_push 90 = .ok (.ifCond .ne 6, 3)) (by decide) rfl (fun c21 => ?_) (fun c21 => ?_)
      · replace H := H.2 c21
        replace H := H _ rfl
        refine wm_iinc 4 (_ + (-1)) 99 [some _, none, some _, some _, some _] (by decide +kernel : decode cX1_push 96 = .ok (.iinc 4 (-1), 3)) rfl (by decide +kernel) rfl (ofI_eq (by decide +kernel)) (okS_spec rfl) rfl ?_
        refine wm_goto 39 (by decide +kernel : decode cX1_push 99 = .ok (.goto (-60), 3)) (by decide) ?_
        exact ih _ _ _ H
      · replace H := H.1 c21
        refine wm_iload 4 95 (by decide +kernel) rfl rfl ?_
        refine wm_istore_n 3 96 [some _, none, some _, some _, some _] (by decide +kernel) rfl (by decide +kernel) (okS_spec rfl) rfl ?_
        replace H := H _ rfl
        refine wm_iinc 4 (_ + (-1)) 99 [some _, none, some _, some _, some _] (by decide +kernel : decode cX1_push 96 = .ok (.iinc 4 (-1), 3)) rfl (by decide +kernel) rfl (ofI_eq (by decide +kernel)) (okS_spec rfl) rfl ?_
        refine wm_goto 39 (by decide +kernel : decode cX1_push 99 = .ok (.goto (-60), 3)) (by decide) ?_
        exact ih _ _ _ H
set_option maxRecDepth 20000 in
theorem l_X1_push (g : GE) (x1 : Int32)  (h : HP) (Q : Int32 → HP → Prop) (H : f_X1_push x1 h Q) : Wm g mX1_push 0 [some (.ref 88), some (.int x1), none, none, none] [] h (qi Q) := by
  unfold f_X1_push at H
  refine wm_ldc 2147483647 2 co_RX1_131 (by decide +kernel) rfl ?_
  refine wm_istore_n 2 3 [some _, some _, some _, none, none] (by decide +kernel) rfl (by decide +kernel) (okS_spec rfl) rfl ?_
  refine wm_iconst 0 4 (by decide +kernel : decode cX1_push 3 = .ok (.iconst 0, 1)) rfl (by decide +kernel) ?_
  refine wm_istore_n 3 5 [some _, some _, some _, some _, none] (by decide +kernel) rfl (by decide +kernel) (okS_spec rfl) rfl ?_
  obtain ⟨n25, H⟩ := H
  refine l_X1_push_L5 g _ _ _ (fun x2_6 h7 H => ?_) _ _ _ _ H
  · skip
    refine wm_iconst 0 33 (by decide +kernel : decode cX1_push 32 = .ok (.iconst 0, 1)) rfl (by decide +kernel) ?_
    refine wm_istore_n 3 34 [some _, some _, some _, some _, none] (by decide +kernel) rfl (by decide +kernel) (okS_spec rfl) rfl ?_
    refine wm_iload_n 1 35 (by decide +kernel) rfl rfl ?_
    refine wm_iconst 1 36 (by decide +kernel : decode cX1_push 35 = .ok (.iconst 1, 1)) rfl (by decide +kernel) ?_
    refine wm_isub 37 (by decide +kernel) rfl ?_
    replace H := H _ rfl
    refine wm_istore 4 39 [some _, some _, some _, some _, some _] (by decide +kernel) rfl (by decide +kernel) (okS_spec rfl) rfl ?_
    obtain ⟨n24, H⟩ := H
    refine wm_mask [true, false, true, true, true] [some _, none, some _, some _, some _] rfl ?_
    refine l_X1_push_L39 g _ _  _ _ _ _ H
def f_X1_leadsDown (x1 : Int32) (x2 : Int32) (h : HP) (Q : Int32 → HP → Prop) : Prop :=
  vp_in x2 1068 ∧
  ((((gi h 92 (ix x2)) ≤ 0) →
    Q 0 h) ∧
   (¬ ((gi h 92 (ix x2)) ≤ 0) →
    vp_in x2 1068 ∧
    vp_in (gi h 91 (ix x2)) 152 ∧
    vp_in x1 152 ∧
    ((((gi h 94 (ix (gi h 91 (ix x2)))) = ((gi h 94 (ix x1)) - 1)) →
      Q 1 h) ∧
     (¬ ((gi h 94 (ix (gi h 91 (ix x2)))) = ((gi h 94 (ix x1)) - 1)) →
      Q 0 h))))
set_option maxRecDepth 20000 in
theorem l_X1_leadsDown (g : GE) (x1 : Int32) (x2 : Int32)  (h : HP) (Q : Int32 → HP → Prop) (H : f_X1_leadsDown x1 x2 h Q) : Wm g mX1_leadsDown 0 [some (.ref 88), some (.int x1), some (.int x2)] [] h (qi Q) := by
  unfold f_X1_leadsDown at H
  refine wm_aload_n 0 1 (by decide +kernel) rfl rfl ?_
  refine wm_getr 1 10 4 92 4 fl_RX1_21 (by decide +kernel) rfl (by decide +kernel) rfl rfl (by decide) ?_
  refine wm_iload_n 2 5 (by decide +kernel) rfl rfl ?_
  obtain ⟨o1, H⟩ := H
  refine wm_iald 1068 6 (by decide +kernel) rfl (by decide +kernel) (by decide +kernel) o1 ?_
  refine wm_if_le 9 35 (by decide +kernel : decode cX1_leadsDown 6 = .ok (.ifCond .le 29, 3)) (by decide) rfl (fun c2 => ?_) (fun c2 => ?_)
  · replace H := H.1 c2
    refine wm_iconst 0 36 (by decide +kernel : decode cX1_leadsDown 35 = .ok (.iconst 0, 1)) rfl (by decide +kernel) ?_
    exact wm_iret (by decide +kernel) ⟨.boolean, rfl, (by decide +kernel)⟩ H
  · replace H := H.2 c2
    refine wm_aload_n 0 10 (by decide +kernel) rfl rfl ?_
    refine wm_getr 1 12 6 94 13 fl_RX1_27 (by decide +kernel) rfl (by decide +kernel) rfl rfl (by decide) ?_
    refine wm_aload_n 0 14 (by decide +kernel) rfl rfl ?_
    refine wm_getr 1 9 3 91 17 fl_RX1_18 (by decide +kernel) rfl (by decide +kernel) rfl rfl (by decide) ?_
    refine wm_iload_n 2 18 (by decide +kernel) rfl rfl ?_
    obtain ⟨o3, H⟩ := H
    refine wm_iald 1068 19 (by decide +kernel) rfl (by decide +kernel) (by decide +kernel) o3 ?_
    obtain ⟨o4, H⟩ := H
    refine wm_iald 152 20 (by decide +kernel) rfl (by decide +kernel) (by decide +kernel) o4 ?_
    refine wm_aload_n 0 21 (by decide +kernel) rfl rfl ?_
    refine wm_getr 1 12 6 94 24 fl_RX1_27 (by decide +kernel) rfl (by decide +kernel) rfl rfl (by decide) ?_
    refine wm_iload_n 1 25 (by decide +kernel) rfl rfl ?_
    obtain ⟨o5, H⟩ := H
    refine wm_iald 152 26 (by decide +kernel) rfl (by decide +kernel) (by decide +kernel) o5 ?_
    refine wm_iconst 1 27 (by decide +kernel : decode cX1_leadsDown 26 = .ok (.iconst 1, 1)) rfl (by decide +kernel) ?_
    refine wm_isub 28 (by decide +kernel) rfl ?_
    refine wm_icmp_ne 31 35 (by decide +kernel : decode cX1_leadsDown 28 = .ok (.if_icmp .ne 7, 3)) (by decide) rfl (fun c6 => ?_) (fun c6 => ?_)
    · replace H := H.2 c6
      refine wm_iconst 0 36 (by decide +kernel : decode cX1_leadsDown 35 = .ok (.iconst 0, 1)) rfl (by decide +kernel) ?_
      exact wm_iret (by decide +kernel) ⟨.boolean, rfl, (by decide +kernel)⟩ H
    · replace H := H.1 c6
      refine wm_iconst 1 32 (by decide +kernel : decode cX1_leadsDown 31 = .ok (.iconst 1, 1)) rfl (by decide +kernel) ?_
      refine wm_goto 36 (by decide +kernel : decode cX1_leadsDown 32 = .ok (.goto 4, 3)) (by decide) ?_
      exact wm_iret (by decide +kernel) ⟨.boolean, rfl, (by decide +kernel)⟩ H
def f_X1_nextDown_L9 (x1 : Int32)  (Q : Int32 → HP → Prop) : Nat → Int32 → Int32 → HP → Prop
  | 0, _, _, _ => False
  | n + 1, x2, x3, h =>
    (((1068 ≤ x3) →
      vp_in x1 152 ∧
      ∀ h5 : HP, h5 = si h 95 (ix x1) x2 →
      Q x2 h5) ∧
     (¬ (1068 ≤ x3) →
      (((x2 < 0) →
        vp_in x1 152 ∧
        ∀ h8 : HP, h8 = si h 95 (ix x1) x2 →
        Q x2 h8) ∧
       (¬ (x2 < 0) →
        f_X1_leadsDown x1 x2 h (fun v10 h9 =>
        (((v10 = 0) →
          vp_in x2 1068 ∧
          ∀ x2_15 : Int32, x2_15 = (gi h9 90 (ix x2)) →
          ∀ x3_16 : Int32, x3_16 = (x3 + 1) →
          f_X1_nextDown_L9 x1 Q n x2_15 x3_16 h9) ∧
         (¬ (v10 = 0) →
          vp_in x1 152 ∧
          ∀ h13 : HP, h13 = si h9 95 (ix x1) x2 →
          Q x2 h13)))))))
def f_X1_nextDown (x1 : Int32) (h : HP) (Q : Int32 → HP → Prop) : Prop :=
  vp_in x1 152 ∧
  ∀ x2_2 : Int32, x2_2 = (gi h 95 (ix x1)) →
  ∃ n17, f_X1_nextDown_L9 x1
    Q n17 x2_2 0 h
set_option maxRecDepth 20000 in
theorem l_X1_nextDown_L9 (g : GE) (x1 : Int32)   (Q : Int32 → HP → Prop)  : ∀ (n : Nat) (x2 : Int32) (x3 : Int32) (h : HP), f_X1_nextDown_L9 x1 Q n x2 x3 h → Wm g mX1_nextDown 9 [some (.ref 88), some (.int x1), some (.int x2), some (.int x3)] [] h (qi Q) := by
  intro n
  induction n with
  | zero => intro x2 x3 h H; exact H.elim
  | succ n ih =>
    intro x2 x3 h H
    unfold f_X1_nextDown_L9 at H
    refine wm_iload_n 3 10 (by decide +kernel) rfl rfl ?_
    refine wm_sipush 1068 13 (by decide +kernel : decode cX1_nextDown 10 = .ok (.sipush 1068, 3)) rfl (by decide +kernel) ?_
    refine wm_icmp_ge 16 42 (by decide +kernel : decode cX1_nextDown 13 = .ok (.if_icmp .ge 29, 3)) (by decide) rfl (fun c3 => ?_) (fun c3 => ?_)
    · replace H := H.1 c3
      refine wm_aload_n 0 43 (by decide +kernel) rfl rfl ?_
      refine wm_getr 1 13 7 95 46 fl_RX1_30 (by decide +kernel) rfl (by decide +kernel) rfl rfl (by decide) ?_
      refine wm_iload_n 1 47 (by decide +kernel) rfl rfl ?_
      refine wm_iload_n 2 48 (by decide +kernel) rfl rfl ?_
      obtain ⟨o4, H⟩ := H
      replace H := H _ rfl
      refine wm_iast 152 49 (by decide +kernel) rfl (by decide +kernel) (by decide +kernel) o4 ?_
      refine wm_iload_n 2 50 (by decide +kernel) rfl rfl ?_
      exact wm_iret (by decide +kernel) ⟨.int, rfl, rfl⟩ H
    · replace H := H.2 c3
      refine wm_iload_n 2 17 (by decide +kernel) rfl rfl ?_
      refine wm_if_lt 20 42 (by decide +kernel : decode cX1_nextDown 17 = .ok (.ifCond .lt 25, 3)) (by decide) rfl (fun c6 => ?_) (fun c6 => ?_)
      · replace H := H.1 c6
        refine wm_aload_n 0 43 (by decide +kernel) rfl rfl ?_
        refine wm_getr 1 13 7 95 46 fl_RX1_30 (by decide +kernel) rfl (by decide +kernel) rfl rfl (by decide) ?_
        refine wm_iload_n 1 47 (by decide +kernel) rfl rfl ?_
        refine wm_iload_n 2 48 (by decide +kernel) rfl rfl ?_
        obtain ⟨o7, H⟩ := H
        replace H := H _ rfl
        refine wm_iast 152 49 (by decide +kernel) rfl (by decide +kernel) (by decide +kernel) o7 ?_
        refine wm_iload_n 2 50 (by decide +kernel) rfl rfl ?_
        exact wm_iret (by decide +kernel) ⟨.int, rfl, rfl⟩ H
      · replace H := H.2 c6
        refine wm_aload_n 0 21 (by decide +kernel) rfl rfl ?_
        refine wm_iload_n 1 22 (by decide +kernel) rfl rfl ?_
        refine wm_iload_n 2 23 (by decide +kernel) rfl rfl ?_
        refine wm_callVi mX1_leadsDown 2 1 [_, _] [] _ _ 26 mo_X1_leadsDown np_X1_leadsDown ml_RX1_156 im_X1_leadsDown se_X1_leadsDown (by decide +kernel) (by decide +kernel) rfl rfl rfl (Nat.le_of_ble_eq_true rfl) (by decide +kernel) rfl (Nat.le_of_ble_eq_true rfl) _ (ent_pad 0 rfl) (l_X1_leadsDown g _ _ _ _ H) (fun v10 h9 H hzv10 => ?_)
        refine wm_if_ne 29 42 (by decide +kernel : decode cX1_nextDown 26 = .ok (.ifCond .ne 16, 3)) (by decide) rfl (fun c11 => ?_) (fun c11 => ?_)
        · replace H := H.2 c11
          refine wm_aload_n 0 43 (by decide +kernel) rfl rfl ?_
          refine wm_getr 1 13 7 95 46 fl_RX1_30 (by decide +kernel) rfl (by decide +kernel) rfl rfl (by decide) ?_
          refine wm_iload_n 1 47 (by decide +kernel) rfl rfl ?_
          refine wm_iload_n 2 48 (by decide +kernel) rfl rfl ?_
          obtain ⟨o12, H⟩ := H
          replace H := H _ rfl
          refine wm_iast 152 49 (by decide +kernel) rfl (by decide +kernel) (by decide +kernel) o12 ?_
          refine wm_iload_n 2 50 (by decide +kernel) rfl rfl ?_
          exact wm_iret (by decide +kernel) ⟨.int, rfl, rfl⟩ H
        · replace H := H.1 c11
          refine wm_aload_n 0 30 (by decide +kernel) rfl rfl ?_
          refine wm_getr 1 8 2 90 33 fl_RX1_15 (by decide +kernel) rfl (by decide +kernel) rfl rfl (by decide) ?_
          refine wm_iload_n 2 34 (by decide +kernel) rfl rfl ?_
          obtain ⟨o14, H⟩ := H
          refine wm_iald 1068 35 (by decide +kernel) rfl (by decide +kernel) (by decide +kernel) o14 ?_
          replace H := H _ rfl
          refine wm_istore_n 2 36 [some _, some _, some _, some _] (by decide +kernel) rfl (by decide +kernel) (okS_spec rfl) rfl ?_
          replace H := H _ rfl
          refine wm_iinc 3 (_ + 1) 39 [some _, some _, some _, some _] (by decide +kernel : decode cX1_nextDown 36 = .ok (.iinc 3 1, 3)) rfl (by decide +kernel) rfl (ofI_eq (by decide +kernel)) (okS_spec rfl) rfl ?_
          refine wm_goto 9 (by decide +kernel : decode cX1_nextDown 39 = .ok (.goto (-30), 3)) (by decide) ?_
          exact ih _ _ _ H
set_option maxRecDepth 20000 in
theorem l_X1_nextDown (g : GE) (x1 : Int32)  (h : HP) (Q : Int32 → HP → Prop) (H : f_X1_nextDown x1 h Q) : Wm g mX1_nextDown 0 [some (.ref 88), some (.int x1), none, none] [] h (qi Q) := by
  unfold f_X1_nextDown at H
  refine wm_aload_n 0 1 (by decide +kernel) rfl rfl ?_
  refine wm_getr 1 13 7 95 4 fl_RX1_30 (by decide +kernel) rfl (by decide +kernel) rfl rfl (by decide) ?_
  refine wm_iload_n 1 5 (by decide +kernel) rfl rfl ?_
  obtain ⟨o1, H⟩ := H
  refine wm_iald 152 6 (by decide +kernel) rfl (by decide +kernel) (by decide +kernel) o1 ?_
  replace H := H _ rfl
  refine wm_istore_n 2 7 [some _, some _, some _, none] (by decide +kernel) rfl (by decide +kernel) (okS_spec rfl) rfl ?_
  refine wm_iconst 0 8 (by decide +kernel : decode cX1_nextDown 7 = .ok (.iconst 0, 1)) rfl (by decide +kernel) ?_
  refine wm_istore_n 3 9 [some _, some _, some _, some _] (by decide +kernel) rfl (by decide +kernel) (okS_spec rfl) rfl ?_
  obtain ⟨n17, H⟩ := H
  refine l_X1_nextDown_L9 g _ _  _ _ _ _ H
def f_X1_fill_J57 (x1 : Int32) (x2 : Int32) (x3 : Int32) (k24 : Int32 → Int32 → Int32 → HP → Prop) (Q : HP → Prop) (h : HP) : Prop :=
  f_X1_nextDown x2 h (fun v6 h5 =>
  (((v6 < 0) →
    (((x1 ≤ 0) →
      Q h5) ∧
     (¬ (x1 ≤ 0) →
      vp_in x2 152 ∧
      ∀ h10 : HP, h10 = si h5 94 (ix x2) (-1 : Int32) →
      ∀ x1_11 : Int32, x1_11 = (x1 + (-1)) →
      vp_in x1_11 152 ∧
      vp_in ((gi h10 96 (ix x1_11)) ^^^ 1) 1068 ∧
      ∀ x2_14 : Int32, x2_14 = (gi h10 91 (ix ((gi h10 96 (ix x1_11)) ^^^ 1))) →
      ∀ x3_15 : Int32, x3_15 = (x3 + 1) →
      k24 x1_11 x2_14 x3_15 h10))) ∧
   (¬ (v6 < 0) →
    vp_in x1 152 ∧
    ∀ h17 : HP, h17 = si h5 96 (ix x1) v6 →
    ∀ x1_18 : Int32, x1_18 = (x1 + 1) →
    vp_in v6 1068 ∧
    ∀ x2_20 : Int32, x2_20 = (gi h17 91 (ix v6)) →
    ∀ x3_21 : Int32, x3_21 = (x3 + 1) →
    k24 x1_18 x2_20 x3_21 h17)))
def f_X1_fill_L24   (Q : HP → Prop) : Nat → Int32 → Int32 → Int32 → HP → Prop
  | 0, _, _, _, _ => False
  | n + 1, x1, x2, x3, h =>
    (((1000000 ≤ x3) →
      Q h) ∧
     (¬ (1000000 ≤ x3) →
      (((x2 = 150) →
        f_X1_push x1 h (fun v23 h22 =>
        vp_in v23 152 ∧
        vp_in ((gi h22 96 (ix v23)) ^^^ 1) 1068 ∧
        ∀ x2_26 : Int32, x2_26 = (gi h22 91 (ix ((gi h22 96 (ix v23)) ^^^ 1))) →
        f_X1_fill_J57 v23 x2_26 x3 (f_X1_fill_L24 Q n) Q h22)) ∧
       (¬ (x2 = 150) →
        f_X1_fill_J57 x1 x2 x3 (f_X1_fill_L24 Q n) Q h))))
def f_X1_fill  (h : HP) (Q : HP → Prop) : Prop :=
  (¬ (0 : Int32) < 0 ∧ ¬ (0 : Int32) < 0 ∧ ¬ (152 : Int32) < 0 ∧ ix 0 + ix 152 ≤ 152 ∧ ix 0 + ix 152 ≤ 152) ∧
  ∀ h2 : HP, h2 = cpi h 89 95 (ix 0) (ix 0) (ix 152) →
  ∃ n27, f_X1_fill_L24 
    Q n27 0 151 0 h2
set_option maxRecDepth 20000 in
theorem l_X1_fill_J57 (g : GE) (x1 : Int32) (x2 : Int32) (x3 : Int32)  (k24 : Int32 → Int32 → Int32 → HP → Prop) (Q : HP → Prop) (hk24 : ∀ (x1 : Int32) (x2 : Int32) (x3 : Int32) (h : HP), k24 x1 x2 x3 h → Wm g mX1_fill 24 [some (.ref 88), some (.int x1), some (.int x2), some (.int x3), none] [] h (qv Q)) (h : HP) (H : f_X1_fill_J57 x1 x2 x3 k24 Q h) : Wm g mX1_fill 57 [some (.ref 88), some (.int x1), some (.int x2), some (.int x3), none] [] h (qv Q) := by
  unfold f_X1_fill_J57 at H
  refine wm_aload_n 0 58 (by decide +kernel) rfl rfl ?_
  refine wm_iload_n 2 59 (by decide +kernel) rfl rfl ?_
  refine wm_callVi mX1_nextDown 1 1 [_] [] _ _ 62 mo_X1_nextDown np_X1_nextDown ml_RX1_153 im_X1_nextDown se_X1_nextDown (by decide +kernel) (by decide +kernel) rfl rfl rfl (Nat.le_of_ble_eq_true rfl) (by decide +kernel) rfl (Nat.le_of_ble_eq_true rfl) _ (ent_pad 2 rfl) (l_X1_nextDown g _ _ _ H) (fun v6 h5 H hzv6 => ?_)
  refine wm_istore 4 64 [some _, some _, some _, some _, some _] (by decide +kernel) rfl (by decide +kernel) (okS_spec rfl) rfl ?_
  refine wm_iload 4 66 (by decide +kernel) rfl rfl ?_
  refine wm_if_lt 69 91 (by decide +kernel : decode cX1_fill 66 = .ok (.ifCond .lt 25, 3)) (by decide) rfl (fun c7 => ?_) (fun c7 => ?_)
  · replace H := H.1 c7
    refine wm_iload_n 1 92 (by decide +kernel) rfl rfl ?_
    refine wm_if_le 95 122 (by decide +kernel : decode cX1_fill 92 = .ok (.ifCond .le 30, 3)) (by decide) rfl (fun c8 => ?_) (fun c8 => ?_)
    · replace H := H.1 c8
      exact wm_vret (by decide +kernel) rfl H
    · replace H := H.2 c8
      refine wm_aload_n 0 96 (by decide +kernel) rfl rfl ?_
      refine wm_getr 1 12 6 94 99 fl_RX1_27 (by decide +kernel) rfl (by decide +kernel) rfl rfl (by decide) ?_
      refine wm_iload_n 2 100 (by decide +kernel) rfl rfl ?_
      refine wm_iconst (-1) 101 (by decide +kernel : decode cX1_fill 100 = .ok (.iconst (-1), 1)) rfl (by decide +kernel) ?_
      obtain ⟨o9, H⟩ := H
      replace H := H _ rfl
      refine wm_iast 152 102 (by decide +kernel) rfl (by decide +kernel) (by decide +kernel) o9 ?_
      replace H := H _ rfl
      refine wm_iinc 1 (_ + (-1)) 105 [some _, some _, some _, some _, some _] (by decide +kernel : decode cX1_fill 102 = .ok (.iinc 1 (-1), 3)) rfl (by decide +kernel) rfl (ofI_eq (by decide +kernel)) (okS_spec rfl) rfl ?_
      refine wm_aload_n 0 106 (by decide +kernel) rfl rfl ?_
      refine wm_getr 1 9 3 91 109 fl_RX1_18 (by decide +kernel) rfl (by decide +kernel) rfl rfl (by decide) ?_
      refine wm_aload_n 0 110 (by decide +kernel) rfl rfl ?_
      refine wm_getr 1 14 8 96 113 fl_RX1_33 (by decide +kernel) rfl (by decide +kernel) rfl rfl (by decide) ?_
      refine wm_iload_n 1 114 (by decide +kernel) rfl rfl ?_
      obtain ⟨o12, H⟩ := H
      refine wm_iald 152 115 (by decide +kernel) rfl (by decide +kernel) (by decide +kernel) o12 ?_
      refine wm_iconst 1 116 (by decide +kernel : decode cX1_fill 115 = .ok (.iconst 1, 1)) rfl (by decide +kernel) ?_
      refine wm_ixor 117 (by decide +kernel) rfl ?_
      obtain ⟨o13, H⟩ := H
      refine wm_iald 1068 118 (by decide +kernel) rfl (by decide +kernel) (by decide +kernel) o13 ?_
      replace H := H _ rfl
      refine wm_istore_n 2 119 [some _, some _, some _, some _, some _] (by decide +kernel) rfl (by decide +kernel) (okS_spec rfl) rfl ?_
      refine wm_goto 123 (by decide +kernel : decode cX1_fill 119 = .ok (.goto 4, 3)) (by decide) ?_
      replace H := H _ rfl
      refine wm_iinc 3 (_ + 1) 126 [some _, some _, some _, some _, some _] (by decide +kernel : decode cX1_fill 123 = .ok (.iinc 3 1, 3)) rfl (by decide +kernel) rfl (ofI_eq (by decide +kernel)) (okS_spec rfl) rfl ?_
      refine wm_goto 24 (by decide +kernel : decode cX1_fill 126 = .ok (.goto (-102), 3)) (by decide) ?_
      refine wm_mask [true, true, true, true, false] [some _, some _, some _, some _, none] rfl ?_
      exact hk24 _ _ _ _ H
  · replace H := H.2 c7
    refine wm_aload_n 0 70 (by decide +kernel) rfl rfl ?_
    refine wm_getr 1 14 8 96 73 fl_RX1_33 (by decide +kernel) rfl (by decide +kernel) rfl rfl (by decide) ?_
    refine wm_iload_n 1 74 (by decide +kernel) rfl rfl ?_
    refine wm_iload 4 76 (by decide +kernel) rfl rfl ?_
    obtain ⟨o16, H⟩ := H
    replace H := H _ rfl
    refine wm_iast 152 77 (by decide +kernel) rfl (by decide +kernel) (by decide +kernel) o16 ?_
    replace H := H _ rfl
    refine wm_iinc 1 (_ + 1) 80 [some _, some _, some _, some _, some _] (by decide +kernel : decode cX1_fill 77 = .ok (.iinc 1 1, 3)) rfl (by decide +kernel) rfl (ofI_eq (by decide +kernel)) (okS_spec rfl) rfl ?_
    refine wm_aload_n 0 81 (by decide +kernel) rfl rfl ?_
    refine wm_getr 1 9 3 91 84 fl_RX1_18 (by decide +kernel) rfl (by decide +kernel) rfl rfl (by decide) ?_
    refine wm_iload 4 86 (by decide +kernel) rfl rfl ?_
    obtain ⟨o19, H⟩ := H
    refine wm_iald 1068 87 (by decide +kernel) rfl (by decide +kernel) (by decide +kernel) o19 ?_
    replace H := H _ rfl
    refine wm_istore_n 2 88 [some _, some _, some _, some _, some _] (by decide +kernel) rfl (by decide +kernel) (okS_spec rfl) rfl ?_
    refine wm_goto 123 (by decide +kernel : decode cX1_fill 88 = .ok (.goto 35, 3)) (by decide) ?_
    replace H := H _ rfl
    refine wm_iinc 3 (_ + 1) 126 [some _, some _, some _, some _, some _] (by decide +kernel : decode cX1_fill 123 = .ok (.iinc 3 1, 3)) rfl (by decide +kernel) rfl (ofI_eq (by decide +kernel)) (okS_spec rfl) rfl ?_
    refine wm_goto 24 (by decide +kernel : decode cX1_fill 126 = .ok (.goto (-102), 3)) (by decide) ?_
    refine wm_mask [true, true, true, true, false] [some _, some _, some _, some _, none] rfl ?_
    exact hk24 _ _ _ _ H
set_option maxRecDepth 20000 in
theorem l_X1_fill_L24 (g : GE)    (Q : HP → Prop)  : ∀ (n : Nat) (x1 : Int32) (x2 : Int32) (x3 : Int32) (h : HP), f_X1_fill_L24 Q n x1 x2 x3 h → Wm g mX1_fill 24 [some (.ref 88), some (.int x1), some (.int x2), some (.int x3), none] [] h (qv Q) := by
  intro n
  induction n with
  | zero => intro x1 x2 x3 h H; exact H.elim
  | succ n ih =>
    intro x1 x2 x3 h H
    unfold f_X1_fill_L24 at H
    refine wm_iload_n 3 25 (by decide +kernel) rfl rfl ?_
    refine wm_ldc 1000000 27 co_RX1_149 (by decide +kernel) rfl ?_
    refine wm_icmp_ge 30 129 (by decide +kernel : decode cX1_fill 27 = .ok (.if_icmp .ge 102, 3)) (by decide) rfl (fun c3 => ?_) (fun c3 => ?_)
    · replace H := H.1 c3
      exact wm_vret (by decide +kernel) rfl H
    · replace H := H.2 c3
      refine wm_iload_n 2 31 (by decide +kernel) rfl rfl ?_
      refine wm_sipush 150 34 (by decide +kernel : decode cX1_fill 31 = .ok (.sipush 150, 3)) rfl (by decide +kernel) ?_
      refine wm_icmp_ne 37 57 (by decide +kernel : decode cX1_fill 34 = .ok (.if_icmp .ne 23, 3)) (by decide) rfl (fun c4 => ?_) (fun c4 => ?_)
      · replace H := H.2 c4
        exact l_X1_fill_J57 g _ _ _ _ _ (ih) _ H
      · replace H := H.1 c4
        refine wm_aload_n 0 38 (by decide +kernel) rfl rfl ?_
        refine wm_iload_n 1 39 (by decide +kernel) rfl rfl ?_
        refine wm_callVi mX1_push 1 1 [_] [] _ _ 42 mo_X1_push np_X1_push ml_RX1_150 im_X1_push se_X1_push (by decide +kernel) (by decide +kernel) rfl rfl rfl (Nat.le_of_ble_eq_true rfl) (by decide +kernel) rfl (Nat.le_of_ble_eq_true rfl) _ (ent_pad 3 rfl) (l_X1_push g _ _ _ H) (fun v23 h22 H hzv23 => ?_)
        refine wm_istore_n 1 43 [some _, some _, some _, some _, none] (by decide +kernel) rfl (by decide +kernel) (okS_spec rfl) rfl ?_
        refine wm_aload_n 0 44 (by decide +kernel) rfl rfl ?_
        refine wm_getr 1 9 3 91 47 fl_RX1_18 (by decide +kernel) rfl (by decide +kernel) rfl rfl (by decide) ?_
        refine wm_aload_n 0 48 (by decide +kernel) rfl rfl ?_
        refine wm_getr 1 14 8 96 51 fl_RX1_33 (by decide +kernel) rfl (by decide +kernel) rfl rfl (by decide) ?_
        refine wm_iload_n 1 52 (by decide +kernel) rfl rfl ?_
        obtain ⟨o24, H⟩ := H
        refine wm_iald 152 53 (by decide +kernel) rfl (by decide +kernel) (by decide +kernel) o24 ?_
        refine wm_iconst 1 54 (by decide +kernel : decode cX1_fill 53 = .ok (.iconst 1, 1)) rfl (by decide +kernel) ?_
        refine wm_ixor 55 (by decide +kernel) rfl ?_
        obtain ⟨o25, H⟩ := H
        refine wm_iald 1068 56 (by decide +kernel) rfl (by decide +kernel) (by decide +kernel) o25 ?_
        replace H := H _ rfl
        refine wm_istore_n 2 57 [some _, some _, some _, some _, none] (by decide +kernel) rfl (by decide +kernel) (okS_spec rfl) rfl ?_
        exact l_X1_fill_J57 g _ _ _ _ _ (ih) _ H
set_option maxRecDepth 20000 in
theorem l_X1_fill (g : GE)   (h : HP) (Q : HP → Prop) (H : f_X1_fill  h Q) : Wm g mX1_fill 0 [some (.ref 88), none, none, none, none] [] h (qv Q) := by
  unfold f_X1_fill at H
  refine wm_aload_n 0 1 (by decide +kernel) rfl rfl ?_
  refine wm_getr 1 7 1 89 4 fl_RX1_11 (by decide +kernel) rfl (by decide +kernel) rfl rfl (by decide) ?_
  refine wm_iconst 0 5 (by decide +kernel : decode cX1_fill 4 = .ok (.iconst 0, 1)) rfl (by decide +kernel) ?_
  refine wm_aload_n 0 6 (by decide +kernel) rfl rfl ?_
  refine wm_getr 1 13 7 95 9 fl_RX1_30 (by decide +kernel) rfl (by decide +kernel) rfl rfl (by decide) ?_
  refine wm_iconst 0 10 (by decide +kernel : decode cX1_fill 9 = .ok (.iconst 0, 1)) rfl (by decide +kernel) ?_
  refine wm_sipush 152 13 (by decide +kernel : decode cX1_fill 10 = .ok (.sipush 152, 3)) rfl (by decide +kernel) ?_
  obtain ⟨o1, H⟩ := H
  replace H := H _ rfl
  refine wm_cpi 152 152 16 ml_RX1_143 nv_cpy st_cpy in_Sys (by decide +kernel) (Nat.le_of_ble_eq_true rfl) (by decide +kernel) rfl (by decide +kernel) (by decide +kernel) (by decide +kernel) (by decide +kernel) o1 ?_
  refine wm_iconst 0 17 (by decide +kernel : decode cX1_fill 16 = .ok (.iconst 0, 1)) rfl (by decide +kernel) ?_
  refine wm_istore_n 1 18 [some _, some _, none, none, none] (by decide +kernel) rfl (by decide +kernel) (okS_spec rfl) rfl ?_
  refine wm_sipush 151 21 (by decide +kernel : decode cX1_fill 18 = .ok (.sipush 151, 3)) rfl (by decide +kernel) ?_
  refine wm_istore_n 2 22 [some _, some _, some _, none, none] (by decide +kernel) rfl (by decide +kernel) (okS_spec rfl) rfl ?_
  refine wm_iconst 0 23 (by decide +kernel : decode cX1_fill 22 = .ok (.iconst 0, 1)) rfl (by decide +kernel) ?_
  refine wm_istore_n 3 24 [some _, some _, some _, some _, none] (by decide +kernel) rfl (by decide +kernel) (okS_spec rfl) rfl ?_
  obtain ⟨n27, H⟩ := H
  refine l_X1_fill_L24 g _  _ _ _ _ _ H
def f_X1_flowBehind_L5 (x1 : Int32) (k27 : HP → Prop) (Q : Int32 → HP → Prop) : Nat → Int32 → HP → Prop
  | 0, _, _ => False
  | n + 1, x2, h =>
    (((x1 < x2) →
      k27 h) ∧
     (¬ (x1 < x2) →
      (((24 < x2) →
        k27 h) ∧
       (¬ (24 < x2) →
        f_X1_addTick x2 h (fun h4 =>
        ∀ x2_5 : Int32, x2_5 = (x2 + 1) →
        f_X1_flowBehind_L5 x1 k27 Q n x2_5 h4)))))
def f_X1_flowBehind_L43   (Q : Int32 → HP → Prop) : Nat → Int32 → HP → Prop
  | 0, _, _ => False
  | n + 1, x2, h =>
    (((152 ≤ x2) →
      Q (gi h 88 5) h) ∧
     (¬ (152 ≤ x2) →
      f_X1_findLevels h (fun v10 h9 =>
      (((v10 = 0) →
        Q (gi h9 88 5) h9) ∧
       (¬ (v10 = 0) →
        f_X1_fill h9 (fun h12 =>
        ∀ x2_13 : Int32, x2_13 = (x2 + 1) →
        f_X1_flowBehind_L43 Q n x2_13 h12))))))
def f_X1_flowBehind_J27 (x1 : Int32)  (Q : Int32 → HP → Prop) (h : HP) : Prop :=
  ∀ h7 : HP, h7 = si h 88 4 (if (gi h 88 4) < (x1 + 1) then (x1 + 1) else (gi h 88 4)) →
  ∃ n14, f_X1_flowBehind_L43 
    Q n14 0 h7
def f_X1_flowBehind (x1 : Int32) (h : HP) (Q : Int32 → HP → Prop) : Prop :=
  ∀ x2_1 : Int32, x2_1 = (gi h 88 4) →
  ∃ n15, f_X1_flowBehind_L5 x1
    (fun h6 =>
      f_X1_flowBehind_J27 x1  Q h6)
    Q n15 x2_1 h
set_option maxRecDepth 20000 in
theorem l_X1_flowBehind_L5 (g : GE) (x1 : Int32)  (k27 : HP → Prop) (Q : Int32 → HP → Prop) (hk27 : ∀  (h : HP), k27  h → Wm g mX1_flowBehind 27 [some (.ref 88), some (.int x1), none] [] h (qi Q)) : ∀ (n : Nat) (x2 : Int32) (h : HP), f_X1_flowBehind_L5 x1 k27 Q n x2 h → Wm g mX1_flowBehind 5 [some (.ref 88), some (.int x1), some (.int x2)] [] h (qi Q) := by
  intro n
  induction n with
  | zero => intro x2 h H; exact H.elim
  | succ n ih =>
    intro x2 h H
    unfold f_X1_flowBehind_L5 at H
    refine wm_iload_n 2 6 (by decide +kernel) rfl rfl ?_
    refine wm_iload_n 1 7 (by decide +kernel) rfl rfl ?_
    refine wm_icmp_gt 10 27 (by decide +kernel : decode cX1_flowBehind 7 = .ok (.if_icmp .gt 20, 3)) (by decide) rfl (fun c2 => ?_) (fun c2 => ?_)
    · replace H := H.1 c2
      refine wm_mask [true, true, false] [some _, some _, none] rfl ?_
      exact hk27 _ H
    · replace H := H.2 c2
      refine wm_iload_n 2 11 (by decide +kernel) rfl rfl ?_
      refine wm_bipush 24 13 (by decide +kernel : decode cX1_flowBehind 11 = .ok (.bipush 24, 2)) rfl (by decide +kernel) ?_
      refine wm_icmp_gt 16 27 (by decide +kernel : decode cX1_flowBehind 13 = .ok (.if_icmp .gt 14, 3)) (by decide) rfl (fun c3 => ?_) (fun c3 => ?_)
      · replace H := H.1 c3
        refine wm_mask [true, true, false] [some _, some _, none] rfl ?_
        exact hk27 _ H
      · replace H := H.2 c3
        refine wm_aload_n 0 17 (by decide +kernel) rfl rfl ?_
        refine wm_iload_n 2 18 (by decide +kernel) rfl rfl ?_
        refine wm_callVv mX1_addTick 1 1 [_] [] _ _ 21 mo_X1_addTick np_X1_addTick ml_RX1_71 im_X1_addTick se_X1_addTick (by decide +kernel) (by decide +kernel) rfl rfl rfl (Nat.le_of_ble_eq_true rfl) (by decide +kernel) rfl (Nat.le_of_ble_eq_true rfl) _ (ent_pad 4 rfl) (l_X1_addTick g _ _ _ H) (fun h4 H => ?_)
        replace H := H _ rfl
        refine wm_iinc 2 (_ + 1) 24 [some _, some _, some _] (by decide +kernel : decode cX1_flowBehind 21 = .ok (.iinc 2 1, 3)) rfl (by decide +kernel) rfl (ofI_eq (by decide +kernel)) (okS_spec rfl) rfl ?_
        refine wm_goto 5 (by decide +kernel : decode cX1_flowBehind 24 = .ok (.goto (-19), 3)) (by decide) ?_
        exact ih _ _ H
set_option maxRecDepth 20000 in
theorem l_X1_flowBehind_L43 (g : GE)    (Q : Int32 → HP → Prop)  : ∀ (n : Nat) (x2 : Int32) (h : HP), f_X1_flowBehind_L43 Q n x2 h → Wm g mX1_flowBehind 43 [some (.ref 88), none, some (.int x2)] [] h (qi Q) := by
  intro n
  induction n with
  | zero => intro x2 h H; exact H.elim
  | succ n ih =>
    intro x2 h H
    unfold f_X1_flowBehind_L43 at H
    refine wm_iload_n 2 44 (by decide +kernel) rfl rfl ?_
    refine wm_sipush 152 47 (by decide +kernel : decode cX1_flowBehind 44 = .ok (.sipush 152, 3)) rfl (by decide +kernel) ?_
    refine wm_icmp_ge 50 67 (by decide +kernel : decode cX1_flowBehind 47 = .ok (.if_icmp .ge 20, 3)) (by decide) rfl (fun c8 => ?_) (fun c8 => ?_)
    · replace H := H.1 c8
      refine wm_aload_n 0 68 (by decide +kernel) rfl rfl ?_
      refine wm_geti 1 5 71 fl_RX1_59 (by decide +kernel) rfl (by decide +kernel) rfl ?_
      exact wm_iret (by decide +kernel) ⟨.int, rfl, rfl⟩ H
    · replace H := H.2 c8
      refine wm_aload_n 0 51 (by decide +kernel) rfl rfl ?_
      refine wm_callVi mX1_findLevels 0 1 [] [] _ _ 54 mo_X1_findLevels np_X1_findLevels ml_RX1_81 im_X1_findLevels se_X1_findLevels (by decide +kernel) (by decide +kernel) rfl rfl rfl (Nat.le_of_ble_eq_true rfl) (by decide +kernel) rfl (Nat.le_of_ble_eq_true rfl) _ (ent_pad 6 rfl) (l_X1_findLevels g _ _ H) (fun v10 h9 H hzv10 => ?_)
      refine wm_if_eq 57 67 (by decide +kernel : decode cX1_flowBehind 54 = .ok (.ifCond .eq 13, 3)) (by decide) rfl (fun c11 => ?_) (fun c11 => ?_)
      · replace H := H.1 c11
        refine wm_aload_n 0 68 (by decide +kernel) rfl rfl ?_
        refine wm_geti 1 5 71 fl_RX1_59 (by decide +kernel) rfl (by decide +kernel) rfl ?_
        exact wm_iret (by decide +kernel) ⟨.int, rfl, rfl⟩ H
      · replace H := H.2 c11
        refine wm_aload_n 0 58 (by decide +kernel) rfl rfl ?_
        refine wm_callVv mX1_fill 0 1 [] [] _ _ 61 mo_X1_fill np_X1_fill ml_RX1_85 im_X1_fill se_X1_fill (by decide +kernel) (by decide +kernel) rfl rfl rfl (Nat.le_of_ble_eq_true rfl) (by decide +kernel) rfl (Nat.le_of_ble_eq_true rfl) _ (ent_pad 4 rfl) (l_X1_fill g _ _ H) (fun h12 H => ?_)
        replace H := H _ rfl
        refine wm_iinc 2 (_ + 1) 64 [some _, none, some _] (by decide +kernel : decode cX1_flowBehind 61 = .ok (.iinc 2 1, 3)) rfl (by decide +kernel) rfl (ofI_eq (by decide +kernel)) (okS_spec rfl) rfl ?_
        refine wm_goto 43 (by decide +kernel : decode cX1_flowBehind 64 = .ok (.goto (-21), 3)) (by decide) ?_
        exact ih _ _ H
set_option maxRecDepth 20000 in
theorem l_X1_flowBehind_J27 (g : GE) (x1 : Int32)   (Q : Int32 → HP → Prop)  (h : HP) (H : f_X1_flowBehind_J27 x1  Q h) : Wm g mX1_flowBehind 27 [some (.ref 88), some (.int x1), none] [] h (qi Q) := by
  unfold f_X1_flowBehind_J27 at H
  refine wm_aload_n 0 28 (by decide +kernel) rfl rfl ?_
  refine wm_aload_n 0 29 (by decide +kernel) rfl rfl ?_
  refine wm_geti 1 4 32 fl_RX1_56 (by decide +kernel) rfl (by decide +kernel) rfl ?_
  refine wm_iload_n 1 33 (by decide +kernel) rfl rfl ?_
  refine wm_iconst 1 34 (by decide +kernel : decode cX1_flowBehind 33 = .ok (.iconst 1, 1)) rfl (by decide +kernel) ?_
  refine wm_iadd 35 (by decide +kernel) rfl ?_
  refine wm_max 38 ml_RX1_75 st_max in_Math cd_max (by decide +kernel) (Nat.le_of_ble_eq_true rfl) (by decide +kernel) rfl ?_
  replace H := H _ rfl
  refine wm_puti 1 4 41 fl_RX1_56 (by decide +kernel) rfl (by decide +kernel) rfl rfl ⟨rfl, rfl⟩ ?_
  refine wm_iconst 0 42 (by decide +kernel : decode cX1_flowBehind 41 = .ok (.iconst 0, 1)) rfl (by decide +kernel) ?_
  refine wm_istore_n 2 43 [some _, some _, some _] (by decide +kernel) rfl (by decide +kernel) (okS_spec rfl) rfl ?_
  obtain ⟨n14, H⟩ := H
  refine wm_mask [true, false, true] [some _, none, some _] rfl ?_
  refine l_X1_flowBehind_L43 g _  _ _ _ H
set_option maxRecDepth 20000 in
theorem l_X1_flowBehind (g : GE) (x1 : Int32)  (h : HP) (Q : Int32 → HP → Prop) (H : f_X1_flowBehind x1 h Q) : Wm g mX1_flowBehind 0 [some (.ref 88), some (.int x1), none] [] h (qi Q) := by
  unfold f_X1_flowBehind at H
  refine wm_aload_n 0 1 (by decide +kernel) rfl rfl ?_
  refine wm_geti 1 4 4 fl_RX1_56 (by decide +kernel) rfl (by decide +kernel) rfl ?_
  replace H := H _ rfl
  refine wm_istore_n 2 5 [some _, some _, some _] (by decide +kernel) rfl (by decide +kernel) (okS_spec rfl) rfl ?_
  obtain ⟨n15, H⟩ := H
  refine l_X1_flowBehind_L5 g _ _ _ (fun h6 H => ?_) _ _ _ H
  · skip
    exact l_X1_flowBehind_J27 g _ _  _ H
def f_X1_searchNear_J115 (x1 : Int32) (x2 : Int32) (x3 : Int32) (x4 : Int32) (k57 : Int32 → Int32 → Int32 → HP → Prop) (Q : HP → Prop) (h : HP) : Prop :=
  vp_in x3 1068 ∧
  ∀ x3_18 : Int32, x3_18 = (gi h 90 (ix x3)) →
  ∀ x4_19 : Int32, x4_19 = (x4 + 1) →
  k57 x1 x3_18 x4_19 h
def f_X1_searchNear_L57 (x2 : Int32) (k128 : Int32 → HP → Prop) (Q : HP → Prop) : Nat → Int32 → Int32 → Int32 → HP → Prop
  | 0, _, _, _, _ => False
  | n + 1, x1, x3, x4, h =>
    (((1068 ≤ x4) →
      k128 x1 h) ∧
     (¬ (1068 ≤ x4) →
      (((x3 < 0) →
        k128 x1 h) ∧
       (¬ (x3 < 0) →
        vp_in x3 1068 ∧
        ∀ x5_14 : Int32, x5_14 = (gi h 91 (ix x3)) →
        vp_in x3 1068 ∧
        ((((gi h 92 (ix x3)) ≤ 0) →
          f_X1_searchNear_J115 x1 x2 x3 x4 (f_X1_searchNear_L57 x2 k128 Q n) Q h) ∧
         (¬ ((gi h 92 (ix x3)) ≤ 0) →
          vp_in x5_14 152 ∧
          ((((gi h 98 (ix x5_14)) = 0) →
            vp_in x5_14 152 ∧
            ∀ h23 : HP, h23 = si h 98 (ix x5_14) 1 →
            vp_in x1 152 ∧
            ∀ h25 : HP, h25 = si h23 97 (ix x1) x5_14 →
            ∀ x1_26 : Int32, x1_26 = (x1 + 1) →
            f_X1_searchNear_J115 x1_26 x2 x3 x4 (f_X1_searchNear_L57 x2 k128 Q n) Q h25) ∧
           (¬ ((gi h 98 (ix x5_14)) = 0) →
            f_X1_searchNear_J115 x1 x2 x3 x4 (f_X1_searchNear_L57 x2 k128 Q n) Q h))))))))
def f_X1_searchNear_L30   (Q : HP → Prop) : Nat → Int32 → Int32 → HP → Prop
  | 0, _, _, _ => False
  | n + 1, x1, x2, h =>
    (((x1 ≤ x2) →
      Q h) ∧
     (¬ (x1 ≤ x2) →
      (((152 ≤ x2) →
        Q h) ∧
       (¬ (152 ≤ x2) →
        vp_in x2 152 ∧
        vp_in (gi h 97 (ix x2)) 152 ∧
        ∀ x3_10 : Int32, x3_10 = (gi h 89 (ix (gi h 97 (ix x2)))) →
        ∃ n30, f_X1_searchNear_L57 x2
          (fun x1_27 h28 =>
            ∀ x2_29 : Int32, x2_29 = (x2 + 1) →
            f_X1_searchNear_L30 Q n x1_27 x2_29 h28)
          Q n30 x1 x3_10 0 h))))
def f_X1_searchNear  (h : HP) (Q : HP → Prop) : Prop :=
  f_J7_fill_53178 98 0 h (fun h1 =>
  vp_in 151 152 ∧
  ∀ h3 : HP, h3 = si h1 98 (ix 151) 1 →
  vp_in 0 152 ∧
  ∀ h5 : HP, h5 = si h3 97 (ix 0) 151 →
  ∃ n31, f_X1_searchNear_L30 
    Q n31 1 0 h5)
set_option maxRecDepth 20000 in
theorem l_X1_searchNear_J115 (g : GE) (x1 : Int32) (x2 : Int32) (x3 : Int32) (x4 : Int32)  (k57 : Int32 → Int32 → Int32 → HP → Prop) (Q : HP → Prop) (hk57 : ∀ (x1 : Int32) (x3 : Int32) (x4 : Int32) (h : HP), k57 x1 x3 x4 h → Wm g mX1_searchNear 57 [some (.ref 88), some (.int x1), some (.int x2), some (.int x3), some (.int x4), none] [] h (qv Q)) (h : HP) (H : f_X1_searchNear_J115 x1 x2 x3 x4 k57 Q h) : Wm g mX1_searchNear 115 [some (.ref 88), some (.int x1), some (.int x2), some (.int x3), some (.int x4), none] [] h (qv Q) := by
  unfold f_X1_searchNear_J115 at H
  refine wm_aload_n 0 116 (by decide +kernel) rfl rfl ?_
  refine wm_getr 1 8 2 90 119 fl_RX1_15 (by decide +kernel) rfl (by decide +kernel) rfl rfl (by decide) ?_
  refine wm_iload_n 3 120 (by decide +kernel) rfl rfl ?_
  obtain ⟨o17, H⟩ := H
  refine wm_iald 1068 121 (by decide +kernel) rfl (by decide +kernel) (by decide +kernel) o17 ?_
  replace H := H _ rfl
  refine wm_istore_n 3 122 [some _, some _, some _, some _, some _, none] (by decide +kernel) rfl (by decide +kernel) (okS_spec rfl) rfl ?_
  replace H := H _ rfl
  refine wm_iinc 4 (_ + 1) 125 [some _, some _, some _, some _, some _, none] (by decide +kernel : decode cX1_searchNear 122 = .ok (.iinc 4 1, 3)) rfl (by decide +kernel) rfl (ofI_eq (by decide +kernel)) (okS_spec rfl) rfl ?_
  refine wm_goto 57 (by decide +kernel : decode cX1_searchNear 125 = .ok (.goto (-68), 3)) (by decide) ?_
  exact hk57 _ _ _ _ H
set_option maxRecDepth 20000 in
theorem l_X1_searchNear_L57 (g : GE) (x2 : Int32)  (k128 : Int32 → HP → Prop) (Q : HP → Prop) (hk128 : ∀ (x1 : Int32) (h : HP), k128 x1 h → Wm g mX1_searchNear 128 [some (.ref 88), some (.int x1), some (.int x2), none, none, none] [] h (qv Q)) : ∀ (n : Nat) (x1 : Int32) (x3 : Int32) (x4 : Int32) (h : HP), f_X1_searchNear_L57 x2 k128 Q n x1 x3 x4 h → Wm g mX1_searchNear 57 [some (.ref 88), some (.int x1), some (.int x2), some (.int x3), some (.int x4), none] [] h (qv Q) := by
  intro n
  induction n with
  | zero => intro x1 x3 x4 h H; exact H.elim
  | succ n ih =>
    intro x1 x3 x4 h H
    unfold f_X1_searchNear_L57 at H
    refine wm_iload 4 59 (by decide +kernel) rfl rfl ?_
    refine wm_sipush 1068 62 (by decide +kernel : decode cX1_searchNear 59 = .ok (.sipush 1068, 3)) rfl (by decide +kernel) ?_
    refine wm_icmp_ge 65 128 (by decide +kernel : decode cX1_searchNear 62 = .ok (.if_icmp .ge 66, 3)) (by decide) rfl (fun c11 => ?_) (fun c11 => ?_)
    · replace H := H.1 c11
      refine wm_mask [true, true, true, false, false, false] [some _, some _, some _, none, none, none] rfl ?_
      exact hk128 _ _ H
    · replace H := H.2 c11
      refine wm_iload_n 3 66 (by decide +kernel) rfl rfl ?_
      refine wm_if_lt 69 128 (by decide +kernel : decode cX1_searchNear 66 = .ok (.ifCond .lt 62, 3)) (by decide) rfl (fun c12 => ?_) (fun c12 => ?_)
      · replace H := H.1 c12
        refine wm_mask [true, true, true, false, false, false] [some _, some _, some _, none, none, none] rfl ?_
        exact hk128 _ _ H
      · replace H := H.2 c12
        refine wm_aload_n 0 70 (by decide +kernel) rfl rfl ?_
        refine wm_getr 1 9 3 91 73 fl_RX1_18 (by decide +kernel) rfl (by decide +kernel) rfl rfl (by decide) ?_
        refine wm_iload_n 3 74 (by decide +kernel) rfl rfl ?_
        obtain ⟨o13, H⟩ := H
        refine wm_iald 1068 75 (by decide +kernel) rfl (by decide +kernel) (by decide +kernel) o13 ?_
        replace H := H _ rfl
        refine wm_istore 5 77 [some _, some _, some _, some _, some _, some _] (by decide +kernel) rfl (by decide +kernel) (okS_spec rfl) rfl ?_
        refine wm_aload_n 0 78 (by decide +kernel) rfl rfl ?_
        refine wm_getr 1 10 4 92 81 fl_RX1_21 (by decide +kernel) rfl (by decide +kernel) rfl rfl (by decide) ?_
        refine wm_iload_n 3 82 (by decide +kernel) rfl rfl ?_
        obtain ⟨o15, H⟩ := H
        refine wm_iald 1068 83 (by decide +kernel) rfl (by decide +kernel) (by decide +kernel) o15 ?_
        refine wm_if_le 86 115 (by decide +kernel : decode cX1_searchNear 83 = .ok (.ifCond .le 32, 3)) (by decide) rfl (fun c16 => ?_) (fun c16 => ?_)
        · replace H := H.1 c16
          refine wm_mask [true, true, true, true, true, false] [some _, some _, some _, some _, some _, none] rfl ?_
          exact l_X1_searchNear_J115 g _ _ _ _ _ _ (ih) _ H
        · replace H := H.2 c16
          refine wm_aload_n 0 87 (by decide +kernel) rfl rfl ?_
          refine wm_getr 1 16 10 98 90 fl_RX1_39 (by decide +kernel) rfl (by decide +kernel) rfl rfl (by decide) ?_
          refine wm_iload 5 92 (by decide +kernel) rfl rfl ?_
          obtain ⟨o20, H⟩ := H
          refine wm_iald 152 93 (by decide +kernel) rfl (by decide +kernel) (by decide +kernel) o20 ?_
          refine wm_if_ne 96 115 (by decide +kernel : decode cX1_searchNear 93 = .ok (.ifCond .ne 22, 3)) (by decide) rfl (fun c21 => ?_) (fun c21 => ?_)
          · replace H := H.2 c21
            refine wm_mask [true, true, true, true, true, false] [some _, some _, some _, some _, some _, none] rfl ?_
            exact l_X1_searchNear_J115 g _ _ _ _ _ _ (ih) _ H
          · replace H := H.1 c21
            refine wm_aload_n 0 97 (by decide +kernel) rfl rfl ?_
            refine wm_getr 1 16 10 98 100 fl_RX1_39 (by decide +kernel) rfl (by decide +kernel) rfl rfl (by decide) ?_
            refine wm_iload 5 102 (by decide +kernel) rfl rfl ?_
            refine wm_iconst 1 103 (by decide +kernel : decode cX1_searchNear 102 = .ok (.iconst 1, 1)) rfl (by decide +kernel) ?_
            obtain ⟨o22, H⟩ := H
            replace H := H _ rfl
            refine wm_iast 152 104 (by decide +kernel) rfl (by decide +kernel) (by decide +kernel) o22 ?_
            refine wm_aload_n 0 105 (by decide +kernel) rfl rfl ?_
            refine wm_getr 1 15 9 97 108 fl_RX1_36 (by decide +kernel) rfl (by decide +kernel) rfl rfl (by decide) ?_
            refine wm_iload_n 1 109 (by decide +kernel) rfl rfl ?_
            refine wm_iload 5 111 (by decide +kernel) rfl rfl ?_
            obtain ⟨o24, H⟩ := H
            replace H := H _ rfl
            refine wm_iast 152 112 (by decide +kernel) rfl (by decide +kernel) (by decide +kernel) o24 ?_
            replace H := H _ rfl
            refine wm_iinc 1 (_ + 1) 115 [some _, some _, some _, some _, some _, some _] (by decide +kernel : decode cX1_searchNear 112 = .ok (.iinc 1 1, 3)) rfl (by decide +kernel) rfl (ofI_eq (by decide +kernel)) (okS_spec rfl) rfl ?_
            refine wm_mask [true, true, true, true, true, false] [some _, some _, some _, some _, some _, none] rfl ?_
            exact l_X1_searchNear_J115 g _ _ _ _ _ _ (ih) _ H
set_option maxRecDepth 20000 in
theorem l_X1_searchNear_L30 (g : GE)    (Q : HP → Prop)  : ∀ (n : Nat) (x1 : Int32) (x2 : Int32) (h : HP), f_X1_searchNear_L30 Q n x1 x2 h → Wm g mX1_searchNear 30 [some (.ref 88), some (.int x1), some (.int x2), none, none, none] [] h (qv Q) := by
  intro n
  induction n with
  | zero => intro x1 x2 h H; exact H.elim
  | succ n ih =>
    intro x1 x2 h H
    unfold f_X1_searchNear_L30 at H
    refine wm_iload_n 2 31 (by decide +kernel) rfl rfl ?_
    refine wm_iload_n 1 32 (by decide +kernel) rfl rfl ?_
    refine wm_icmp_ge 35 134 (by decide +kernel : decode cX1_searchNear 32 = .ok (.if_icmp .ge 102, 3)) (by decide) rfl (fun c6 => ?_) (fun c6 => ?_)
    · replace H := H.1 c6
      exact wm_vret (by decide +kernel) rfl H
    · replace H := H.2 c6
      refine wm_iload_n 2 36 (by decide +kernel) rfl rfl ?_
      refine wm_sipush 152 39 (by decide +kernel : decode cX1_searchNear 36 = .ok (.sipush 152, 3)) rfl (by decide +kernel) ?_
      refine wm_icmp_ge 42 134 (by decide +kernel : decode cX1_searchNear 39 = .ok (.if_icmp .ge 95, 3)) (by decide) rfl (fun c7 => ?_) (fun c7 => ?_)
      · replace H := H.1 c7
        exact wm_vret (by decide +kernel) rfl H
      · replace H := H.2 c7
        refine wm_aload_n 0 43 (by decide +kernel) rfl rfl ?_
        refine wm_getr 1 7 1 89 46 fl_RX1_11 (by decide +kernel) rfl (by decide +kernel) rfl rfl (by decide) ?_
        refine wm_aload_n 0 47 (by decide +kernel) rfl rfl ?_
        refine wm_getr 1 15 9 97 50 fl_RX1_36 (by decide +kernel) rfl (by decide +kernel) rfl rfl (by decide) ?_
        refine wm_iload_n 2 51 (by decide +kernel) rfl rfl ?_
        obtain ⟨o8, H⟩ := H
        refine wm_iald 152 52 (by decide +kernel) rfl (by decide +kernel) (by decide +kernel) o8 ?_
        obtain ⟨o9, H⟩ := H
        refine wm_iald 152 53 (by decide +kernel) rfl (by decide +kernel) (by decide +kernel) o9 ?_
        replace H := H _ rfl
        refine wm_istore_n 3 54 [some _, some _, some _, some _, none, none] (by decide +kernel) rfl (by decide +kernel) (okS_spec rfl) rfl ?_
        refine wm_iconst 0 55 (by decide +kernel : decode cX1_searchNear 54 = .ok (.iconst 0, 1)) rfl (by decide +kernel) ?_
        refine wm_istore 4 57 [some _, some _, some _, some _, some _, none] (by decide +kernel) rfl (by decide +kernel) (okS_spec rfl) rfl ?_
        obtain ⟨n30, H⟩ := H
        refine l_X1_searchNear_L57 g _ _ _ (fun x1_27 h28 H => ?_) _ _ _ _ _ H
        · skip
          replace H := H _ rfl
          refine wm_iinc 2 (_ + 1) 131 [some _, some _, some _, none, none, none] (by decide +kernel : decode cX1_searchNear 128 = .ok (.iinc 2 1, 3)) rfl (by decide +kernel) rfl (ofI_eq (by decide +kernel)) (okS_spec rfl) rfl ?_
          refine wm_goto 30 (by decide +kernel : decode cX1_searchNear 131 = .ok (.goto (-101), 3)) (by decide) ?_
          exact ih _ _ _ H
set_option maxRecDepth 20000 in
theorem l_X1_searchNear (g : GE)   (h : HP) (Q : HP → Prop) (H : f_X1_searchNear  h Q) : Wm g mX1_searchNear 0 [some (.ref 88), none, none, none, none, none] [] h (qv Q) := by
  unfold f_X1_searchNear at H
  refine wm_aload_n 0 1 (by decide +kernel) rfl rfl ?_
  refine wm_getr 1 16 10 98 4 fl_RX1_39 (by decide +kernel) rfl (by decide +kernel) rfl rfl (by decide) ?_
  refine wm_iconst 0 5 (by decide +kernel : decode cX1_searchNear 4 = .ok (.iconst 0, 1)) rfl (by decide +kernel) ?_
  refine wm_callSv mJ7_fill_53178 2 [_, _] [] _ _ 8 mo_J7_fill_53178 np_J7_fill_53178 ml_RX1_65 sc_J7_fill_53178 (by decide +kernel) (by decide +kernel) rfl rfl rfl (Nat.le_of_ble_eq_true rfl) (Nat.le_of_ble_eq_true rfl) _ (ent_pad 2 rfl) (l_J7_fill_53178 g _ _ (by decide +kernel) _ _ H) (fun h1 H => ?_)
  refine wm_aload_n 0 9 (by decide +kernel) rfl rfl ?_
  refine wm_getr 1 16 10 98 12 fl_RX1_39 (by decide +kernel) rfl (by decide +kernel) rfl rfl (by decide) ?_
  refine wm_sipush 151 15 (by decide +kernel : decode cX1_searchNear 12 = .ok (.sipush 151, 3)) rfl (by decide +kernel) ?_
  refine wm_iconst 1 16 (by decide +kernel : decode cX1_searchNear 15 = .ok (.iconst 1, 1)) rfl (by decide +kernel) ?_
  obtain ⟨o2, H⟩ := H
  replace H := H _ rfl
  refine wm_iast 152 17 (by decide +kernel) rfl (by decide +kernel) (by decide +kernel) o2 ?_
  refine wm_aload_n 0 18 (by decide +kernel) rfl rfl ?_
  refine wm_getr 1 15 9 97 21 fl_RX1_36 (by decide +kernel) rfl (by decide +kernel) rfl rfl (by decide) ?_
  refine wm_iconst 0 22 (by decide +kernel : decode cX1_searchNear 21 = .ok (.iconst 0, 1)) rfl (by decide +kernel) ?_
  refine wm_sipush 151 25 (by decide +kernel : decode cX1_searchNear 22 = .ok (.sipush 151, 3)) rfl (by decide +kernel) ?_
  obtain ⟨o4, H⟩ := H
  replace H := H _ rfl
  refine wm_iast 152 26 (by decide +kernel) rfl (by decide +kernel) (by decide +kernel) o4 ?_
  refine wm_iconst 1 27 (by decide +kernel : decode cX1_searchNear 26 = .ok (.iconst 1, 1)) rfl (by decide +kernel) ?_
  refine wm_istore_n 1 28 [some _, some _, none, none, none, none] (by decide +kernel) rfl (by decide +kernel) (okS_spec rfl) rfl ?_
  refine wm_iconst 0 29 (by decide +kernel : decode cX1_searchNear 28 = .ok (.iconst 0, 1)) rfl (by decide +kernel) ?_
  refine wm_istore_n 2 30 [some _, some _, some _, none, none, none] (by decide +kernel) rfl (by decide +kernel) (okS_spec rfl) rfl ?_
  obtain ⟨n31, H⟩ := H
  refine l_X1_searchNear_L30 g _  _ _ _ _ H
def f_X1_ticksNear_L4 (x1 : Int32)  (Q : Int32 → HP → Prop) : Nat → Int32 → Int32 → HP → Prop
  | 0, _, _, _ => False
  | n + 1, x2, x3, h =>
    ((((gi h 88 4) ≤ x3) →
      Q x2 h) ∧
     (¬ ((gi h 88 4) ≤ x3) →
      f_X1_node x1 x3 h (fun v3 h2 =>
      vp_in v3 152 ∧
      ((((gi h2 98 (ix v3)) = 0) →
        ∀ x3_6 : Int32, x3_6 = (x3 + 1) →
        f_X1_ticksNear_L4 x1 Q n x2 x3_6 h2) ∧
       (¬ ((gi h2 98 (ix v3)) = 0) →
        ∀ x2_7 : Int32, x2_7 = (x2 ||| (1 <<< (x3 &&& 31))) →
        ∀ x3_8 : Int32, x3_8 = (x3 + 1) →
        f_X1_ticksNear_L4 x1 Q n x2_7 x3_8 h2)))))
def f_X1_ticksNear (x1 : Int32) (h : HP) (Q : Int32 → HP → Prop) : Prop :=
  ∃ n9, f_X1_ticksNear_L4 x1
    Q n9 0 0 h
set_option maxRecDepth 20000 in
theorem l_X1_ticksNear_L4 (g : GE) (x1 : Int32)   (Q : Int32 → HP → Prop)  : ∀ (n : Nat) (x2 : Int32) (x3 : Int32) (h : HP), f_X1_ticksNear_L4 x1 Q n x2 x3 h → Wm g mX1_ticksNear 4 [some (.ref 88), some (.int x1), some (.int x2), some (.int x3)] [] h (qi Q) := by
  intro n
  induction n with
  | zero => intro x2 x3 h H; exact H.elim
  | succ n ih =>
    intro x2 x3 h H
    unfold f_X1_ticksNear_L4 at H
    refine wm_iload_n 3 5 (by decide +kernel) rfl rfl ?_
    refine wm_aload_n 0 6 (by decide +kernel) rfl rfl ?_
    refine wm_geti 1 4 9 fl_RX1_56 (by decide +kernel) rfl (by decide +kernel) rfl ?_
    refine wm_icmp_ge 12 38 (by decide +kernel : decode cX1_ticksNear 9 = .ok (.if_icmp .ge 29, 3)) (by decide) rfl (fun c1 => ?_) (fun c1 => ?_)
    · replace H := H.1 c1
      refine wm_iload_n 2 39 (by decide +kernel) rfl rfl ?_
      exact wm_iret (by decide +kernel) ⟨.int, rfl, rfl⟩ H
    · replace H := H.2 c1
      refine wm_aload_n 0 13 (by decide +kernel) rfl rfl ?_
      refine wm_getr 1 16 10 98 16 fl_RX1_39 (by decide +kernel) rfl (by decide +kernel) rfl rfl (by decide) ?_
      refine wm_aload_n 0 17 (by decide +kernel) rfl rfl ?_
      refine wm_iload_n 1 18 (by decide +kernel) rfl rfl ?_
      refine wm_iload_n 3 19 (by decide +kernel) rfl rfl ?_
      refine wm_callVi mX1_node 2 1 [_, _] [_] _ _ 22 mo_X1_node np_X1_node ml_RX1_95 im_X1_node se_X1_node (by decide +kernel) (by decide +kernel) rfl rfl rfl (Nat.le_of_ble_eq_true rfl) (by decide +kernel) rfl (Nat.le_of_ble_eq_true rfl) _ (ent_pad 0 rfl) (l_X1_node g _ _ _ _ H) (fun v3 h2 H hzv3 => ?_)
      obtain ⟨o4, H⟩ := H
      refine wm_iald 152 23 (by decide +kernel) rfl (by decide +kernel) (by decide +kernel) o4 ?_
      refine wm_if_eq 26 32 (by decide +kernel : decode cX1_ticksNear 23 = .ok (.ifCond .eq 9, 3)) (by decide) rfl (fun c5 => ?_) (fun c5 => ?_)
      · replace H := H.1 c5
        replace H := H _ rfl
        refine wm_iinc 3 (_ + 1) 35 [some _, some _, some _, some _] (by decide +kernel : decode cX1_ticksNear 32 = .ok (.iinc 3 1, 3)) rfl (by decide +kernel) rfl (ofI_eq (by decide +kernel)) (okS_spec rfl) rfl ?_
        refine wm_goto 4 (by decide +kernel : decode cX1_ticksNear 35 = .ok (.goto (-31), 3)) (by decide) ?_
        exact ih _ _ _ H
      · replace H := H.2 c5
        refine wm_iload_n 2 27 (by decide +kernel) rfl rfl ?_
        refine wm_iconst 1 28 (by decide +kernel : decode cX1_ticksNear 27 = .ok (.iconst 1, 1)) rfl (by decide +kernel) ?_
        refine wm_iload_n 3 29 (by decide +kernel) rfl rfl ?_
        refine wm_ishl 30 (by decide +kernel) rfl ?_
        refine wm_ior 31 (by decide +kernel) rfl ?_
        replace H := H _ rfl
        refine wm_istore_n 2 32 [some _, some _, some _, some _] (by decide +kernel) rfl (by decide +kernel) (okS_spec rfl) rfl ?_
        replace H := H _ rfl
        refine wm_iinc 3 (_ + 1) 35 [some _, some _, some _, some _] (by decide +kernel : decode cX1_ticksNear 32 = .ok (.iinc 3 1, 3)) rfl (by decide +kernel) rfl (ofI_eq (by decide +kernel)) (okS_spec rfl) rfl ?_
        refine wm_goto 4 (by decide +kernel : decode cX1_ticksNear 35 = .ok (.goto (-31), 3)) (by decide) ?_
        exact ih _ _ _ H
set_option maxRecDepth 20000 in
theorem l_X1_ticksNear (g : GE) (x1 : Int32)  (h : HP) (Q : Int32 → HP → Prop) (H : f_X1_ticksNear x1 h Q) : Wm g mX1_ticksNear 0 [some (.ref 88), some (.int x1), none, none] [] h (qi Q) := by
  unfold f_X1_ticksNear at H
  refine wm_iconst 0 1 (by decide +kernel : decode cX1_ticksNear 0 = .ok (.iconst 0, 1)) rfl (by decide +kernel) ?_
  refine wm_istore_n 2 2 [some _, some _, some _, none] (by decide +kernel) rfl (by decide +kernel) (okS_spec rfl) rfl ?_
  refine wm_iconst 0 3 (by decide +kernel : decode cX1_ticksNear 2 = .ok (.iconst 0, 1)) rfl (by decide +kernel) ?_
  refine wm_istore_n 3 4 [some _, some _, some _, some _] (by decide +kernel) rfl (by decide +kernel) (okS_spec rfl) rfl ?_
  obtain ⟨n9, H⟩ := H
  refine l_X1_ticksNear_L4 g _ _  _ _ _ _ H
def f_X1_stationsNear_L4   (Q : Int32 → HP → Prop) : Nat → Int32 → Int32 → HP → Prop
  | 0, _, _, _ => False
  | n + 1, x1, x2, h =>
    kd (gw h 0) = 6 ∧
    ((((gi h (gw h 0) 2) ≤ x2) →
      Q x1 h) ∧
     (¬ ((gi h (gw h 0) 2) ≤ x2) →
      f_X1_ticksNear x2 h (fun v4 h3 =>
      (((v4 = 0) →
        ∀ x2_6 : Int32, x2_6 = (x2 + 1) →
        f_X1_stationsNear_L4 Q n x1 x2_6 h3) ∧
       (¬ (v4 = 0) →
        ∀ x1_7 : Int32, x1_7 = (x1 ||| (1 <<< (x2 &&& 31))) →
        ∀ x2_8 : Int32, x2_8 = (x2 + 1) →
        f_X1_stationsNear_L4 Q n x1_7 x2_8 h3)))))
def f_X1_stationsNear  (h : HP) (Q : Int32 → HP → Prop) : Prop :=
  ∃ n9, f_X1_stationsNear_L4 
    Q n9 0 0 h
set_option maxRecDepth 20000 in
theorem l_X1_stationsNear_L4 (g : GE)    (Q : Int32 → HP → Prop)  : ∀ (n : Nat) (x1 : Int32) (x2 : Int32) (h : HP), f_X1_stationsNear_L4 Q n x1 x2 h → Wm g mX1_stationsNear 4 [some (.ref 88), some (.int x1), some (.int x2)] [] h (qi Q) := by
  intro n
  induction n with
  | zero => intro x1 x2 h H; exact H.elim
  | succ n ih =>
    intro x1 x2 h H
    unfold f_X1_stationsNear_L4 at H
    refine wm_iload_n 2 5 (by decide +kernel) rfl rfl ?_
    refine wm_aload_n 0 6 (by decide +kernel) rfl rfl ?_
    obtain ⟨o1, H⟩ := H
    refine wm_getw 1 0 9 fl_RX1_42 (by decide +kernel) rfl (by decide +kernel) rfl (by decide) o1 ?_
    refine wm_geti 6 2 12 fl_RX1_87 (by decide +kernel) rfl o1 rfl ?_
    refine wm_icmp_ge 15 35 (by decide +kernel : decode cX1_stationsNear 12 = .ok (.if_icmp .ge 23, 3)) (by decide) rfl (fun c2 => ?_) (fun c2 => ?_)
    · replace H := H.1 c2
      refine wm_iload_n 1 36 (by decide +kernel) rfl rfl ?_
      exact wm_iret (by decide +kernel) ⟨.int, rfl, rfl⟩ H
    · replace H := H.2 c2
      refine wm_aload_n 0 16 (by decide +kernel) rfl rfl ?_
      refine wm_iload_n 2 17 (by decide +kernel) rfl rfl ?_
      refine wm_callVi mX1_ticksNear 1 1 [_] [] _ _ 20 mo_X1_ticksNear np_X1_ticksNear ml_RX1_163 im_X1_ticksNear se_X1_ticksNear (by decide +kernel) (by decide +kernel) rfl rfl rfl (Nat.le_of_ble_eq_true rfl) (by decide +kernel) rfl (Nat.le_of_ble_eq_true rfl) _ (ent_pad 2 rfl) (l_X1_ticksNear g _ _ _ H) (fun v4 h3 H hzv4 => ?_)
      refine wm_if_eq 23 29 (by decide +kernel : decode cX1_stationsNear 20 = .ok (.ifCond .eq 9, 3)) (by decide) rfl (fun c5 => ?_) (fun c5 => ?_)
      · replace H := H.1 c5
        replace H := H _ rfl
        refine wm_iinc 2 (_ + 1) 32 [some _, some _, some _] (by decide +kernel : decode cX1_stationsNear 29 = .ok (.iinc 2 1, 3)) rfl (by decide +kernel) rfl (ofI_eq (by decide +kernel)) (okS_spec rfl) rfl ?_
        refine wm_goto 4 (by decide +kernel : decode cX1_stationsNear 32 = .ok (.goto (-28), 3)) (by decide) ?_
        exact ih _ _ _ H
      · replace H := H.2 c5
        refine wm_iload_n 1 24 (by decide +kernel) rfl rfl ?_
        refine wm_iconst 1 25 (by decide +kernel : decode cX1_stationsNear 24 = .ok (.iconst 1, 1)) rfl (by decide +kernel) ?_
        refine wm_iload_n 2 26 (by decide +kernel) rfl rfl ?_
        refine wm_ishl 27 (by decide +kernel) rfl ?_
        refine wm_ior 28 (by decide +kernel) rfl ?_
        replace H := H _ rfl
        refine wm_istore_n 1 29 [some _, some _, some _] (by decide +kernel) rfl (by decide +kernel) (okS_spec rfl) rfl ?_
        replace H := H _ rfl
        refine wm_iinc 2 (_ + 1) 32 [some _, some _, some _] (by decide +kernel : decode cX1_stationsNear 29 = .ok (.iinc 2 1, 3)) rfl (by decide +kernel) rfl (ofI_eq (by decide +kernel)) (okS_spec rfl) rfl ?_
        refine wm_goto 4 (by decide +kernel : decode cX1_stationsNear 32 = .ok (.goto (-28), 3)) (by decide) ?_
        exact ih _ _ _ H
set_option maxRecDepth 20000 in
theorem l_X1_stationsNear (g : GE)   (h : HP) (Q : Int32 → HP → Prop) (H : f_X1_stationsNear  h Q) : Wm g mX1_stationsNear 0 [some (.ref 88), none, none] [] h (qi Q) := by
  unfold f_X1_stationsNear at H
  refine wm_iconst 0 1 (by decide +kernel : decode cX1_stationsNear 0 = .ok (.iconst 0, 1)) rfl (by decide +kernel) ?_
  refine wm_istore_n 1 2 [some _, some _, none] (by decide +kernel) rfl (by decide +kernel) (okS_spec rfl) rfl ?_
  refine wm_iconst 0 3 (by decide +kernel : decode cX1_stationsNear 2 = .ok (.iconst 0, 1)) rfl (by decide +kernel) ?_
  refine wm_istore_n 2 4 [some _, some _, some _] (by decide +kernel) rfl (by decide +kernel) (okS_spec rfl) rfl ?_
  obtain ⟨n9, H⟩ := H
  refine l_X1_stationsNear_L4 g _  _ _ _ _ H
def f_X1_canStillSendFrom (x1 : Int32) (h : HP) (Q : Int32 → HP → Prop) : Prop :=
  f_X1_node x1 0 h (fun v2 h1 =>
  vp_in v2 152 ∧
  Q (if (gi h1 94 (ix v2)) < 0 then (0 : Int32) else 1) h1)
set_option maxRecDepth 20000 in
theorem l_X1_canStillSendFrom (g : GE) (x1 : Int32)  (h : HP) (Q : Int32 → HP → Prop) (H : f_X1_canStillSendFrom x1 h Q) : Wm g mX1_canStillSendFrom 0 [some (.ref 88), some (.int x1)] [] h (qi Q) := by
  unfold f_X1_canStillSendFrom at H
  refine wm_aload_n 0 1 (by decide +kernel) rfl rfl ?_
  refine wm_getr 1 12 6 94 4 fl_RX1_27 (by decide +kernel) rfl (by decide +kernel) rfl rfl (by decide) ?_
  refine wm_aload_n 0 5 (by decide +kernel) rfl rfl ?_
  refine wm_iload_n 1 6 (by decide +kernel) rfl rfl ?_
  refine wm_iconst 0 7 (by decide +kernel : decode cX1_canStillSendFrom 6 = .ok (.iconst 0, 1)) rfl (by decide +kernel) ?_
  refine wm_callVi mX1_node 2 1 [_, _] [_] _ _ 10 mo_X1_node np_X1_node ml_RX1_95 im_X1_node se_X1_node (by decide +kernel) (by decide +kernel) rfl rfl rfl (Nat.le_of_ble_eq_true rfl) (by decide +kernel) rfl (Nat.le_of_ble_eq_true rfl) _ (ent_pad 0 rfl) (l_X1_node g _ _ _ _ H) (fun v2 h1 H hzv2 => ?_)
  obtain ⟨o3, H⟩ := H
  refine wm_iald 152 11 (by decide +kernel) rfl (by decide +kernel) (by decide +kernel) o3 ?_
  refine' wm_dia (pcJ := 19) (fun kt kf => wm_if_lt 14 18 (by decide +kernel : decode cX1_canStillSendFrom 11 = .ok (.ifCond .lt 7, 3)) (by decide) rfl kt kf) ?D5k (fun kj c1 => ?D5t) (fun kj c1 => ?D5f)
  case D5t =>
    refine wm_iconst 0 19 (by decide +kernel : decode cX1_canStillSendFrom 18 = .ok (.iconst 0, 1)) rfl (by decide +kernel) ?_
    exact kj
  case D5f =>
    refine wm_iconst 1 15 (by decide +kernel : decode cX1_canStillSendFrom 14 = .ok (.iconst 1, 1)) rfl (by decide +kernel) ?_
    refine wm_goto 19 (by decide +kernel : decode cX1_canStillSendFrom 15 = .ok (.goto 4, 3)) (by decide) ?_
    exact kj
  case D5k =>
    exact wm_iret (by decide +kernel) ⟨.boolean, rfl, (nb_ite (by decide +kernel) (by decide +kernel))⟩ H
def f_X1_peak_L4 (x1 : Int32)  (Q : Int32 → HP → Prop) : Nat → Int32 → Int32 → HP → Prop
  | 0, _, _, _ => False
  | n + 1, x2, x3, h =>
    ((((gi h 88 6) ≤ x3) →
      Q x2 h) ∧
     (¬ ((gi h 88 6) ≤ x3) →
      vp_in (x3 + 1) 1068 ∧
      ∀ x4_3 : Int32, x4_3 = (gi h 92 (ix (x3 + 1))) →
      vp_in (x3 / 2) 534 ∧
      ((((gi h 93 (ix (x3 / 2))) = x1) →
        (((x4_3 ≤ 0) →
          ∀ x3_8 : Int32, x3_8 = (x3 + 2) →
          f_X1_peak_L4 x1 Q n x2 x3_8 h) ∧
         (¬ (x4_3 ≤ 0) →
          vp_in (x3 + 1) 1068 ∧
          ∀ x5_12 : Int32, x5_12 = (if 6 ≤ (gi h 91 (ix (x3 + 1))) then (0 : Int32) else 1) →
          (¬ (x5_12 = 0) → kd (gw h 0) = 6 ∧ vp_in x1 10) ∧
          ∀ x2_17 : Int32, x2_17 = (if x2 < (if x5_12 = 0 then (x4_3 : Int32) else (x4_3 + (gi h (((gw h 0) + 2) + 7 + 2 * ix x1) 8))) then (if x5_12 = 0 then (x4_3 : Int32) else (x4_3 + (gi h (((gw h 0) + 2) + 7 + 2 * ix x1) 8))) else x2) →
          ∀ x3_18 : Int32, x3_18 = (x3 + 2) →
          f_X1_peak_L4 x1 Q n x2_17 x3_18 h))) ∧
       (¬ ((gi h 93 (ix (x3 / 2))) = x1) →
        ∀ x3_6 : Int32, x3_6 = (x3 + 2) →
        f_X1_peak_L4 x1 Q n x2 x3_6 h))))
def f_X1_peak (x1 : Int32) (h : HP) (Q : Int32 → HP → Prop) : Prop :=
  ∃ n19, f_X1_peak_L4 x1
    Q n19 0 0 h
set_option maxRecDepth 20000 in
theorem l_X1_peak_L4 (g : GE) (x1 : Int32)   (Q : Int32 → HP → Prop)  : ∀ (n : Nat) (x2 : Int32) (x3 : Int32) (h : HP), f_X1_peak_L4 x1 Q n x2 x3 h → Wm g mX1_peak 4 [some (.ref 88), some (.int x1), some (.int x2), some (.int x3), none, none] [] h (qi Q) := by
  intro n
  induction n with
  | zero => intro x2 x3 h H; exact H.elim
  | succ n ih =>
    intro x2 x3 h H
    unfold f_X1_peak_L4 at H
    refine wm_iload_n 3 5 (by decide +kernel) rfl rfl ?_
    refine wm_aload_n 0 6 (by decide +kernel) rfl rfl ?_
    refine wm_geti 1 6 9 fl_RX1_62 (by decide +kernel) rfl (by decide +kernel) rfl ?_
    refine wm_icmp_ge 12 95 (by decide +kernel : decode cX1_peak 9 = .ok (.if_icmp .ge 86, 3)) (by decide) rfl (fun c1 => ?_) (fun c1 => ?_)
    · replace H := H.1 c1
      refine wm_iload_n 2 96 (by decide +kernel) rfl rfl ?_
      exact wm_iret (by decide +kernel) ⟨.int, rfl, rfl⟩ H
    · replace H := H.2 c1
      refine wm_aload_n 0 13 (by decide +kernel) rfl rfl ?_
      refine wm_getr 1 10 4 92 16 fl_RX1_21 (by decide +kernel) rfl (by decide +kernel) rfl rfl (by decide) ?_
      refine wm_iload_n 3 17 (by decide +kernel) rfl rfl ?_
      refine wm_iconst 1 18 (by decide +kernel : decode cX1_peak 17 = .ok (.iconst 1, 1)) rfl (by decide +kernel) ?_
      refine wm_iadd 19 (by decide +kernel) rfl ?_
      obtain ⟨o2, H⟩ := H
      refine wm_iald 1068 20 (by decide +kernel) rfl (by decide +kernel) (by decide +kernel) o2 ?_
      replace H := H _ rfl
      refine wm_istore 4 22 [some _, some _, some _, some _, some _, none] (by decide +kernel) rfl (by decide +kernel) (okS_spec rfl) rfl ?_
      refine wm_aload_n 0 23 (by decide +kernel) rfl rfl ?_
      refine wm_getr 1 11 5 93 26 fl_RX1_24 (by decide +kernel) rfl (by decide +kernel) rfl rfl (by decide) ?_
      refine wm_iload_n 3 27 (by decide +kernel) rfl rfl ?_
      refine wm_iconst 2 28 (by decide +kernel : decode cX1_peak 27 = .ok (.iconst 2, 1)) rfl (by decide +kernel) ?_
      refine wm_idiv 29 (by decide +kernel) rfl (by decide +kernel) ?_
      obtain ⟨o4, H⟩ := H
      refine wm_iald 534 30 (by decide +kernel) rfl (by decide +kernel) (by decide +kernel) o4 ?_
      refine wm_iload_n 1 31 (by decide +kernel) rfl rfl ?_
      refine wm_icmp_ne 34 89 (by decide +kernel : decode cX1_peak 31 = .ok (.if_icmp .ne 58, 3)) (by decide) rfl (fun c5 => ?_) (fun c5 => ?_)
      · replace H := H.2 c5
        replace H := H _ rfl
        refine wm_iinc 3 (_ + 2) 92 [some _, some _, some _, some _, some _, none] (by decide +kernel : decode cX1_peak 89 = .ok (.iinc 3 2, 3)) rfl (by decide +kernel) rfl (ofI_eq (by decide +kernel)) (okS_spec rfl) rfl ?_
        refine wm_goto 4 (by decide +kernel : decode cX1_peak 92 = .ok (.goto (-88), 3)) (by decide) ?_
        refine wm_mask [true, true, true, true, false, false] [some _, some _, some _, some _, none, none] rfl ?_
        exact ih _ _ _ H
      · replace H := H.1 c5
        refine wm_iload 4 36 (by decide +kernel) rfl rfl ?_
        refine wm_if_le 39 89 (by decide +kernel : decode cX1_peak 36 = .ok (.ifCond .le 53, 3)) (by decide) rfl (fun c7 => ?_) (fun c7 => ?_)
        · replace H := H.1 c7
          replace H := H _ rfl
          refine wm_iinc 3 (_ + 2) 92 [some _, some _, some _, some _, some _, none] (by decide +kernel : decode cX1_peak 89 = .ok (.iinc 3 2, 3)) rfl (by decide +kernel) rfl (ofI_eq (by decide +kernel)) (okS_spec rfl) rfl ?_
          refine wm_goto 4 (by decide +kernel : decode cX1_peak 92 = .ok (.goto (-88), 3)) (by decide) ?_
          refine wm_mask [true, true, true, true, false, false] [some _, some _, some _, some _, none, none] rfl ?_
          exact ih _ _ _ H
        · replace H := H.2 c7
          refine wm_aload_n 0 40 (by decide +kernel) rfl rfl ?_
          refine wm_getr 1 9 3 91 43 fl_RX1_18 (by decide +kernel) rfl (by decide +kernel) rfl rfl (by decide) ?_
          refine wm_iload_n 3 44 (by decide +kernel) rfl rfl ?_
          refine wm_iconst 1 45 (by decide +kernel : decode cX1_peak 44 = .ok (.iconst 1, 1)) rfl (by decide +kernel) ?_
          refine wm_iadd 46 (by decide +kernel) rfl ?_
          obtain ⟨o9, H⟩ := H
          refine wm_iald 1068 47 (by decide +kernel) rfl (by decide +kernel) (by decide +kernel) o9 ?_
          refine wm_bipush 6 49 (by decide +kernel : decode cX1_peak 47 = .ok (.bipush 6, 2)) rfl (by decide +kernel) ?_
          refine' wm_dia (pcJ := 57) (fun kt kf => wm_icmp_ge 52 56 (by decide +kernel : decode cX1_peak 49 = .ok (.if_icmp .ge 7, 3)) (by decide) rfl kt kf) ?D11k (fun kj c1 => ?D11t) (fun kj c1 => ?D11f)
          case D11t =>
            refine wm_iconst 0 57 (by decide +kernel : decode cX1_peak 56 = .ok (.iconst 0, 1)) rfl (by decide +kernel) ?_
            exact kj
          case D11f =>
            refine wm_iconst 1 53 (by decide +kernel : decode cX1_peak 52 = .ok (.iconst 1, 1)) rfl (by decide +kernel) ?_
            refine wm_goto 57 (by decide +kernel : decode cX1_peak 53 = .ok (.goto 4, 3)) (by decide) ?_
            exact kj
          case D11k =>
            replace H := H _ rfl
            refine wm_istore 5 59 [some _, some _, some _, some _, some _, some _] (by decide +kernel) rfl (by decide +kernel) (okS_spec rfl) rfl ?_
            refine wm_iload_n 2 60 (by decide +kernel) rfl rfl ?_
            refine wm_iload 5 62 (by decide +kernel) rfl rfl ?_
            obtain ⟨D16b, H⟩ := H
            refine' wm_dia (pcJ := 85) (fun kt kf => wm_if_eq 65 83 (by decide +kernel : decode cX1_peak 62 = .ok (.ifCond .eq 21, 3)) (by decide) rfl kt kf) ?D16k (fun kj c1 => ?D16t) (fun kj c1 => ?D16f)
            case D16t =>
              refine wm_iload 4 85 (by decide +kernel) rfl rfl ?_
              exact kj
            case D16f =>
              have H := D16b c1
              refine wm_iload 4 67 (by decide +kernel) rfl rfl ?_
              refine wm_aload_n 0 68 (by decide +kernel) rfl rfl ?_
              obtain ⟨o14, H⟩ := H
              refine wm_getw 1 0 71 fl_RX1_42 (by decide +kernel) rfl (by decide +kernel) rfl (by decide) o14 ?_
              refine wm_getr 6 5 2 _ 74 fl_RX1_118 (by decide +kernel) rfl o14 rfl rfl (by decide) ?_
              refine wm_iload_n 1 75 (by decide +kernel) rfl rfl ?_
              have o15 := H
              refine wm_aald 10 _ 76 (by decide +kernel) rfl (Or.inr (Or.inl ⟨(W_ln o14).1, rfl⟩)) (W_ln o14).2 o15 ?_
              refine wm_geti 0 8 79 fl_RX1_169 (by decide +kernel) rfl (E_ln (W_ln o14).1 (vp_in_lt o15)) rfl ?_
              refine wm_iadd 80 (by decide +kernel) rfl ?_
              refine wm_goto 85 (by decide +kernel : decode cX1_peak 80 = .ok (.goto 5, 3)) (by decide) ?_
              exact kj
            case D16k =>
              refine wm_max 88 ml_RX1_75 st_max in_Math cd_max (by decide +kernel) (Nat.le_of_ble_eq_true rfl) (by decide +kernel) rfl ?_
              replace H := H _ rfl
              refine wm_istore_n 2 89 [some _, some _, some _, some _, some _, some _] (by decide +kernel) rfl (by decide +kernel) (okS_spec rfl) rfl ?_
              replace H := H _ rfl
              refine wm_iinc 3 (_ + 2) 92 [some _, some _, some _, some _, some _, some _] (by decide +kernel : decode cX1_peak 89 = .ok (.iinc 3 2, 3)) rfl (by decide +kernel) rfl (ofI_eq (by decide +kernel)) (okS_spec rfl) rfl ?_
              refine wm_goto 4 (by decide +kernel : decode cX1_peak 92 = .ok (.goto (-88), 3)) (by decide) ?_
              refine wm_mask [true, true, true, true, false, false] [some _, some _, some _, some _, none, none] rfl ?_
              exact ih _ _ _ H
set_option maxRecDepth 20000 in
theorem l_X1_peak (g : GE) (x1 : Int32)  (h : HP) (Q : Int32 → HP → Prop) (H : f_X1_peak x1 h Q) : Wm g mX1_peak 0 [some (.ref 88), some (.int x1), none, none, none, none] [] h (qi Q) := by
  unfold f_X1_peak at H
  refine wm_iconst 0 1 (by decide +kernel : decode cX1_peak 0 = .ok (.iconst 0, 1)) rfl (by decide +kernel) ?_
  refine wm_istore_n 2 2 [some _, some _, some _, none, none, none] (by decide +kernel) rfl (by decide +kernel) (okS_spec rfl) rfl ?_
  refine wm_iconst 0 3 (by decide +kernel : decode cX1_peak 2 = .ok (.iconst 0, 1)) rfl (by decide +kernel) ?_
  refine wm_istore_n 3 4 [some _, some _, some _, some _, none, none] (by decide +kernel) rfl (by decide +kernel) (okS_spec rfl) rfl ?_
  obtain ⟨n19, H⟩ := H
  refine l_X1_peak_L4 g _ _  _ _ _ _ H
def f_X1_busyLines_L4   (Q : Int32 → HP → Prop) : Nat → Int32 → Int32 → HP → Prop
  | 0, _, _, _ => False
  | n + 1, x1, x2, h =>
    kd (gw h 0) = 6 ∧
    ((((gi h (gw h 0) 3) ≤ x2) →
      Q x1 h) ∧
     (¬ ((gi h (gw h 0) 3) ≤ x2) →
      f_X1_peak x2 h (fun v4 h3 =>
      (((v4 ≤ 0) →
        ∀ x2_6 : Int32, x2_6 = (x2 + 1) →
        f_X1_busyLines_L4 Q n x1 x2_6 h3) ∧
       (¬ (v4 ≤ 0) →
        ∀ x1_7 : Int32, x1_7 = (x1 ||| (1 <<< (x2 &&& 31))) →
        ∀ x2_8 : Int32, x2_8 = (x2 + 1) →
        f_X1_busyLines_L4 Q n x1_7 x2_8 h3)))))
def f_X1_busyLines  (h : HP) (Q : Int32 → HP → Prop) : Prop :=
  ∃ n9, f_X1_busyLines_L4 
    Q n9 0 0 h
set_option maxRecDepth 20000 in
theorem l_X1_busyLines_L4 (g : GE)    (Q : Int32 → HP → Prop)  : ∀ (n : Nat) (x1 : Int32) (x2 : Int32) (h : HP), f_X1_busyLines_L4 Q n x1 x2 h → Wm g mX1_busyLines 4 [some (.ref 88), some (.int x1), some (.int x2)] [] h (qi Q) := by
  intro n
  induction n with
  | zero => intro x1 x2 h H; exact H.elim
  | succ n ih =>
    intro x1 x2 h H
    unfold f_X1_busyLines_L4 at H
    refine wm_iload_n 2 5 (by decide +kernel) rfl rfl ?_
    refine wm_aload_n 0 6 (by decide +kernel) rfl rfl ?_
    obtain ⟨o1, H⟩ := H
    refine wm_getw 1 0 9 fl_RX1_42 (by decide +kernel) rfl (by decide +kernel) rfl (by decide) o1 ?_
    refine wm_geti 6 3 12 fl_RX1_115 (by decide +kernel) rfl o1 rfl ?_
    refine wm_icmp_ge 15 35 (by decide +kernel : decode cX1_busyLines 12 = .ok (.if_icmp .ge 23, 3)) (by decide) rfl (fun c2 => ?_) (fun c2 => ?_)
    · replace H := H.1 c2
      refine wm_iload_n 1 36 (by decide +kernel) rfl rfl ?_
      exact wm_iret (by decide +kernel) ⟨.int, rfl, rfl⟩ H
    · replace H := H.2 c2
      refine wm_aload_n 0 16 (by decide +kernel) rfl rfl ?_
      refine wm_iload_n 2 17 (by decide +kernel) rfl rfl ?_
      refine wm_callVi mX1_peak 1 1 [_] [] _ _ 20 mo_X1_peak np_X1_peak ml_RX1_166 im_X1_peak se_X1_peak (by decide +kernel) (by decide +kernel) rfl rfl rfl (Nat.le_of_ble_eq_true rfl) (by decide +kernel) rfl (Nat.le_of_ble_eq_true rfl) _ (ent_pad 4 rfl) (l_X1_peak g _ _ _ H) (fun v4 h3 H hzv4 => ?_)
      refine wm_if_le 23 29 (by decide +kernel : decode cX1_busyLines 20 = .ok (.ifCond .le 9, 3)) (by decide) rfl (fun c5 => ?_) (fun c5 => ?_)
      · replace H := H.1 c5
        replace H := H _ rfl
        refine wm_iinc 2 (_ + 1) 32 [some _, some _, some _] (by decide +kernel : decode cX1_busyLines 29 = .ok (.iinc 2 1, 3)) rfl (by decide +kernel) rfl (ofI_eq (by decide +kernel)) (okS_spec rfl) rfl ?_
        refine wm_goto 4 (by decide +kernel : decode cX1_busyLines 32 = .ok (.goto (-28), 3)) (by decide) ?_
        exact ih _ _ _ H
      · replace H := H.2 c5
        refine wm_iload_n 1 24 (by decide +kernel) rfl rfl ?_
        refine wm_iconst 1 25 (by decide +kernel : decode cX1_busyLines 24 = .ok (.iconst 1, 1)) rfl (by decide +kernel) ?_
        refine wm_iload_n 2 26 (by decide +kernel) rfl rfl ?_
        refine wm_ishl 27 (by decide +kernel) rfl ?_
        refine wm_ior 28 (by decide +kernel) rfl ?_
        replace H := H _ rfl
        refine wm_istore_n 1 29 [some _, some _, some _] (by decide +kernel) rfl (by decide +kernel) (okS_spec rfl) rfl ?_
        replace H := H _ rfl
        refine wm_iinc 2 (_ + 1) 32 [some _, some _, some _] (by decide +kernel : decode cX1_busyLines 29 = .ok (.iinc 2 1, 3)) rfl (by decide +kernel) rfl (ofI_eq (by decide +kernel)) (okS_spec rfl) rfl ?_
        refine wm_goto 4 (by decide +kernel : decode cX1_busyLines 32 = .ok (.goto (-28), 3)) (by decide) ?_
        exact ih _ _ _ H
set_option maxRecDepth 20000 in
theorem l_X1_busyLines (g : GE)   (h : HP) (Q : Int32 → HP → Prop) (H : f_X1_busyLines  h Q) : Wm g mX1_busyLines 0 [some (.ref 88), none, none] [] h (qi Q) := by
  unfold f_X1_busyLines at H
  refine wm_iconst 0 1 (by decide +kernel : decode cX1_busyLines 0 = .ok (.iconst 0, 1)) rfl (by decide +kernel) ?_
  refine wm_istore_n 1 2 [some _, some _, none] (by decide +kernel) rfl (by decide +kernel) (okS_spec rfl) rfl ?_
  refine wm_iconst 0 3 (by decide +kernel : decode cX1_busyLines 2 = .ok (.iconst 0, 1)) rfl (by decide +kernel) ?_
  refine wm_istore_n 2 4 [some _, some _, some _] (by decide +kernel) rfl (by decide +kernel) (okS_spec rfl) rfl ?_
  obtain ⟨n9, H⟩ := H
  refine l_X1_busyLines_L4 g _  _ _ _ _ H
def f_X4_tail (x1 : Int32) (h : HP) (Q : Int32 → HP → Prop) : Prop :=
  (((x1 - x1 / 2 * 2) = 0) → kd (gw h 1) = 6 ∧ vp_in (x1 / 2) 10) ∧
  (¬ ((x1 - x1 / 2 * 2) = 0) → kd (gw h 1) = 6 ∧ vp_in (x1 / 2) 10) ∧
  Q (if (x1 - x1 / 2 * 2) = 0 then ((gi h (((gw h 1) + 2) + 7 + 2 * ix (x1 / 2)) 1) : Int32) else (gi h (((gw h 1) + 2) + 7 + 2 * ix (x1 / 2)) 2)) h
set_option maxRecDepth 20000 in
theorem l_X4_tail (g : GE) (x1 : Int32)  (h : HP) (Q : Int32 → HP → Prop) (H : f_X4_tail x1 h Q) : Wm g mX4_tail 0 [some (.ref 99), some (.int x1)] [] h (qi Q) := by
  unfold f_X4_tail at H
  refine wm_iload_n 1 1 (by decide +kernel) rfl rfl ?_
  refine wm_iconst 2 2 (by decide +kernel : decode cX4_tail 1 = .ok (.iconst 2, 1)) rfl (by decide +kernel) ?_
  refine wm_irem 3 (by decide +kernel) rfl (by decide +kernel) ?_
  obtain ⟨D6a, H⟩ := H
  obtain ⟨D6b, H⟩ := H
  refine' wm_dia (pcJ := 37) (fun kt kf => wm_if_ne 6 23 (by decide +kernel : decode cX4_tail 3 = .ok (.ifCond .ne 20, 3)) (by decide) rfl kf kt) ?D6k (fun kj c1 => ?D6t) (fun kj c1 => ?D6f)
  case D6t =>
    have H := D6a c1
    refine wm_aload_n 0 7 (by decide +kernel) rfl rfl ?_
    obtain ⟨o2, H⟩ := H
    refine wm_getw 4 1 10 fl_RX4_27 (by decide +kernel) rfl (by decide +kernel) rfl (by decide) o2 ?_
    refine wm_getr 6 5 2 _ 13 fl_RX4_46 (by decide +kernel) rfl o2 rfl rfl (by decide) ?_
    refine wm_iload_n 1 14 (by decide +kernel) rfl rfl ?_
    refine wm_iconst 2 15 (by decide +kernel : decode cX4_tail 14 = .ok (.iconst 2, 1)) rfl (by decide +kernel) ?_
    refine wm_idiv 16 (by decide +kernel) rfl (by decide +kernel) ?_
    have o3 := H
    refine wm_aald 10 _ 17 (by decide +kernel) rfl (Or.inr (Or.inl ⟨(W_ln o2).1, rfl⟩)) (W_ln o2).2 o3 ?_
    refine wm_geti 0 1 20 fl_RX4_91 (by decide +kernel) rfl (E_ln (W_ln o2).1 (vp_in_lt o3)) rfl ?_
    refine wm_goto 37 (by decide +kernel : decode cX4_tail 20 = .ok (.goto 17, 3)) (by decide) ?_
    exact kj
  case D6f =>
    have H := D6b c1
    refine wm_aload_n 0 24 (by decide +kernel) rfl rfl ?_
    obtain ⟨o4, H⟩ := H
    refine wm_getw 4 1 27 fl_RX4_27 (by decide +kernel) rfl (by decide +kernel) rfl (by decide) o4 ?_
    refine wm_getr 6 5 2 _ 30 fl_RX4_46 (by decide +kernel) rfl o4 rfl rfl (by decide) ?_
    refine wm_iload_n 1 31 (by decide +kernel) rfl rfl ?_
    refine wm_iconst 2 32 (by decide +kernel : decode cX4_tail 31 = .ok (.iconst 2, 1)) rfl (by decide +kernel) ?_
    refine wm_idiv 33 (by decide +kernel) rfl (by decide +kernel) ?_
    have o5 := H
    refine wm_aald 10 _ 34 (by decide +kernel) rfl (Or.inr (Or.inl ⟨(W_ln o4).1, rfl⟩)) (W_ln o4).2 o5 ?_
    refine wm_geti 0 2 37 fl_RX4_94 (by decide +kernel) rfl (E_ln (W_ln o4).1 (vp_in_lt o5)) rfl ?_
    exact kj
  case D6k =>
    exact wm_iret (by decide +kernel) ⟨.int, rfl, rfl⟩ H
def f_X4_room (x1 : Int32) (h : HP) (Q : Int32 → HP → Prop) : Prop :=
  (((x1 - x1 / 2 * 2) = 0) → vp_in (x1 / 2) 10) ∧
  (¬ ((x1 - x1 / 2 * 2) = 0) → vp_in (x1 / 2) 10) ∧
  Q (if (x1 - x1 / 2 * 2) = 0 then ((gi h 101 (ix (x1 / 2))) : Int32) else (gi h 102 (ix (x1 / 2)))) h
set_option maxRecDepth 20000 in
theorem l_X4_room (g : GE) (x1 : Int32)  (h : HP) (Q : Int32 → HP → Prop) (H : f_X4_room x1 h Q) : Wm g mX4_room 0 [some (.ref 99), some (.int x1)] [] h (qi Q) := by
  unfold f_X4_room at H
  refine wm_iload_n 1 1 (by decide +kernel) rfl rfl ?_
  refine wm_iconst 2 2 (by decide +kernel : decode cX4_room 1 = .ok (.iconst 2, 1)) rfl (by decide +kernel) ?_
  refine wm_irem 3 (by decide +kernel) rfl (by decide +kernel) ?_
  obtain ⟨D4a, H⟩ := H
  obtain ⟨D4b, H⟩ := H
  refine' wm_dia (pcJ := 25) (fun kt kf => wm_if_ne 6 17 (by decide +kernel : decode cX4_room 3 = .ok (.ifCond .ne 14, 3)) (by decide) rfl kf kt) ?D4k (fun kj c1 => ?D4t) (fun kj c1 => ?D4f)
  case D4t =>
    have H := D4a c1
    refine wm_aload_n 0 7 (by decide +kernel) rfl rfl ?_
    refine wm_getr 4 3 2 101 10 fl_RX4_15 (by decide +kernel) rfl (by decide +kernel) rfl rfl (by decide) ?_
    refine wm_iload_n 1 11 (by decide +kernel) rfl rfl ?_
    refine wm_iconst 2 12 (by decide +kernel : decode cX4_room 11 = .ok (.iconst 2, 1)) rfl (by decide +kernel) ?_
    refine wm_idiv 13 (by decide +kernel) rfl (by decide +kernel) ?_
    have o2 := H
    refine wm_iald 10 14 (by decide +kernel) rfl (by decide +kernel) (by decide +kernel) o2 ?_
    refine wm_goto 25 (by decide +kernel : decode cX4_room 14 = .ok (.goto 11, 3)) (by decide) ?_
    exact kj
  case D4f =>
    have H := D4b c1
    refine wm_aload_n 0 18 (by decide +kernel) rfl rfl ?_
    refine wm_getr 4 4 3 102 21 fl_RX4_18 (by decide +kernel) rfl (by decide +kernel) rfl rfl (by decide) ?_
    refine wm_iload_n 1 22 (by decide +kernel) rfl rfl ?_
    refine wm_iconst 2 23 (by decide +kernel : decode cX4_room 22 = .ok (.iconst 2, 1)) rfl (by decide +kernel) ?_
    refine wm_idiv 24 (by decide +kernel) rfl (by decide +kernel) ?_
    have o3 := H
    refine wm_iald 10 25 (by decide +kernel) rfl (by decide +kernel) (by decide +kernel) o3 ?_
    exact kj
  case D4k =>
    exact wm_iret (by decide +kernel) ⟨.int, rfl, rfl⟩ H
def f_X4_head (x1 : Int32) (h : HP) (Q : Int32 → HP → Prop) : Prop :=
  f_X4_tail (x1 ^^^ 1) h (fun v2 h1 =>
  Q v2 h1)
set_option maxRecDepth 20000 in
theorem l_X4_head (g : GE) (x1 : Int32)  (h : HP) (Q : Int32 → HP → Prop) (H : f_X4_head x1 h Q) : Wm g mX4_head 0 [some (.ref 99), some (.int x1)] [] h (qi Q) := by
  unfold f_X4_head at H
  refine wm_aload_n 0 1 (by decide +kernel) rfl rfl ?_
  refine wm_iload_n 1 2 (by decide +kernel) rfl rfl ?_
  refine wm_iconst 1 3 (by decide +kernel : decode cX4_head 2 = .ok (.iconst 1, 1)) rfl (by decide +kernel) ?_
  refine wm_ixor 4 (by decide +kernel) rfl ?_
  refine wm_callVi mX4_tail 1 4 [_] [] _ _ 7 mo_X4_tail np_X4_tail ml_RX4_80 im_X4_tail se_X4_tail (by decide +kernel) (by decide +kernel) rfl rfl rfl (Nat.le_of_ble_eq_true rfl) (by decide +kernel) rfl (Nat.le_of_ble_eq_true rfl) _ (ent_pad 0 rfl) (l_X4_tail g _ _ _ H) (fun v2 h1 H hzv2 => ?_)
  exact wm_iret (by decide +kernel) ⟨.int, rfl, rfl⟩ H
def f_X4_improve (x1 : Int32) (h : HP) (Q : Int32 → HP → Prop) : Prop :=
  f_X4_tail x1 h (fun v2 h1 =>
  vp_in v2 6 ∧
  ∀ x2_4 : Int32, x2_4 = (gi h1 103 (ix v2)) →
  (((x2_4 = 1000000) →
    Q 0 h1) ∧
   (¬ (x2_4 = 1000000) →
    f_X4_room x1 h1 (fun v7 h6 =>
    (((v7 = 0) →
      Q 0 h6) ∧
     (¬ (v7 = 0) →
      kd (gw h6 1) = 6 ∧
      vp_in (x1 / 2) 10 ∧
      f_X0_takes (((gw h6 1) + 2) + 7 + 2 * ix (x1 / 2)) h6 (fun v12 h11 =>
      ∀ x4_15 : Int32, x4_15 = (if (x1 - x1 / 2 * 2) = 0 then ((x2_4 + v12) : Int32) else (x2_4 - v12)) →
      f_X4_head x1 h11 (fun v17 h16 =>
      vp_in v17 6 ∧
      (((x4_15 < (gi h16 103 (ix v17))) →
        f_X4_head x1 h16 (fun v21 h20 =>
        vp_in v21 6 ∧
        ∀ h23 : HP, h23 = si h20 103 (ix v21) x4_15 →
        f_X4_head x1 h23 (fun v25 h24 =>
        vp_in v25 6 ∧
        ∀ h27 : HP, h27 = si h24 104 (ix v25) x1 →
        Q 1 h27))) ∧
       (¬ (x4_15 < (gi h16 103 (ix v17))) →
        Q 0 h16))))))))))
set_option maxRecDepth 20000 in
theorem l_X4_improve (g : GE) (x1 : Int32)  (h : HP) (Q : Int32 → HP → Prop) (H : f_X4_improve x1 h Q) : Wm g mX4_improve 0 [some (.ref 99), some (.int x1), none, none, none] [] h (qi Q) := by
  unfold f_X4_improve at H
  refine wm_aload_n 0 1 (by decide +kernel) rfl rfl ?_
  refine wm_getr 4 5 4 103 4 fl_RX4_21 (by decide +kernel) rfl (by decide +kernel) rfl rfl (by decide) ?_
  refine wm_aload_n 0 5 (by decide +kernel) rfl rfl ?_
  refine wm_iload_n 1 6 (by decide +kernel) rfl rfl ?_
  refine wm_callVi mX4_tail 1 4 [_] [_] _ _ 9 mo_X4_tail np_X4_tail ml_RX4_80 im_X4_tail se_X4_tail (by decide +kernel) (by decide +kernel) rfl rfl rfl (Nat.le_of_ble_eq_true rfl) (by decide +kernel) rfl (Nat.le_of_ble_eq_true rfl) _ (ent_pad 0 rfl) (l_X4_tail g _ _ _ H) (fun v2 h1 H hzv2 => ?_)
  obtain ⟨o3, H⟩ := H
  refine wm_iald 6 10 (by decide +kernel) rfl (by decide +kernel) (by decide +kernel) o3 ?_
  replace H := H _ rfl
  refine wm_istore_n 2 11 [some _, some _, some _, none, none] (by decide +kernel) rfl (by decide +kernel) (okS_spec rfl) rfl ?_
  refine wm_iload_n 2 12 (by decide +kernel) rfl rfl ?_
  refine wm_ldc 1000000 14 co_RX4_59 (by decide +kernel) rfl ?_
  refine wm_icmp_eq 17 25 (by decide +kernel : decode cX4_improve 14 = .ok (.if_icmp .eq 11, 3)) (by decide) rfl (fun c5 => ?_) (fun c5 => ?_)
  · replace H := H.1 c5
    refine wm_iconst 0 26 (by decide +kernel : decode cX4_improve 25 = .ok (.iconst 0, 1)) rfl (by decide +kernel) ?_
    exact wm_iret (by decide +kernel) ⟨.boolean, rfl, (by decide +kernel)⟩ H
  · replace H := H.2 c5
    refine wm_aload_n 0 18 (by decide +kernel) rfl rfl ?_
    refine wm_iload_n 1 19 (by decide +kernel) rfl rfl ?_
    refine wm_callVi mX4_room 1 4 [_] [] _ _ 22 mo_X4_room np_X4_room ml_RX4_83 im_X4_room se_X4_room (by decide +kernel) (by decide +kernel) rfl rfl rfl (Nat.le_of_ble_eq_true rfl) (by decide +kernel) rfl (Nat.le_of_ble_eq_true rfl) _ (ent_pad 0 rfl) (l_X4_room g _ _ _ H) (fun v7 h6 H hzv7 => ?_)
    refine wm_if_ne 25 27 (by decide +kernel : decode cX4_improve 22 = .ok (.ifCond .ne 5, 3)) (by decide) rfl (fun c8 => ?_) (fun c8 => ?_)
    · replace H := H.2 c8
      refine wm_aload_n 0 28 (by decide +kernel) rfl rfl ?_
      obtain ⟨o9, H⟩ := H
      refine wm_getw 4 1 31 fl_RX4_27 (by decide +kernel) rfl (by decide +kernel) rfl (by decide) o9 ?_
      refine wm_getr 6 5 2 _ 34 fl_RX4_46 (by decide +kernel) rfl o9 rfl rfl (by decide) ?_
      refine wm_iload_n 1 35 (by decide +kernel) rfl rfl ?_
      refine wm_iconst 2 36 (by decide +kernel : decode cX4_improve 35 = .ok (.iconst 2, 1)) rfl (by decide +kernel) ?_
      refine wm_idiv 37 (by decide +kernel) rfl (by decide +kernel) ?_
      obtain ⟨o10, H⟩ := H
      refine wm_aald 10 _ 38 (by decide +kernel) rfl (Or.inr (Or.inl ⟨(W_ln o9).1, rfl⟩)) (W_ln o9).2 o10 ?_
      refine wm_callVi mX0_takes 0 0 [] [] _ _ 41 mo_X0_takes np_X0_takes ml_RX4_84 im_X0_takes se_X0_takes (by decide +kernel) (by decide +kernel) rfl rfl rfl (Nat.le_of_ble_eq_true rfl) (E_ln (W_ln o9).1 (vp_in_lt o10)) rfl (Nat.le_of_ble_eq_true rfl) _ (ent_pad 0 rfl) (l_X0_takes g _ (E_ln (W_ln o9).1 (vp_in_lt o10)) _ _ H) (fun v12 h11 H hzv12 => ?_)
      refine wm_istore_n 3 42 [some _, some _, some _, some _, none] (by decide +kernel) rfl (by decide +kernel) (okS_spec rfl) rfl ?_
      refine wm_iload_n 1 43 (by decide +kernel) rfl rfl ?_
      refine wm_iconst 2 44 (by decide +kernel : decode cX4_improve 43 = .ok (.iconst 2, 1)) rfl (by decide +kernel) ?_
      refine wm_irem 45 (by decide +kernel) rfl (by decide +kernel) ?_
      refine' wm_dia (pcJ := 57) (fun kt kf => wm_if_ne 48 54 (by decide +kernel : decode cX4_improve 45 = .ok (.ifCond .ne 9, 3)) (by decide) rfl kf kt) ?D14k (fun kj c1 => ?D14t) (fun kj c1 => ?D14f)
      case D14t =>
        refine wm_iload_n 2 49 (by decide +kernel) rfl rfl ?_
        refine wm_iload_n 3 50 (by decide +kernel) rfl rfl ?_
        refine wm_iadd 51 (by decide +kernel) rfl ?_
        refine wm_goto 57 (by decide +kernel : decode cX4_improve 51 = .ok (.goto 6, 3)) (by decide) ?_
        exact kj
      case D14f =>
        refine wm_iload_n 2 55 (by decide +kernel) rfl rfl ?_
        refine wm_iload_n 3 56 (by decide +kernel) rfl rfl ?_
        refine wm_isub 57 (by decide +kernel) rfl ?_
        exact kj
      case D14k =>
        replace H := H _ rfl
        refine wm_istore 4 59 [some _, some _, some _, some _, some _] (by decide +kernel) rfl (by decide +kernel) (okS_spec rfl) rfl ?_
        refine wm_iload 4 61 (by decide +kernel) rfl rfl ?_
        refine wm_aload_n 0 62 (by decide +kernel) rfl rfl ?_
        refine wm_getr 4 5 4 103 65 fl_RX4_21 (by decide +kernel) rfl (by decide +kernel) rfl rfl (by decide) ?_
        refine wm_aload_n 0 66 (by decide +kernel) rfl rfl ?_
        refine wm_iload_n 1 67 (by decide +kernel) rfl rfl ?_
        refine wm_callVi mX4_head 1 4 [_] [_, _] _ _ 70 mo_X4_head np_X4_head ml_RX4_88 im_X4_head se_X4_head (by decide +kernel) (by decide +kernel) rfl rfl rfl (Nat.le_of_ble_eq_true rfl) (by decide +kernel) rfl (Nat.le_of_ble_eq_true rfl) _ (ent_pad 0 rfl) (l_X4_head g _ _ _ H) (fun v17 h16 H hzv17 => ?_)
        obtain ⟨o18, H⟩ := H
        refine wm_iald 6 71 (by decide +kernel) rfl (by decide +kernel) (by decide +kernel) o18 ?_
        refine wm_icmp_lt 74 76 (by decide +kernel : decode cX4_improve 71 = .ok (.if_icmp .lt 5, 3)) (by decide) rfl (fun c19 => ?_) (fun c19 => ?_)
        · replace H := H.1 c19
          refine wm_aload_n 0 77 (by decide +kernel) rfl rfl ?_
          refine wm_getr 4 5 4 103 80 fl_RX4_21 (by decide +kernel) rfl (by decide +kernel) rfl rfl (by decide) ?_
          refine wm_aload_n 0 81 (by decide +kernel) rfl rfl ?_
          refine wm_iload_n 1 82 (by decide +kernel) rfl rfl ?_
          refine wm_callVi mX4_head 1 4 [_] [_] _ _ 85 mo_X4_head np_X4_head ml_RX4_88 im_X4_head se_X4_head (by decide +kernel) (by decide +kernel) rfl rfl rfl (Nat.le_of_ble_eq_true rfl) (by decide +kernel) rfl (Nat.le_of_ble_eq_true rfl) _ (ent_pad 0 rfl) (l_X4_head g _ _ _ H) (fun v21 h20 H hzv21 => ?_)
          refine wm_iload 4 87 (by decide +kernel) rfl rfl ?_
          obtain ⟨o22, H⟩ := H
          replace H := H _ rfl
          refine wm_iast 6 88 (by decide +kernel) rfl (by decide +kernel) (by decide +kernel) o22 ?_
          refine wm_aload_n 0 89 (by decide +kernel) rfl rfl ?_
          refine wm_getr 4 6 5 104 92 fl_RX4_24 (by decide +kernel) rfl (by decide +kernel) rfl rfl (by decide) ?_
          refine wm_aload_n 0 93 (by decide +kernel) rfl rfl ?_
          refine wm_iload_n 1 94 (by decide +kernel) rfl rfl ?_
          refine wm_callVi mX4_head 1 4 [_] [_] _ _ 97 mo_X4_head np_X4_head ml_RX4_88 im_X4_head se_X4_head (by decide +kernel) (by decide +kernel) rfl rfl rfl (Nat.le_of_ble_eq_true rfl) (by decide +kernel) rfl (Nat.le_of_ble_eq_true rfl) _ (ent_pad 0 rfl) (l_X4_head g _ _ _ H) (fun v25 h24 H hzv25 => ?_)
          refine wm_iload_n 1 98 (by decide +kernel) rfl rfl ?_
          obtain ⟨o26, H⟩ := H
          replace H := H _ rfl
          refine wm_iast 6 99 (by decide +kernel) rfl (by decide +kernel) (by decide +kernel) o26 ?_
          refine wm_iconst 1 100 (by decide +kernel : decode cX4_improve 99 = .ok (.iconst 1, 1)) rfl (by decide +kernel) ?_
          exact wm_iret (by decide +kernel) ⟨.boolean, rfl, (by decide +kernel)⟩ H
        · replace H := H.2 c19
          refine wm_iconst 0 75 (by decide +kernel : decode cX4_improve 74 = .ok (.iconst 0, 1)) rfl (by decide +kernel) ?_
          exact wm_iret (by decide +kernel) ⟨.boolean, rfl, (by decide +kernel)⟩ H
    · replace H := H.1 c8
      refine wm_iconst 0 26 (by decide +kernel : decode cX4_improve 25 = .ok (.iconst 0, 1)) rfl (by decide +kernel) ?_
      exact wm_iret (by decide +kernel) ⟨.boolean, rfl, (by decide +kernel)⟩ H
def f_X4_findQuickest_L45 (x2 : Int32) (x4 : Int32) (k76 : Int32 → HP → Prop) (Q : Int32 → HP → Prop) : Nat → Int32 → Int32 → HP → Prop
  | 0, _, _, _ => False
  | n + 1, x3, x5, h =>
    kd (gw h 1) = 6 ∧
    ((((2 * (gi h (gw h 1) 3)) ≤ x5) →
      k76 x3 h) ∧
     (¬ ((2 * (gi h (gw h 1) 3)) ≤ x5) →
      f_X4_improve x5 h (fun v10 h9 =>
      (((v10 = 0) →
        ∀ x5_12 : Int32, x5_12 = (x5 + 1) →
        f_X4_findQuickest_L45 x2 x4 k76 Q n x3 x5_12 h9) ∧
       (¬ (v10 = 0) →
        ∀ x5_13 : Int32, x5_13 = (x5 + 1) →
        f_X4_findQuickest_L45 x2 x4 k76 Q n 1 x5_13 h9)))))
def f_X4_findQuickest_L29 (x2 : Int32) (k82 : HP → Prop) (Q : Int32 → HP → Prop) : Nat → Int32 → Int32 → HP → Prop
  | 0, _, _, _ => False
  | n + 1, x3, x4, h =>
    (((6 ≤ x4) →
      k82 h) ∧
     (¬ (6 ≤ x4) →
      (((x3 = 0) →
        k82 h) ∧
       (¬ (x3 = 0) →
        ∃ n17, f_X4_findQuickest_L45 x2 x4
          (fun x3_14 h15 =>
            ∀ x4_16 : Int32, x4_16 = (x4 + 1) →
            f_X4_findQuickest_L29 x2 k82 Q n x3_14 x4_16 h15)
          Q n17 0 0 h))))
def f_X4_findQuickest_J82 (x2 : Int32)  (Q : Int32 → HP → Prop) (h : HP) : Prop :=
  vp_in x2 6 ∧
  Q (if 1000000 ≤ (gi h 103 (ix x2)) then (0 : Int32) else 1) h
def f_X4_findQuickest (x1 : Int32) (x2 : Int32) (h : HP) (Q : Int32 → HP → Prop) : Prop :=
  f_J7_fill_53178 103 1000000 h (fun h1 =>
  f_J7_fill_53178 104 (-1 : Int32) h1 (fun h2 =>
  vp_in x1 6 ∧
  ∀ h4 : HP, h4 = si h2 103 (ix x1) 0 →
  ∃ n22, f_X4_findQuickest_L29 x2
    (fun h18 =>
      f_X4_findQuickest_J82 x2  Q h18)
    Q n22 1 0 h4))
set_option maxRecDepth 20000 in
theorem l_X4_findQuickest_L45 (g : GE) (x2 : Int32) (x4 : Int32)  (k76 : Int32 → HP → Prop) (Q : Int32 → HP → Prop) (hk76 : ∀ (x3 : Int32) (hzx3 : narrow .boolean (.int x3) = .int x3) (h : HP), k76 x3 h → Wm g mX4_findQuickest 76 [some (.ref 99), none, some (.int x2), some (.int x3), some (.int x4), none] [] h (qi Q)) : ∀ (n : Nat) (x3 : Int32) (x5 : Int32) (hzx3 : narrow .boolean (.int x3) = .int x3) (h : HP), f_X4_findQuickest_L45 x2 x4 k76 Q n x3 x5 h → Wm g mX4_findQuickest 45 [some (.ref 99), none, some (.int x2), some (.int x3), some (.int x4), some (.int x5)] [] h (qi Q) := by
  intro n
  induction n with
  | zero => intro x3 x5 hzx3 h H; exact H.elim
  | succ n ih =>
    intro x3 x5 hzx3 h H
    unfold f_X4_findQuickest_L45 at H
    refine wm_iload 5 47 (by decide +kernel) rfl rfl ?_
    refine wm_iconst 2 48 (by decide +kernel : decode cX4_findQuickest 47 = .ok (.iconst 2, 1)) rfl (by decide +kernel) ?_
    refine wm_aload_n 0 49 (by decide +kernel) rfl rfl ?_
    obtain ⟨o7, H⟩ := H
    refine wm_getw 4 1 52 fl_RX4_27 (by decide +kernel) rfl (by decide +kernel) rfl (by decide) o7 ?_
    refine wm_geti 6 3 55 fl_RX4_41 (by decide +kernel) rfl o7 rfl ?_
    refine wm_imul 56 (by decide +kernel) rfl ?_
    refine wm_icmp_ge 59 76 (by decide +kernel : decode cX4_findQuickest 56 = .ok (.if_icmp .ge 20, 3)) (by decide) rfl (fun c8 => ?_) (fun c8 => ?_)
    · replace H := H.1 c8
      refine wm_mask [true, false, true, true, true, false] [some _, none, some _, some _, some _, none] rfl ?_
      exact hk76 _ hzx3 _ H
    · replace H := H.2 c8
      refine wm_aload_n 0 60 (by decide +kernel) rfl rfl ?_
      refine wm_iload 5 62 (by decide +kernel) rfl rfl ?_
      refine wm_callVi mX4_improve 1 4 [_] [] _ _ 65 mo_X4_improve np_X4_improve ml_RX4_76 im_X4_improve se_X4_improve (by decide +kernel) (by decide +kernel) rfl rfl rfl (Nat.le_of_ble_eq_true rfl) (by decide +kernel) rfl (Nat.le_of_ble_eq_true rfl) _ (ent_pad 3 rfl) (l_X4_improve g _ _ _ H) (fun v10 h9 H hzv10 => ?_)
      refine wm_if_eq 68 70 (by decide +kernel : decode cX4_findQuickest 65 = .ok (.ifCond .eq 5, 3)) (by decide) rfl (fun c11 => ?_) (fun c11 => ?_)
      · replace H := H.1 c11
        replace H := H _ rfl
        refine wm_iinc 5 (_ + 1) 73 [some _, none, some _, some _, some _, some _] (by decide +kernel : decode cX4_findQuickest 70 = .ok (.iinc 5 1, 3)) rfl (by decide +kernel) rfl (ofI_eq (by decide +kernel)) (okS_spec rfl) rfl ?_
        refine wm_goto 45 (by decide +kernel : decode cX4_findQuickest 73 = .ok (.goto (-28), 3)) (by decide) ?_
        exact ih _ _ hzx3 _ H
      · replace H := H.2 c11
        refine wm_iconst 1 69 (by decide +kernel : decode cX4_findQuickest 68 = .ok (.iconst 1, 1)) rfl (by decide +kernel) ?_
        refine wm_istore_n 3 70 [some _, none, some _, some _, some _, some _] (by decide +kernel) rfl (by decide +kernel) (okS_spec rfl) rfl ?_
        replace H := H _ rfl
        refine wm_iinc 5 (_ + 1) 73 [some _, none, some _, some _, some _, some _] (by decide +kernel : decode cX4_findQuickest 70 = .ok (.iinc 5 1, 3)) rfl (by decide +kernel) rfl (ofI_eq (by decide +kernel)) (okS_spec rfl) rfl ?_
        refine wm_goto 45 (by decide +kernel : decode cX4_findQuickest 73 = .ok (.goto (-28), 3)) (by decide) ?_
        exact ih _ _ (by decide +kernel) _ H
set_option maxRecDepth 20000 in
theorem l_X4_findQuickest_L29 (g : GE) (x2 : Int32)  (k82 : HP → Prop) (Q : Int32 → HP → Prop) (hk82 : ∀  (h : HP), k82  h → Wm g mX4_findQuickest 82 [some (.ref 99), none, some (.int x2), none, none, none] [] h (qi Q)) : ∀ (n : Nat) (x3 : Int32) (x4 : Int32) (hzx3 : narrow .boolean (.int x3) = .int x3) (h : HP), f_X4_findQuickest_L29 x2 k82 Q n x3 x4 h → Wm g mX4_findQuickest 29 [some (.ref 99), none, some (.int x2), some (.int x3), some (.int x4), none] [] h (qi Q) := by
  intro n
  induction n with
  | zero => intro x3 x4 hzx3 h H; exact H.elim
  | succ n ih =>
    intro x3 x4 hzx3 h H
    unfold f_X4_findQuickest_L29 at H
    refine wm_iload 4 31 (by decide +kernel) rfl rfl ?_
    refine wm_bipush 6 33 (by decide +kernel : decode cX4_findQuickest 31 = .ok (.bipush 6, 2)) rfl (by decide +kernel) ?_
    refine wm_icmp_ge 36 82 (by decide +kernel : decode cX4_findQuickest 33 = .ok (.if_icmp .ge 49, 3)) (by decide) rfl (fun c5 => ?_) (fun c5 => ?_)
    · replace H := H.1 c5
      refine wm_mask [true, false, true, false, false, false] [some _, none, some _, none, none, none] rfl ?_
      exact hk82 _ H
    · replace H := H.2 c5
      refine wm_iload_n 3 37 (by decide +kernel) rfl rfl ?_
      refine wm_if_eq 40 82 (by decide +kernel : decode cX4_findQuickest 37 = .ok (.ifCond .eq 45, 3)) (by decide) rfl (fun c6 => ?_) (fun c6 => ?_)
      · replace H := H.1 c6
        refine wm_mask [true, false, true, false, false, false] [some _, none, some _, none, none, none] rfl ?_
        exact hk82 _ H
      · replace H := H.2 c6
        refine wm_iconst 0 41 (by decide +kernel : decode cX4_findQuickest 40 = .ok (.iconst 0, 1)) rfl (by decide +kernel) ?_
        refine wm_istore_n 3 42 [some _, none, some _, some _, some _, none] (by decide +kernel) rfl (by decide +kernel) (okS_spec rfl) rfl ?_
        refine wm_iconst 0 43 (by decide +kernel : decode cX4_findQuickest 42 = .ok (.iconst 0, 1)) rfl (by decide +kernel) ?_
        refine wm_istore 5 45 [some _, none, some _, some _, some _, some _] (by decide +kernel) rfl (by decide +kernel) (okS_spec rfl) rfl ?_
        obtain ⟨n17, H⟩ := H
        refine l_X4_findQuickest_L45 g _ _ _ _ (fun x3_14 hzx3_14 h15 H => ?_) _ _ _ (by decide +kernel) _ H
        · skip
          replace H := H _ rfl
          refine wm_iinc 4 (_ + 1) 79 [some _, none, some _, some _, some _, none] (by decide +kernel : decode cX4_findQuickest 76 = .ok (.iinc 4 1, 3)) rfl (by decide +kernel) rfl (ofI_eq (by decide +kernel)) (okS_spec rfl) rfl ?_
          refine wm_goto 29 (by decide +kernel : decode cX4_findQuickest 79 = .ok (.goto (-50), 3)) (by decide) ?_
          exact ih _ _ hzx3_14 _ H
set_option maxRecDepth 20000 in
theorem l_X4_findQuickest_J82 (g : GE) (x2 : Int32)   (Q : Int32 → HP → Prop)  (h : HP) (H : f_X4_findQuickest_J82 x2  Q h) : Wm g mX4_findQuickest 82 [some (.ref 99), none, some (.int x2), none, none, none] [] h (qi Q) := by
  unfold f_X4_findQuickest_J82 at H
  refine wm_aload_n 0 83 (by decide +kernel) rfl rfl ?_
  refine wm_getr 4 5 4 103 86 fl_RX4_21 (by decide +kernel) rfl (by decide +kernel) rfl rfl (by decide) ?_
  refine wm_iload_n 2 87 (by decide +kernel) rfl rfl ?_
  obtain ⟨o19, H⟩ := H
  refine wm_iald 6 88 (by decide +kernel) rfl (by decide +kernel) (by decide +kernel) o19 ?_
  refine wm_ldc 1000000 90 co_RX4_59 (by decide +kernel) rfl ?_
  refine' wm_dia (pcJ := 98) (fun kt kf => wm_icmp_ge 93 97 (by decide +kernel : decode cX4_findQuickest 90 = .ok (.if_icmp .ge 7, 3)) (by decide) rfl kt kf) ?D21k (fun kj c1 => ?D21t) (fun kj c1 => ?D21f)
  case D21t =>
    refine wm_iconst 0 98 (by decide +kernel : decode cX4_findQuickest 97 = .ok (.iconst 0, 1)) rfl (by decide +kernel) ?_
    exact kj
  case D21f =>
    refine wm_iconst 1 94 (by decide +kernel : decode cX4_findQuickest 93 = .ok (.iconst 1, 1)) rfl (by decide +kernel) ?_
    refine wm_goto 98 (by decide +kernel : decode cX4_findQuickest 94 = .ok (.goto 4, 3)) (by decide) ?_
    exact kj
  case D21k =>
    exact wm_iret (by decide +kernel) ⟨.boolean, rfl, (nb_ite (by decide +kernel) (by decide +kernel))⟩ H
set_option maxRecDepth 20000 in
theorem l_X4_findQuickest (g : GE) (x1 : Int32) (x2 : Int32)  (h : HP) (Q : Int32 → HP → Prop) (H : f_X4_findQuickest x1 x2 h Q) : Wm g mX4_findQuickest 0 [some (.ref 99), some (.int x1), some (.int x2), none, none, none] [] h (qi Q) := by
  unfold f_X4_findQuickest at H
  refine wm_aload_n 0 1 (by decide +kernel) rfl rfl ?_
  refine wm_getr 4 5 4 103 4 fl_RX4_21 (by decide +kernel) rfl (by decide +kernel) rfl rfl (by decide) ?_
  refine wm_ldc 1000000 6 co_RX4_59 (by decide +kernel) rfl ?_
  refine wm_callSv mJ7_fill_53178 2 [_, _] [] _ _ 9 mo_J7_fill_53178 np_J7_fill_53178 ml_RX4_35 sc_J7_fill_53178 (by decide +kernel) (by decide +kernel) rfl rfl rfl (Nat.le_of_ble_eq_true rfl) (Nat.le_of_ble_eq_true rfl) _ (ent_pad 2 rfl) (l_J7_fill_53178 g _ _ (by decide +kernel) _ _ H) (fun h1 H => ?_)
  refine wm_aload_n 0 10 (by decide +kernel) rfl rfl ?_
  refine wm_getr 4 6 5 104 13 fl_RX4_24 (by decide +kernel) rfl (by decide +kernel) rfl rfl (by decide) ?_
  refine wm_iconst (-1) 14 (by decide +kernel : decode cX4_findQuickest 13 = .ok (.iconst (-1), 1)) rfl (by decide +kernel) ?_
  refine wm_callSv mJ7_fill_53178 2 [_, _] [] _ _ 17 mo_J7_fill_53178 np_J7_fill_53178 ml_RX4_35 sc_J7_fill_53178 (by decide +kernel) (by decide +kernel) rfl rfl rfl (Nat.le_of_ble_eq_true rfl) (Nat.le_of_ble_eq_true rfl) _ (ent_pad 2 rfl) (l_J7_fill_53178 g _ _ (by decide +kernel) _ _ H) (fun h2 H => ?_)
  refine wm_aload_n 0 18 (by decide +kernel) rfl rfl ?_
  refine wm_getr 4 5 4 103 21 fl_RX4_21 (by decide +kernel) rfl (by decide +kernel) rfl rfl (by decide) ?_
  refine wm_iload_n 1 22 (by decide +kernel) rfl rfl ?_
  refine wm_iconst 0 23 (by decide +kernel : decode cX4_findQuickest 22 = .ok (.iconst 0, 1)) rfl (by decide +kernel) ?_
  obtain ⟨o3, H⟩ := H
  replace H := H _ rfl
  refine wm_iast 6 24 (by decide +kernel) rfl (by decide +kernel) (by decide +kernel) o3 ?_
  refine wm_iconst 1 25 (by decide +kernel : decode cX4_findQuickest 24 = .ok (.iconst 1, 1)) rfl (by decide +kernel) ?_
  refine wm_istore_n 3 26 [some _, some _, some _, some _, none, none] (by decide +kernel) rfl (by decide +kernel) (okS_spec rfl) rfl ?_
  refine wm_iconst 0 27 (by decide +kernel : decode cX4_findQuickest 26 = .ok (.iconst 0, 1)) rfl (by decide +kernel) ?_
  refine wm_istore 4 29 [some _, some _, some _, some _, some _, none] (by decide +kernel) rfl (by decide +kernel) (okS_spec rfl) rfl ?_
  obtain ⟨n22, H⟩ := H
  refine wm_mask [true, false, true, true, true, false] [some _, none, some _, some _, some _, none] rfl ?_
  refine l_X4_findQuickest_L29 g _ _ _ (fun h18 H => ?_) _ _ _ (by decide +kernel) _ H
  · skip
    exact l_X4_findQuickest_J82 g _ _  _ H
def f_X4_narrowest_L9 (x1 : Int32)  (Q : Int32 → HP → Prop) : Nat → Int32 → Int32 → Int32 → HP → Prop
  | 0, _, _, _, _ => False
  | n + 1, x3, x4, x5, h =>
    (((6 ≤ x5) →
      Q x3 h) ∧
     (¬ (6 ≤ x5) →
      (((x4 = x1) →
        Q x3 h) ∧
       (¬ (x4 = x1) →
        vp_in x4 6 ∧
        ((((gi h 104 (ix x4)) < 0) →
          Q x3 h) ∧
         (¬ ((gi h 104 (ix x4)) < 0) →
          vp_in x4 6 ∧
          f_X4_room (gi h 104 (ix x4)) h (fun v7 h6 =>
          ∀ x3_8 : Int32, x3_8 = (if v7 < x3 then v7 else x3) →
          vp_in x4 6 ∧
          f_X4_tail (gi h6 104 (ix x4)) h6 (fun v11 h10 =>
          ∀ x5_12 : Int32, x5_12 = (x5 + 1) →
          f_X4_narrowest_L9 x1 Q n x3_8 v11 x5_12 h10))))))))
def f_X4_narrowest (x1 : Int32) (x2 : Int32) (h : HP) (Q : Int32 → HP → Prop) : Prop :=
  ∃ n13, f_X4_narrowest_L9 x1
    Q n13 2147483647 x2 0 h
set_option maxRecDepth 20000 in
theorem l_X4_narrowest_L9 (g : GE) (x1 : Int32)   (Q : Int32 → HP → Prop)  : ∀ (n : Nat) (x3 : Int32) (x4 : Int32) (x5 : Int32) (h : HP), f_X4_narrowest_L9 x1 Q n x3 x4 x5 h → Wm g mX4_narrowest 9 [some (.ref 99), some (.int x1), none, some (.int x3), some (.int x4), some (.int x5)] [] h (qi Q) := by
  intro n
  induction n with
  | zero => intro x3 x4 x5 h H; exact H.elim
  | succ n ih =>
    intro x3 x4 x5 h H
    unfold f_X4_narrowest_L9 at H
    refine wm_iload 5 11 (by decide +kernel) rfl rfl ?_
    refine wm_bipush 6 13 (by decide +kernel : decode cX4_narrowest 11 = .ok (.bipush 6, 2)) rfl (by decide +kernel) ?_
    refine wm_icmp_ge 16 67 (by decide +kernel : decode cX4_narrowest 13 = .ok (.if_icmp .ge 54, 3)) (by decide) rfl (fun c1 => ?_) (fun c1 => ?_)
    · replace H := H.1 c1
      refine wm_iload_n 3 68 (by decide +kernel) rfl rfl ?_
      exact wm_iret (by decide +kernel) ⟨.int, rfl, rfl⟩ H
    · replace H := H.2 c1
      refine wm_iload 4 18 (by decide +kernel) rfl rfl ?_
      refine wm_iload_n 1 19 (by decide +kernel) rfl rfl ?_
      refine wm_icmp_eq 22 67 (by decide +kernel : decode cX4_narrowest 19 = .ok (.if_icmp .eq 48, 3)) (by decide) rfl (fun c2 => ?_) (fun c2 => ?_)
      · replace H := H.1 c2
        refine wm_iload_n 3 68 (by decide +kernel) rfl rfl ?_
        exact wm_iret (by decide +kernel) ⟨.int, rfl, rfl⟩ H
      · replace H := H.2 c2
        refine wm_aload_n 0 23 (by decide +kernel) rfl rfl ?_
        refine wm_getr 4 6 5 104 26 fl_RX4_24 (by decide +kernel) rfl (by decide +kernel) rfl rfl (by decide) ?_
        refine wm_iload 4 28 (by decide +kernel) rfl rfl ?_
        obtain ⟨o3, H⟩ := H
        refine wm_iald 6 29 (by decide +kernel) rfl (by decide +kernel) (by decide +kernel) o3 ?_
        refine wm_if_lt 32 67 (by decide +kernel : decode cX4_narrowest 29 = .ok (.ifCond .lt 38, 3)) (by decide) rfl (fun c4 => ?_) (fun c4 => ?_)
        · replace H := H.1 c4
          refine wm_iload_n 3 68 (by decide +kernel) rfl rfl ?_
          exact wm_iret (by decide +kernel) ⟨.int, rfl, rfl⟩ H
        · replace H := H.2 c4
          refine wm_iload_n 3 33 (by decide +kernel) rfl rfl ?_
          refine wm_aload_n 0 34 (by decide +kernel) rfl rfl ?_
          refine wm_aload_n 0 35 (by decide +kernel) rfl rfl ?_
          refine wm_getr 4 6 5 104 38 fl_RX4_24 (by decide +kernel) rfl (by decide +kernel) rfl rfl (by decide) ?_
          refine wm_iload 4 40 (by decide +kernel) rfl rfl ?_
          obtain ⟨o5, H⟩ := H
          refine wm_iald 6 41 (by decide +kernel) rfl (by decide +kernel) (by decide +kernel) o5 ?_
          refine wm_callVi mX4_room 1 4 [_] [_] _ _ 44 mo_X4_room np_X4_room ml_RX4_83 im_X4_room se_X4_room (by decide +kernel) (by decide +kernel) rfl rfl rfl (Nat.le_of_ble_eq_true rfl) (by decide +kernel) rfl (Nat.le_of_ble_eq_true rfl) _ (ent_pad 0 rfl) (l_X4_room g _ _ _ H) (fun v7 h6 H hzv7 => ?_)
          refine wm_min 47 ml_RX4_98 st_min in_Math cd_min (by decide +kernel) (Nat.le_of_ble_eq_true rfl) (by decide +kernel) rfl ?_
          replace H := H _ rfl
          refine wm_istore_n 3 48 [some _, some _, none, some _, some _, some _] (by decide +kernel) rfl (by decide +kernel) (okS_spec rfl) rfl ?_
          refine wm_aload_n 0 49 (by decide +kernel) rfl rfl ?_
          refine wm_aload_n 0 50 (by decide +kernel) rfl rfl ?_
          refine wm_getr 4 6 5 104 53 fl_RX4_24 (by decide +kernel) rfl (by decide +kernel) rfl rfl (by decide) ?_
          refine wm_iload 4 55 (by decide +kernel) rfl rfl ?_
          obtain ⟨o9, H⟩ := H
          refine wm_iald 6 56 (by decide +kernel) rfl (by decide +kernel) (by decide +kernel) o9 ?_
          refine wm_callVi mX4_tail 1 4 [_] [] _ _ 59 mo_X4_tail np_X4_tail ml_RX4_80 im_X4_tail se_X4_tail (by decide +kernel) (by decide +kernel) rfl rfl rfl (Nat.le_of_ble_eq_true rfl) (by decide +kernel) rfl (Nat.le_of_ble_eq_true rfl) _ (ent_pad 0 rfl) (l_X4_tail g _ _ _ H) (fun v11 h10 H hzv11 => ?_)
          refine wm_istore 4 61 [some _, some _, none, some _, some _, some _] (by decide +kernel) rfl (by decide +kernel) (okS_spec rfl) rfl ?_
          replace H := H _ rfl
          refine wm_iinc 5 (_ + 1) 64 [some _, some _, none, some _, some _, some _] (by decide +kernel : decode cX4_narrowest 61 = .ok (.iinc 5 1, 3)) rfl (by decide +kernel) rfl (ofI_eq (by decide +kernel)) (okS_spec rfl) rfl ?_
          refine wm_goto 9 (by decide +kernel : decode cX4_narrowest 64 = .ok (.goto (-55), 3)) (by decide) ?_
          exact ih _ _ _ _ H
set_option maxRecDepth 20000 in
theorem l_X4_narrowest (g : GE) (x1 : Int32) (x2 : Int32)  (h : HP) (Q : Int32 → HP → Prop) (H : f_X4_narrowest x1 x2 h Q) : Wm g mX4_narrowest 0 [some (.ref 99), some (.int x1), some (.int x2), none, none, none] [] h (qi Q) := by
  unfold f_X4_narrowest at H
  refine wm_ldc 2147483647 2 co_RX4_97 (by decide +kernel) rfl ?_
  refine wm_istore_n 3 3 [some _, some _, some _, some _, none, none] (by decide +kernel) rfl (by decide +kernel) (okS_spec rfl) rfl ?_
  refine wm_iload_n 2 4 (by decide +kernel) rfl rfl ?_
  refine wm_istore 4 6 [some _, some _, some _, some _, some _, none] (by decide +kernel) rfl (by decide +kernel) (okS_spec rfl) rfl ?_
  refine wm_iconst 0 7 (by decide +kernel : decode cX4_narrowest 6 = .ok (.iconst 0, 1)) rfl (by decide +kernel) ?_
  refine wm_istore 5 9 [some _, some _, some _, some _, some _, some _] (by decide +kernel) rfl (by decide +kernel) (okS_spec rfl) rfl ?_
  obtain ⟨n13, H⟩ := H
  refine wm_mask [true, true, false, true, true, true] [some _, some _, none, some _, some _, some _] rfl ?_
  refine l_X4_narrowest_L9 g _ _  _ _ _ _ _ H
def f_X4_push_L6 (x1 : Int32) (x3 : Int32)  (Q : HP → Prop) : Nat → Int32 → Int32 → HP → Prop
  | 0, _, _, _ => False
  | n + 1, x4, x5, h =>
    (((6 ≤ x5) →
      Q h) ∧
     (¬ (6 ≤ x5) →
      (((x4 = x1) →
        Q h) ∧
       (¬ (x4 = x1) →
        vp_in x4 6 ∧
        ((((gi h 104 (ix x4)) < 0) →
          Q h) ∧
         (¬ ((gi h 104 (ix x4)) < 0) →
          vp_in x4 6 ∧
          ∀ x6_6 : Int32, x6_6 = (gi h 104 (ix x4)) →
          ∀ x7_9 : Int32, x7_9 = (if (x6_6 - x6_6 / 2 * 2) = 0 then (x3 : Int32) else (-x3)) →
          vp_in (x6_6 / 2) 10 ∧
          vp_in (x6_6 / 2) 10 ∧
          ∀ h12 : HP, h12 = si h 101 (ix (x6_6 / 2)) ((gi h 101 (ix (x6_6 / 2))) - x7_9) →
          vp_in (x6_6 / 2) 10 ∧
          vp_in (x6_6 / 2) 10 ∧
          ∀ h15 : HP, h15 = si h12 102 (ix (x6_6 / 2)) ((gi h12 102 (ix (x6_6 / 2))) + x7_9) →
          f_X4_tail x6_6 h15 (fun v17 h16 =>
          ∀ x5_18 : Int32, x5_18 = (x5 + 1) →
          f_X4_push_L6 x1 x3 Q n v17 x5_18 h16)))))))
def f_X4_push (x1 : Int32) (x2 : Int32) (x3 : Int32) (h : HP) (Q : HP → Prop) : Prop :=
  ∃ n19, f_X4_push_L6 x1 x3
    Q n19 x2 0 h
set_option maxRecDepth 20000 in
theorem l_X4_push_L6 (g : GE) (x1 : Int32) (x3 : Int32)   (Q : HP → Prop)  : ∀ (n : Nat) (x4 : Int32) (x5 : Int32) (h : HP), f_X4_push_L6 x1 x3 Q n x4 x5 h → Wm g mX4_push 6 [some (.ref 99), some (.int x1), none, some (.int x3), some (.int x4), some (.int x5), none, none] [] h (qv Q) := by
  intro n
  induction n with
  | zero => intro x4 x5 h H; exact H.elim
  | succ n ih =>
    intro x4 x5 h H
    unfold f_X4_push_L6 at H
    refine wm_iload 5 8 (by decide +kernel) rfl rfl ?_
    refine wm_bipush 6 10 (by decide +kernel : decode cX4_push 8 = .ok (.bipush 6, 2)) rfl (by decide +kernel) ?_
    refine wm_icmp_ge 13 95 (by decide +kernel : decode cX4_push 10 = .ok (.if_icmp .ge 85, 3)) (by decide) rfl (fun c1 => ?_) (fun c1 => ?_)
    · replace H := H.1 c1
      exact wm_vret (by decide +kernel) rfl H
    · replace H := H.2 c1
      refine wm_iload 4 15 (by decide +kernel) rfl rfl ?_
      refine wm_iload_n 1 16 (by decide +kernel) rfl rfl ?_
      refine wm_icmp_eq 19 95 (by decide +kernel : decode cX4_push 16 = .ok (.if_icmp .eq 79, 3)) (by decide) rfl (fun c2 => ?_) (fun c2 => ?_)
      · replace H := H.1 c2
        exact wm_vret (by decide +kernel) rfl H
      · replace H := H.2 c2
        refine wm_aload_n 0 20 (by decide +kernel) rfl rfl ?_
        refine wm_getr 4 6 5 104 23 fl_RX4_24 (by decide +kernel) rfl (by decide +kernel) rfl rfl (by decide) ?_
        refine wm_iload 4 25 (by decide +kernel) rfl rfl ?_
        obtain ⟨o3, H⟩ := H
        refine wm_iald 6 26 (by decide +kernel) rfl (by decide +kernel) (by decide +kernel) o3 ?_
        refine wm_if_lt 29 95 (by decide +kernel : decode cX4_push 26 = .ok (.ifCond .lt 69, 3)) (by decide) rfl (fun c4 => ?_) (fun c4 => ?_)
        · replace H := H.1 c4
          exact wm_vret (by decide +kernel) rfl H
        · replace H := H.2 c4
          refine wm_aload_n 0 30 (by decide +kernel) rfl rfl ?_
          refine wm_getr 4 6 5 104 33 fl_RX4_24 (by decide +kernel) rfl (by decide +kernel) rfl rfl (by decide) ?_
          refine wm_iload 4 35 (by decide +kernel) rfl rfl ?_
          obtain ⟨o5, H⟩ := H
          refine wm_iald 6 36 (by decide +kernel) rfl (by decide +kernel) (by decide +kernel) o5 ?_
          replace H := H _ rfl
          refine wm_istore 6 38 [some _, some _, none, some _, some _, some _, some _, none] (by decide +kernel) rfl (by decide +kernel) (okS_spec rfl) rfl ?_
          refine wm_iload 6 40 (by decide +kernel) rfl rfl ?_
          refine wm_iconst 2 41 (by decide +kernel : decode cX4_push 40 = .ok (.iconst 2, 1)) rfl (by decide +kernel) ?_
          refine wm_irem 42 (by decide +kernel) rfl (by decide +kernel) ?_
          refine' wm_dia (pcJ := 51) (fun kt kf => wm_if_ne 45 49 (by decide +kernel : decode cX4_push 42 = .ok (.ifCond .ne 7, 3)) (by decide) rfl kf kt) ?D8k (fun kj c1 => ?D8t) (fun kj c1 => ?D8f)
          case D8t =>
            refine wm_iload_n 3 46 (by decide +kernel) rfl rfl ?_
            refine wm_goto 51 (by decide +kernel : decode cX4_push 46 = .ok (.goto 5, 3)) (by decide) ?_
            exact kj
          case D8f =>
            refine wm_iload_n 3 50 (by decide +kernel) rfl rfl ?_
            refine wm_ineg 51 (by decide +kernel) rfl ?_
            exact kj
          case D8k =>
            replace H := H _ rfl
            refine wm_istore 7 53 [some _, some _, none, some _, some _, some _, some _, some _] (by decide +kernel) rfl (by decide +kernel) (okS_spec rfl) rfl ?_
            refine wm_aload_n 0 54 (by decide +kernel) rfl rfl ?_
            refine wm_getr 4 3 2 101 57 fl_RX4_15 (by decide +kernel) rfl (by decide +kernel) rfl rfl (by decide) ?_
            refine wm_iload 6 59 (by decide +kernel) rfl rfl ?_
            refine wm_iconst 2 60 (by decide +kernel : decode cX4_push 59 = .ok (.iconst 2, 1)) rfl (by decide +kernel) ?_
            refine wm_idiv 61 (by decide +kernel) rfl (by decide +kernel) ?_
            refine wm_dup2 62 (by decide +kernel) rfl rfl rfl ?_
            obtain ⟨o10, H⟩ := H
            refine wm_iald 10 63 (by decide +kernel) rfl (by decide +kernel) (by decide +kernel) o10 ?_
            refine wm_iload 7 65 (by decide +kernel) rfl rfl ?_
            refine wm_isub 66 (by decide +kernel) rfl ?_
            obtain ⟨o11, H⟩ := H
            replace H := H _ rfl
            refine wm_iast 10 67 (by decide +kernel) rfl (by decide +kernel) (by decide +kernel) o11 ?_
            refine wm_aload_n 0 68 (by decide +kernel) rfl rfl ?_
            refine wm_getr 4 4 3 102 71 fl_RX4_18 (by decide +kernel) rfl (by decide +kernel) rfl rfl (by decide) ?_
            refine wm_iload 6 73 (by decide +kernel) rfl rfl ?_
            refine wm_iconst 2 74 (by decide +kernel : decode cX4_push 73 = .ok (.iconst 2, 1)) rfl (by decide +kernel) ?_
            refine wm_idiv 75 (by decide +kernel) rfl (by decide +kernel) ?_
            refine wm_dup2 76 (by decide +kernel) rfl rfl rfl ?_
            obtain ⟨o13, H⟩ := H
            refine wm_iald 10 77 (by decide +kernel) rfl (by decide +kernel) (by decide +kernel) o13 ?_
            refine wm_iload 7 79 (by decide +kernel) rfl rfl ?_
            refine wm_iadd 80 (by decide +kernel) rfl ?_
            obtain ⟨o14, H⟩ := H
            replace H := H _ rfl
            refine wm_iast 10 81 (by decide +kernel) rfl (by decide +kernel) (by decide +kernel) o14 ?_
            refine wm_aload_n 0 82 (by decide +kernel) rfl rfl ?_
            refine wm_iload 6 84 (by decide +kernel) rfl rfl ?_
            refine wm_callVi mX4_tail 1 4 [_] [] _ _ 87 mo_X4_tail np_X4_tail ml_RX4_80 im_X4_tail se_X4_tail (by decide +kernel) (by decide +kernel) rfl rfl rfl (Nat.le_of_ble_eq_true rfl) (by decide +kernel) rfl (Nat.le_of_ble_eq_true rfl) _ (ent_pad 0 rfl) (l_X4_tail g _ _ _ H) (fun v17 h16 H hzv17 => ?_)
            refine wm_istore 4 89 [some _, some _, none, some _, some _, some _, some _, some _] (by decide +kernel) rfl (by decide +kernel) (okS_spec rfl) rfl ?_
            replace H := H _ rfl
            refine wm_iinc 5 (_ + 1) 92 [some _, some _, none, some _, some _, some _, some _, some _] (by decide +kernel : decode cX4_push 89 = .ok (.iinc 5 1, 3)) rfl (by decide +kernel) rfl (ofI_eq (by decide +kernel)) (okS_spec rfl) rfl ?_
            refine wm_goto 6 (by decide +kernel : decode cX4_push 92 = .ok (.goto (-86), 3)) (by decide) ?_
            refine wm_mask [true, true, false, true, true, true, false, false] [some _, some _, none, some _, some _, some _, none, none] rfl ?_
            exact ih _ _ _ H
set_option maxRecDepth 20000 in
theorem l_X4_push (g : GE) (x1 : Int32) (x2 : Int32) (x3 : Int32)  (h : HP) (Q : HP → Prop) (H : f_X4_push x1 x2 x3 h Q) : Wm g mX4_push 0 [some (.ref 99), some (.int x1), some (.int x2), some (.int x3), none, none, none, none] [] h (qv Q) := by
  unfold f_X4_push at H
  refine wm_iload_n 2 1 (by decide +kernel) rfl rfl ?_
  refine wm_istore 4 3 [some _, some _, some _, some _, some _, none, none, none] (by decide +kernel) rfl (by decide +kernel) (okS_spec rfl) rfl ?_
  refine wm_iconst 0 4 (by decide +kernel : decode cX4_push 3 = .ok (.iconst 0, 1)) rfl (by decide +kernel) ?_
  refine wm_istore 5 6 [some _, some _, some _, some _, some _, some _, none, none] (by decide +kernel) rfl (by decide +kernel) (okS_spec rfl) rfl ?_
  obtain ⟨n19, H⟩ := H
  refine wm_mask [true, true, false, true, true, true, false, false] [some _, some _, none, some _, some _, some _, none, none] rfl ?_
  refine l_X4_push_L6 g _ _ _  _ _ _ _ H
def f_X4_solve_L21 (x2 : Int32) (x3 : Int32) (k74 : HP → Prop) (Q : HP → Prop) : Nat → Int32 → HP → Prop
  | 0, _, _ => False
  | n + 1, x4, h =>
    kd (gw h 1) = 6 ∧
    ((((gi h (gw h 1) 3) ≤ x4) →
      k74 h) ∧
     (¬ ((gi h (gw h 1) 3) ≤ x4) →
      kd (gw h 1) = 6 ∧
      vp_in x4 10 ∧
      kd (gw h 1) = 6 ∧
      f_X0_room (((gw h 1) + 2) + 7 + 2 * ix x4) (gi h (gw h 1) 0) h (fun v10 h9 =>
      vp_in x4 10 ∧
      ∀ h12 : HP, h12 = si h9 101 (ix x4) v10 →
      vp_in x4 10 ∧
      ∀ h14 : HP, h14 = si h12 102 (ix x4) 0 →
      ∀ x4_15 : Int32, x4_15 = (x4 + 1) →
      f_X4_solve_L21 x2 x3 k74 Q n x4_15 h14)))
def f_X4_solve_L77 (x2 : Int32) (x3 : Int32)  (Q : HP → Prop) : Nat → Int32 → HP → Prop
  | 0, _, _ => False
  | n + 1, x4, h =>
    (((1000000 ≤ x4) →
      Q h) ∧
     (¬ (1000000 ≤ x4) →
      f_X4_findQuickest x2 x3 h (fun v19 h18 =>
      (((v19 = 0) →
        Q h18) ∧
       (¬ (v19 = 0) →
        f_X4_narrowest x2 x3 h18 (fun v22 h21 =>
        f_X4_push x2 x3 v22 h21 (fun h23 =>
        ∀ h24 : HP, h24 = si h23 99 2 ((gi h23 99 2) + v22) →
        vp_in x3 6 ∧
        f_X7_isIn (gi h24 103 (ix x3)) 0 120 h24 (fun v27 h26 =>
        (((v27 = 0) →
          ∀ x4_29 : Int32, x4_29 = (x4 + 1) →
          f_X4_solve_L77 x2 x3 Q n x4_29 h26) ∧
         (¬ (v27 = 0) →
          vp_in x3 6 ∧
          vp_in (gi h26 103 (ix x3)) 121 ∧
          vp_in (gi h26 103 (ix x3)) 121 ∧
          ∀ h33 : HP, h33 = si h26 100 (ix (gi h26 103 (ix x3))) ((gi h26 100 (ix (gi h26 103 (ix x3)))) + v22) →
          ∀ x4_34 : Int32, x4_34 = (x4 + 1) →
          f_X4_solve_L77 x2 x3 Q n x4_34 h33))))))))))
def f_X4_solve (a1 : Nat) (x2 : Int32) (x3 : Int32) (h : HP) (Q : HP → Prop) : Prop :=
  ∀ h1 : HP, h1 = sw h 1 a1 →
  ∀ h2 : HP, h2 = si h1 99 2 0 →
  f_J7_fill_53178 100 0 h2 (fun h3 =>
  ∃ n36, f_X4_solve_L21 x2 x3
    (fun h16 =>
      ∃ n35, f_X4_solve_L77 x2 x3
        Q n35 0 h16)
    Q n36 0 h3)
set_option maxRecDepth 20000 in
theorem l_X4_solve_L21 (g : GE) (x2 : Int32) (x3 : Int32)  (k74 : HP → Prop) (Q : HP → Prop) (hk74 : ∀  (h : HP), k74  h → Wm g mX4_solve 74 [some (.ref 99), none, some (.int x2), some (.int x3), none, none] [] h (qv Q)) : ∀ (n : Nat) (x4 : Int32) (h : HP), f_X4_solve_L21 x2 x3 k74 Q n x4 h → Wm g mX4_solve 21 [some (.ref 99), none, some (.int x2), some (.int x3), some (.int x4), none] [] h (qv Q) := by
  intro n
  induction n with
  | zero => intro x4 h H; exact H.elim
  | succ n ih =>
    intro x4 h H
    unfold f_X4_solve_L21 at H
    refine wm_iload 4 23 (by decide +kernel) rfl rfl ?_
    refine wm_aload_n 0 24 (by decide +kernel) rfl rfl ?_
    obtain ⟨o4, H⟩ := H
    refine wm_getw 4 1 27 fl_RX4_27 (by decide +kernel) rfl (by decide +kernel) rfl (by decide) o4 ?_
    refine wm_geti 6 3 30 fl_RX4_41 (by decide +kernel) rfl o4 rfl ?_
    refine wm_icmp_ge 33 74 (by decide +kernel : decode cX4_solve 30 = .ok (.if_icmp .ge 44, 3)) (by decide) rfl (fun c5 => ?_) (fun c5 => ?_)
    · replace H := H.1 c5
      refine wm_mask [true, false, true, true, false, false] [some _, none, some _, some _, none, none] rfl ?_
      exact hk74 _ H
    · replace H := H.2 c5
      refine wm_aload_n 0 34 (by decide +kernel) rfl rfl ?_
      refine wm_getr 4 3 2 101 37 fl_RX4_15 (by decide +kernel) rfl (by decide +kernel) rfl rfl (by decide) ?_
      refine wm_iload 4 39 (by decide +kernel) rfl rfl ?_
      refine wm_aload_n 0 40 (by decide +kernel) rfl rfl ?_
      obtain ⟨o6, H⟩ := H
      refine wm_getw 4 1 43 fl_RX4_27 (by decide +kernel) rfl (by decide +kernel) rfl (by decide) o6 ?_
      refine wm_getr 6 5 2 _ 46 fl_RX4_46 (by decide +kernel) rfl o6 rfl rfl (by decide) ?_
      refine wm_iload 4 48 (by decide +kernel) rfl rfl ?_
      obtain ⟨o7, H⟩ := H
      refine wm_aald 10 _ 49 (by decide +kernel) rfl (Or.inr (Or.inl ⟨(W_ln o6).1, rfl⟩)) (W_ln o6).2 o7 ?_
      refine wm_aload_n 0 50 (by decide +kernel) rfl rfl ?_
      obtain ⟨o8, H⟩ := H
      refine wm_getw 4 1 53 fl_RX4_27 (by decide +kernel) rfl (by decide +kernel) rfl (by decide) o8 ?_
      refine wm_geti 6 0 56 fl_RX4_50 (by decide +kernel) rfl o8 rfl ?_
      refine wm_callVi mX0_room 1 0 [_] [_, _] _ _ 59 mo_X0_room np_X0_room ml_RX4_53 im_X0_room se_X0_room (by decide +kernel) (by decide +kernel) rfl rfl rfl (Nat.le_of_ble_eq_true rfl) (E_ln (W_ln o6).1 (vp_in_lt o7)) rfl (Nat.le_of_ble_eq_true rfl) _ (ent_pad 3 rfl) (l_X0_room g _ _ (E_ln (W_ln o6).1 (vp_in_lt o7)) _ _ H) (fun v10 h9 H hzv10 => ?_)
      obtain ⟨o11, H⟩ := H
      replace H := H _ rfl
      refine wm_iast 10 60 (by decide +kernel) rfl (by decide +kernel) (by decide +kernel) o11 ?_
      refine wm_aload_n 0 61 (by decide +kernel) rfl rfl ?_
      refine wm_getr 4 4 3 102 64 fl_RX4_18 (by decide +kernel) rfl (by decide +kernel) rfl rfl (by decide) ?_
      refine wm_iload 4 66 (by decide +kernel) rfl rfl ?_
      refine wm_iconst 0 67 (by decide +kernel : decode cX4_solve 66 = .ok (.iconst 0, 1)) rfl (by decide +kernel) ?_
      obtain ⟨o13, H⟩ := H
      replace H := H _ rfl
      refine wm_iast 10 68 (by decide +kernel) rfl (by decide +kernel) (by decide +kernel) o13 ?_
      replace H := H _ rfl
      refine wm_iinc 4 (_ + 1) 71 [some _, none, some _, some _, some _, none] (by decide +kernel : decode cX4_solve 68 = .ok (.iinc 4 1, 3)) rfl (by decide +kernel) rfl (ofI_eq (by decide +kernel)) (okS_spec rfl) rfl ?_
      refine wm_goto 21 (by decide +kernel : decode cX4_solve 71 = .ok (.goto (-50), 3)) (by decide) ?_
      exact ih _ _ H
set_option maxRecDepth 20000 in
theorem l_X4_solve_L77 (g : GE) (x2 : Int32) (x3 : Int32)   (Q : HP → Prop)  : ∀ (n : Nat) (x4 : Int32) (h : HP), f_X4_solve_L77 x2 x3 Q n x4 h → Wm g mX4_solve 77 [some (.ref 99), none, some (.int x2), some (.int x3), some (.int x4), none] [] h (qv Q) := by
  intro n
  induction n with
  | zero => intro x4 h H; exact H.elim
  | succ n ih =>
    intro x4 h H
    unfold f_X4_solve_L77 at H
    refine wm_iload 4 79 (by decide +kernel) rfl rfl ?_
    refine wm_ldc 1000000 81 co_RX4_59 (by decide +kernel) rfl ?_
    refine wm_icmp_ge 84 157 (by decide +kernel : decode cX4_solve 81 = .ok (.if_icmp .ge 76, 3)) (by decide) rfl (fun c17 => ?_) (fun c17 => ?_)
    · replace H := H.1 c17
      exact wm_vret (by decide +kernel) rfl H
    · replace H := H.2 c17
      refine wm_aload_n 0 85 (by decide +kernel) rfl rfl ?_
      refine wm_iload_n 2 86 (by decide +kernel) rfl rfl ?_
      refine wm_iload_n 3 87 (by decide +kernel) rfl rfl ?_
      refine wm_callVi mX4_findQuickest 2 4 [_, _] [] _ _ 90 mo_X4_findQuickest np_X4_findQuickest ml_RX4_60 im_X4_findQuickest se_X4_findQuickest (by decide +kernel) (by decide +kernel) rfl rfl rfl (Nat.le_of_ble_eq_true rfl) (by decide +kernel) rfl (Nat.le_of_ble_eq_true rfl) _ (ent_pad 3 rfl) (l_X4_findQuickest g _ _ _ _ H) (fun v19 h18 H hzv19 => ?_)
      refine wm_if_eq 93 157 (by decide +kernel : decode cX4_solve 90 = .ok (.ifCond .eq 67, 3)) (by decide) rfl (fun c20 => ?_) (fun c20 => ?_)
      · replace H := H.1 c20
        exact wm_vret (by decide +kernel) rfl H
      · replace H := H.2 c20
        refine wm_aload_n 0 94 (by decide +kernel) rfl rfl ?_
        refine wm_iload_n 2 95 (by decide +kernel) rfl rfl ?_
        refine wm_iload_n 3 96 (by decide +kernel) rfl rfl ?_
        refine wm_callVi mX4_narrowest 2 4 [_, _] [] _ _ 99 mo_X4_narrowest np_X4_narrowest ml_RX4_64 im_X4_narrowest se_X4_narrowest (by decide +kernel) (by decide +kernel) rfl rfl rfl (Nat.le_of_ble_eq_true rfl) (by decide +kernel) rfl (Nat.le_of_ble_eq_true rfl) _ (ent_pad 3 rfl) (l_X4_narrowest g _ _ _ _ H) (fun v22 h21 H hzv22 => ?_)
        refine wm_istore 5 101 [some _, none, some _, some _, some _, some _] (by decide +kernel) rfl (by decide +kernel) (okS_spec rfl) rfl ?_
        refine wm_aload_n 0 102 (by decide +kernel) rfl rfl ?_
        refine wm_iload_n 2 103 (by decide +kernel) rfl rfl ?_
        refine wm_iload_n 3 104 (by decide +kernel) rfl rfl ?_
        refine wm_iload 5 106 (by decide +kernel) rfl rfl ?_
        refine wm_callVv mX4_push 3 4 [_, _, _] [] _ _ 109 mo_X4_push np_X4_push ml_RX4_68 im_X4_push se_X4_push (by decide +kernel) (by decide +kernel) rfl rfl rfl (Nat.le_of_ble_eq_true rfl) (by decide +kernel) rfl (Nat.le_of_ble_eq_true rfl) _ (ent_pad 4 rfl) (l_X4_push g _ _ _ _ _ H) (fun h23 H => ?_)
        refine wm_aload_n 0 110 (by decide +kernel) rfl rfl ?_
        refine wm_dup 111 (by decide +kernel) rfl rfl ?_
        refine wm_geti 4 2 114 fl_RX4_31 (by decide +kernel) rfl (by decide +kernel) rfl ?_
        refine wm_iload 5 116 (by decide +kernel) rfl rfl ?_
        refine wm_iadd 117 (by decide +kernel) rfl ?_
        replace H := H _ rfl
        refine wm_puti 4 2 120 fl_RX4_31 (by decide +kernel) rfl (by decide +kernel) rfl rfl ⟨rfl, rfl⟩ ?_
        refine wm_aload_n 0 121 (by decide +kernel) rfl rfl ?_
        refine wm_getr 4 5 4 103 124 fl_RX4_21 (by decide +kernel) rfl (by decide +kernel) rfl rfl (by decide) ?_
        refine wm_iload_n 3 125 (by decide +kernel) rfl rfl ?_
        obtain ⟨o25, H⟩ := H
        refine wm_iald 6 126 (by decide +kernel) rfl (by decide +kernel) (by decide +kernel) o25 ?_
        refine wm_iconst 0 127 (by decide +kernel : decode cX4_solve 126 = .ok (.iconst 0, 1)) rfl (by decide +kernel) ?_
        refine wm_bipush 120 129 (by decide +kernel : decode cX4_solve 127 = .ok (.bipush 120, 2)) rfl (by decide +kernel) ?_
        refine wm_callNi mX7_isIn 72 3 [_, _, _] [] _ _ 132 mo_X7_isIn np_X7_isIn rfl (by decide +kernel) sc_X7_isIn (by decide +kernel) (by decide +kernel) rfl rfl rfl (Nat.le_of_ble_eq_true rfl) (Nat.le_of_ble_eq_true rfl) _ (ent_pad 0 rfl) (l_X7_isIn g _ _ _ _ _ H) (fun v27 h26 H hzv27 => ?_)
        refine wm_if_eq 135 151 (by decide +kernel : decode cX4_solve 132 = .ok (.ifCond .eq 19, 3)) (by decide) rfl (fun c28 => ?_) (fun c28 => ?_)
        · replace H := H.1 c28
          replace H := H _ rfl
          refine wm_iinc 4 (_ + 1) 154 [some _, none, some _, some _, some _, some _] (by decide +kernel : decode cX4_solve 151 = .ok (.iinc 4 1, 3)) rfl (by decide +kernel) rfl (ofI_eq (by decide +kernel)) (okS_spec rfl) rfl ?_
          refine wm_goto 77 (by decide +kernel : decode cX4_solve 154 = .ok (.goto (-77), 3)) (by decide) ?_
          refine wm_mask [true, false, true, true, true, false] [some _, none, some _, some _, some _, none] rfl ?_
          exact ih _ _ H
        · replace H := H.2 c28
          refine wm_aload_n 0 136 (by decide +kernel) rfl rfl ?_
          refine wm_getr 4 1 1 100 139 fl_RX4_9 (by decide +kernel) rfl (by decide +kernel) rfl rfl (by decide) ?_
          refine wm_aload_n 0 140 (by decide +kernel) rfl rfl ?_
          refine wm_getr 4 5 4 103 143 fl_RX4_21 (by decide +kernel) rfl (by decide +kernel) rfl rfl (by decide) ?_
          refine wm_iload_n 3 144 (by decide +kernel) rfl rfl ?_
          obtain ⟨o30, H⟩ := H
          refine wm_iald 6 145 (by decide +kernel) rfl (by decide +kernel) (by decide +kernel) o30 ?_
          refine wm_dup2 146 (by decide +kernel) rfl rfl rfl ?_
          obtain ⟨o31, H⟩ := H
          refine wm_iald 121 147 (by decide +kernel) rfl (by decide +kernel) (by decide +kernel) o31 ?_
          refine wm_iload 5 149 (by decide +kernel) rfl rfl ?_
          refine wm_iadd 150 (by decide +kernel) rfl ?_
          obtain ⟨o32, H⟩ := H
          replace H := H _ rfl
          refine wm_iast 121 151 (by decide +kernel) rfl (by decide +kernel) (by decide +kernel) o32 ?_
          replace H := H _ rfl
          refine wm_iinc 4 (_ + 1) 154 [some _, none, some _, some _, some _, some _] (by decide +kernel : decode cX4_solve 151 = .ok (.iinc 4 1, 3)) rfl (by decide +kernel) rfl (ofI_eq (by decide +kernel)) (okS_spec rfl) rfl ?_
          refine wm_goto 77 (by decide +kernel : decode cX4_solve 154 = .ok (.goto (-77), 3)) (by decide) ?_
          refine wm_mask [true, false, true, true, true, false] [some _, none, some _, some _, some _, none] rfl ?_
          exact ih _ _ H
set_option maxRecDepth 20000 in
theorem l_X4_solve (g : GE) (a1 : Nat) (x2 : Int32) (x3 : Int32) (ha1 : kd a1 = 6) (h : HP) (Q : HP → Prop) (H : f_X4_solve a1 x2 x3 h Q) : Wm g mX4_solve 0 [some (.ref 99), some (.ref a1), some (.int x2), some (.int x3), none, none] [] h (qv Q) := by
  unfold f_X4_solve at H
  refine wm_aload_n 0 1 (by decide +kernel) rfl rfl ?_
  refine wm_aload_n 1 2 (by decide +kernel) rfl rfl ?_
  replace H := H _ rfl
  refine wm_putw 4 1 5 fl_RX4_27 (by decide +kernel) rfl (by decide +kernel) (by decide) ha1 ?_
  refine wm_aload_n 0 6 (by decide +kernel) rfl rfl ?_
  refine wm_iconst 0 7 (by decide +kernel : decode cX4_solve 6 = .ok (.iconst 0, 1)) rfl (by decide +kernel) ?_
  replace H := H _ rfl
  refine wm_puti 4 2 10 fl_RX4_31 (by decide +kernel) rfl (by decide +kernel) rfl rfl ⟨rfl, rfl⟩ ?_
  refine wm_aload_n 0 11 (by decide +kernel) rfl rfl ?_
  refine wm_getr 4 1 1 100 14 fl_RX4_9 (by decide +kernel) rfl (by decide +kernel) rfl rfl (by decide) ?_
  refine wm_iconst 0 15 (by decide +kernel : decode cX4_solve 14 = .ok (.iconst 0, 1)) rfl (by decide +kernel) ?_
  refine wm_callSv mJ7_fill_53178 2 [_, _] [] _ _ 18 mo_J7_fill_53178 np_J7_fill_53178 ml_RX4_35 sc_J7_fill_53178 (by decide +kernel) (by decide +kernel) rfl rfl rfl (Nat.le_of_ble_eq_true rfl) (Nat.le_of_ble_eq_true rfl) _ (ent_pad 2 rfl) (l_J7_fill_53178 g _ _ (by decide +kernel) _ _ H) (fun h3 H => ?_)
  refine wm_iconst 0 19 (by decide +kernel : decode cX4_solve 18 = .ok (.iconst 0, 1)) rfl (by decide +kernel) ?_
  refine wm_istore 4 21 [some _, some _, some _, some _, some _, none] (by decide +kernel) rfl (by decide +kernel) (okS_spec rfl) rfl ?_
  obtain ⟨n36, H⟩ := H
  refine wm_mask [true, false, true, true, true, false] [some _, none, some _, some _, some _, none] rfl ?_
  refine l_X4_solve_L21 g _ _ _ _ (fun h16 H => ?_) _ _ _ H
  · skip
    refine wm_iconst 0 75 (by decide +kernel : decode cX4_solve 74 = .ok (.iconst 0, 1)) rfl (by decide +kernel) ?_
    refine wm_istore 4 77 [some _, none, some _, some _, some _, none] (by decide +kernel) rfl (by decide +kernel) (okS_spec rfl) rfl ?_
    obtain ⟨n35, H⟩ := H
    refine l_X4_solve_L77 g _ _ _  _ _ _ H
def f_X4_behind_L5 (x1 : Int64)  (Q : Int64 → HP → Prop) : Nat → Int64 → Int32 → HP → Prop
  | 0, _, _, _ => False
  | n + 1, x3, x5, h =>
    ((((Int32.ofNat 121) ≤ x5) →
      Q x3 h) ∧
     (¬ ((Int32.ofNat 121) ≤ x5) →
      (((0 < (lg_cmp (x5 : Int32).toInt64 x1)) →
        Q x3 h) ∧
       (¬ (0 < (lg_cmp (x5 : Int32).toInt64 x1)) →
        vp_in x5 121 ∧
        ∀ x3_5 : Int64, x3_5 = (x3 + (((gi h 100 (ix x5)) : Int32).toInt64 * ((x1 + (1 : Int64)) - (x5 : Int32).toInt64))) →
        ∀ x5_6 : Int32, x5_6 = (x5 + 1) →
        f_X4_behind_L5 x1 Q n x3_5 x5_6 h))))
def f_X4_behind (x1 : Int64) (h : HP) (Q : Int64 → HP → Prop) : Prop :=
  ∀ x3_1 : Int64, x3_1 = (0 : Int64) →
  ∃ n7, f_X4_behind_L5 x1
    Q n7 x3_1 0 h
set_option maxRecDepth 20000 in
theorem l_X4_behind_L5 (g : GE) (x1 : Int64)   (Q : Int64 → HP → Prop)  : ∀ (n : Nat) (x3 : Int64) (x5 : Int32) (h : HP), f_X4_behind_L5 x1 Q n x3 x5 h → Wm g mX4_behind 5 [some (.ref 99), some (.long x1), none, some (.long x3), none, some (.int x5)] [] h (ql Q) := by
  intro n
  induction n with
  | zero => intro x3 x5 h H; exact H.elim
  | succ n ih =>
    intro x3 x5 h H
    unfold f_X4_behind_L5 at H
    refine wm_iload 5 7 (by decide +kernel) rfl rfl ?_
    refine wm_aload_n 0 8 (by decide +kernel) rfl rfl ?_
    refine wm_getr 4 1 1 100 11 fl_RX4_9 (by decide +kernel) rfl (by decide +kernel) rfl rfl (by decide) ?_
    refine wm_alen (Int32.ofNat 121) 12 (by decide +kernel) rfl (Or.inl (by decide +kernel)) (congrArg Int32.ofNat (by decide +kernel)) ?_
    refine wm_icmp_ge 15 48 (by decide +kernel : decode cX4_behind 12 = .ok (.if_icmp .ge 36, 3)) (by decide) rfl (fun c2 => ?_) (fun c2 => ?_)
    · replace H := H.1 c2
      refine wm_lload_n 3 49 (by decide +kernel) rfl rfl ?_
      exact wm_lret (by decide +kernel) rfl H
    · replace H := H.2 c2
      refine wm_iload 5 17 (by decide +kernel) rfl rfl ?_
      refine wm_i2l 18 (by decide +kernel) rfl ?_
      refine wm_lload_n 1 19 (by decide +kernel) rfl rfl ?_
      refine wm_lcmp 20 (by decide +kernel) rfl ?_
      refine wm_if_gt 23 48 (by decide +kernel : decode cX4_behind 20 = .ok (.ifCond .gt 28, 3)) (by decide) rfl (fun c3 => ?_) (fun c3 => ?_)
      · replace H := H.1 c3
        refine wm_lload_n 3 49 (by decide +kernel) rfl rfl ?_
        exact wm_lret (by decide +kernel) rfl H
      · replace H := H.2 c3
        refine wm_lload_n 3 24 (by decide +kernel) rfl rfl ?_
        refine wm_aload_n 0 25 (by decide +kernel) rfl rfl ?_
        refine wm_getr 4 1 1 100 28 fl_RX4_9 (by decide +kernel) rfl (by decide +kernel) rfl rfl (by decide) ?_
        refine wm_iload 5 30 (by decide +kernel) rfl rfl ?_
        obtain ⟨o4, H⟩ := H
        refine wm_iald 121 31 (by decide +kernel) rfl (by decide +kernel) (by decide +kernel) o4 ?_
        refine wm_i2l 32 (by decide +kernel) rfl ?_
        refine wm_lload_n 1 33 (by decide +kernel) rfl rfl ?_
        refine wm_lconst 1 34 (by decide +kernel : decode cX4_behind 33 = .ok (.lconst 1, 1)) rfl (by decide +kernel) ?_
        refine wm_ladd 35 (by decide +kernel) rfl ?_
        refine wm_iload 5 37 (by decide +kernel) rfl rfl ?_
        refine wm_i2l 38 (by decide +kernel) rfl ?_
        refine wm_lsub 39 (by decide +kernel) rfl ?_
        refine wm_lmul 40 (by decide +kernel) rfl ?_
        refine wm_ladd 41 (by decide +kernel) rfl ?_
        replace H := H _ rfl
        refine wm_lstore_n 3 42 [some _, some _, none, some _, none, some _] (by decide +kernel) rfl (by decide +kernel) (okS_spec rfl) rfl ?_
        replace H := H _ rfl
        refine wm_iinc 5 (_ + 1) 45 [some _, some _, none, some _, none, some _] (by decide +kernel : decode cX4_behind 42 = .ok (.iinc 5 1, 3)) rfl (by decide +kernel) rfl (ofI_eq (by decide +kernel)) (okS_spec rfl) rfl ?_
        refine wm_goto 5 (by decide +kernel : decode cX4_behind 45 = .ok (.goto (-40), 3)) (by decide) ?_
        exact ih _ _ _ H
set_option maxRecDepth 20000 in
theorem l_X4_behind (g : GE) (x1 : Int64)  (h : HP) (Q : Int64 → HP → Prop) (H : f_X4_behind x1 h Q) : Wm g mX4_behind 0 [some (.ref 99), some (.long x1), none, none, none, none] [] h (ql Q) := by
  unfold f_X4_behind at H
  refine wm_lconst 0 1 (by decide +kernel : decode cX4_behind 0 = .ok (.lconst 0, 1)) rfl (by decide +kernel) ?_
  replace H := H _ rfl
  refine wm_lstore_n 3 2 [some _, some _, none, some _, none, none] (by decide +kernel) rfl (by decide +kernel) (okS_spec rfl) rfl ?_
  refine wm_iconst 0 3 (by decide +kernel : decode cX4_behind 2 = .ok (.iconst 0, 1)) rfl (by decide +kernel) ?_
  refine wm_istore 5 5 [some _, some _, none, some _, none, some _] (by decide +kernel) rfl (by decide +kernel) (okS_spec rfl) rfl ?_
  obtain ⟨n7, H⟩ := H
  refine l_X4_behind_L5 g _ _  _ _ _ _ H
def f_X4_ticksUntil_L21 (x1 : Int32)  (Q : Int64 → HP → Prop) : Nat → Int64 → Int64 → Int32 → HP → Prop
  | 0, _, _, _, _ => False
  | n + 1, x2, x4, x6, h =>
    (((64 ≤ x6) →
      Q x4 h) ∧
     (¬ (64 ≤ x6) →
      (((0 ≤ (lg_cmp x2 x4)) →
        Q x4 h) ∧
       (¬ (0 ≤ (lg_cmp x2 x4)) →
        ∀ x7_7 : Int64, x7_7 = ((x2 + x4) / (2 : Int64)) →
        f_X4_behind x7_7 h (fun v9 h8 =>
        ((((lg_cmp v9 (x1 : Int32).toInt64) < 0) →
          ∀ x2_11 : Int64, x2_11 = (x7_7 + (1 : Int64)) →
          ∀ x6_12 : Int32, x6_12 = (x6 + 1) →
          f_X4_ticksUntil_L21 x1 Q n x2_11 x4 x6_12 h8) ∧
         (¬ ((lg_cmp v9 (x1 : Int32).toInt64) < 0) →
          ∀ x6_13 : Int32, x6_13 = (x6 + 1) →
          f_X4_ticksUntil_L21 x1 Q n x2 x7_7 x6_13 h8)))))))
def f_X4_ticksUntil (x1 : Int32) (h : HP) (Q : Int64 → HP → Prop) : Prop :=
  ∀ x2_1 : Int64, x2_1 = (0 : Int64) →
  ∀ x4_4 : Int64, x4_4 = (if x1 = 0 then ((0 : Int64) : Int64) else ((x1 : Int32).toInt64 + (120 : Int64))) →
  ∃ n14, f_X4_ticksUntil_L21 x1
    Q n14 x2_1 x4_4 0 h
set_option maxRecDepth 20000 in
theorem l_X4_ticksUntil_L21 (g : GE) (x1 : Int32)   (Q : Int64 → HP → Prop)  : ∀ (n : Nat) (x2 : Int64) (x4 : Int64) (x6 : Int32) (h : HP), f_X4_ticksUntil_L21 x1 Q n x2 x4 x6 h → Wm g mX4_ticksUntil 21 [some (.ref 99), some (.int x1), some (.long x2), none, some (.long x4), none, some (.int x6), none, none] [] h (ql Q) := by
  intro n
  induction n with
  | zero => intro x2 x4 x6 h H; exact H.elim
  | succ n ih =>
    intro x2 x4 x6 h H
    unfold f_X4_ticksUntil_L21 at H
    refine wm_iload 6 23 (by decide +kernel) rfl rfl ?_
    refine wm_bipush 64 25 (by decide +kernel : decode cX4_ticksUntil 23 = .ok (.bipush 64, 2)) rfl (by decide +kernel) ?_
    refine wm_icmp_ge 28 75 (by decide +kernel : decode cX4_ticksUntil 25 = .ok (.if_icmp .ge 50, 3)) (by decide) rfl (fun c5 => ?_) (fun c5 => ?_)
    · replace H := H.1 c5
      refine wm_lload 4 77 (by decide +kernel) rfl rfl ?_
      exact wm_lret (by decide +kernel) rfl H
    · replace H := H.2 c5
      refine wm_lload_n 2 29 (by decide +kernel) rfl rfl ?_
      refine wm_lload 4 31 (by decide +kernel) rfl rfl ?_
      refine wm_lcmp 32 (by decide +kernel) rfl ?_
      refine wm_if_ge 35 75 (by decide +kernel : decode cX4_ticksUntil 32 = .ok (.ifCond .ge 43, 3)) (by decide) rfl (fun c6 => ?_) (fun c6 => ?_)
      · replace H := H.1 c6
        refine wm_lload 4 77 (by decide +kernel) rfl rfl ?_
        exact wm_lret (by decide +kernel) rfl H
      · replace H := H.2 c6
        refine wm_lload_n 2 36 (by decide +kernel) rfl rfl ?_
        refine wm_lload 4 38 (by decide +kernel) rfl rfl ?_
        refine wm_ladd 39 (by decide +kernel) rfl ?_
        refine wm_ldc2 2 42 cl_RX4_105 (by decide +kernel) rfl ?_
        refine wm_ldiv 43 (by decide +kernel) rfl (by decide +kernel) ?_
        replace H := H _ rfl
        refine wm_lstore 7 45 [some _, some _, some _, none, some _, none, some _, some _, none] (by decide +kernel) rfl (by decide +kernel) (okS_spec rfl) rfl ?_
        refine wm_aload_n 0 46 (by decide +kernel) rfl rfl ?_
        refine wm_lload 7 48 (by decide +kernel) rfl rfl ?_
        refine wm_callVl mX4_behind 1 4 [_] [] _ _ 51 mo_X4_behind np_X4_behind ml_RX4_107 im_X4_behind se_X4_behind (by decide +kernel) (by decide +kernel) rfl rfl rfl (Nat.le_of_ble_eq_true rfl) (by decide +kernel) rfl (Nat.le_of_ble_eq_true rfl) _ (ent_pad 3 rfl) (l_X4_behind g _ _ _ H) (fun v9 h8 H hzv9 => ?_)
        refine wm_iload_n 1 52 (by decide +kernel) rfl rfl ?_
        refine wm_i2l 53 (by decide +kernel) rfl ?_
        refine wm_lcmp 54 (by decide +kernel) rfl ?_
        refine wm_if_lt 57 64 (by decide +kernel : decode cX4_ticksUntil 54 = .ok (.ifCond .lt 10, 3)) (by decide) rfl (fun c10 => ?_) (fun c10 => ?_)
        · replace H := H.1 c10
          refine wm_lload 7 66 (by decide +kernel) rfl rfl ?_
          refine wm_lconst 1 67 (by decide +kernel : decode cX4_ticksUntil 66 = .ok (.lconst 1, 1)) rfl (by decide +kernel) ?_
          refine wm_ladd 68 (by decide +kernel) rfl ?_
          replace H := H _ rfl
          refine wm_lstore_n 2 69 [some _, some _, some _, none, some _, none, some _, some _, none] (by decide +kernel) rfl (by decide +kernel) (okS_spec rfl) rfl ?_
          replace H := H _ rfl
          refine wm_iinc 6 (_ + 1) 72 [some _, some _, some _, none, some _, none, some _, some _, none] (by decide +kernel : decode cX4_ticksUntil 69 = .ok (.iinc 6 1, 3)) rfl (by decide +kernel) rfl (ofI_eq (by decide +kernel)) (okS_spec rfl) rfl ?_
          refine wm_goto 21 (by decide +kernel : decode cX4_ticksUntil 72 = .ok (.goto (-51), 3)) (by decide) ?_
          refine wm_mask [true, true, true, false, true, false, true, false, false] [some _, some _, some _, none, some _, none, some _, none, none] rfl ?_
          exact ih _ _ _ _ H
        · replace H := H.2 c10
          refine wm_lload 7 59 (by decide +kernel) rfl rfl ?_
          refine wm_lstore 4 61 [some _, some _, some _, none, some _, none, some _, some _, none] (by decide +kernel) rfl (by decide +kernel) (okS_spec rfl) rfl ?_
          refine wm_goto 69 (by decide +kernel : decode cX4_ticksUntil 61 = .ok (.goto 8, 3)) (by decide) ?_
          replace H := H _ rfl
          refine wm_iinc 6 (_ + 1) 72 [some _, some _, some _, none, some _, none, some _, some _, none] (by decide +kernel : decode cX4_ticksUntil 69 = .ok (.iinc 6 1, 3)) rfl (by decide +kernel) rfl (ofI_eq (by decide +kernel)) (okS_spec rfl) rfl ?_
          refine wm_goto 21 (by decide +kernel : decode cX4_ticksUntil 72 = .ok (.goto (-51), 3)) (by decide) ?_
          refine wm_mask [true, true, true, false, true, false, true, false, false] [some _, some _, some _, none, some _, none, some _, none, none] rfl ?_
          exact ih _ _ _ _ H
set_option maxRecDepth 20000 in
theorem l_X4_ticksUntil (g : GE) (x1 : Int32)  (h : HP) (Q : Int64 → HP → Prop) (H : f_X4_ticksUntil x1 h Q) : Wm g mX4_ticksUntil 0 [some (.ref 99), some (.int x1), none, none, none, none, none, none, none] [] h (ql Q) := by
  unfold f_X4_ticksUntil at H
  refine wm_lconst 0 1 (by decide +kernel : decode cX4_ticksUntil 0 = .ok (.lconst 0, 1)) rfl (by decide +kernel) ?_
  replace H := H _ rfl
  refine wm_lstore_n 2 2 [some _, some _, some _, none, none, none, none, none, none] (by decide +kernel) rfl (by decide +kernel) (okS_spec rfl) rfl ?_
  refine wm_iload_n 1 3 (by decide +kernel) rfl rfl ?_
  refine' wm_diaL (pcJ := 16) (fun kt kf => wm_if_ne 6 10 (by decide +kernel : decode cX4_ticksUntil 3 = .ok (.ifCond .ne 7, 3)) (by decide) rfl kf kt) ?D3k (fun kj c1 => ?D3t) (fun kj c1 => ?D3f)
  case D3t =>
    refine wm_lconst 0 7 (by decide +kernel : decode cX4_ticksUntil 6 = .ok (.lconst 0, 1)) rfl (by decide +kernel) ?_
    refine wm_goto 16 (by decide +kernel : decode cX4_ticksUntil 7 = .ok (.goto 9, 3)) (by decide) ?_
    exact kj
  case D3f =>
    refine wm_iload_n 1 11 (by decide +kernel) rfl rfl ?_
    refine wm_i2l 12 (by decide +kernel) rfl ?_
    refine wm_ldc2 120 15 cl_RX4_103 (by decide +kernel) rfl ?_
    refine wm_ladd 16 (by decide +kernel) rfl ?_
    exact kj
  case D3k =>
    replace H := H _ rfl
    refine wm_lstore 4 18 [some _, some _, some _, none, some _, none, none, none, none] (by decide +kernel) rfl (by decide +kernel) (okS_spec rfl) rfl ?_
    refine wm_iconst 0 19 (by decide +kernel : decode cX4_ticksUntil 18 = .ok (.iconst 0, 1)) rfl (by decide +kernel) ?_
    refine wm_istore 6 21 [some _, some _, some _, none, some _, none, some _, none, none] (by decide +kernel) rfl (by decide +kernel) (okS_spec rfl) rfl ?_
    obtain ⟨n14, H⟩ := H
    refine l_X4_ticksUntil_L21 g _ _  _ _ _ _ _ H
def f_X5_add (x1 : Int32) (h : HP) (Q : HP → Prop) : Prop :=
  vp_in (gi h 105 1) 120 ∧
  ∀ h2 : HP, h2 = si h 106 (ix (gi h 105 1)) x1 →
  ∀ h3 : HP, h3 = si h2 105 1 ((gi h2 105 1) + 1) →
  Q h3
set_option maxRecDepth 20000 in
theorem l_X5_add (g : GE) (x1 : Int32)  (h : HP) (Q : HP → Prop) (H : f_X5_add x1 h Q) : Wm g mX5_add 0 [some (.ref 105), some (.int x1)] [] h (qv Q) := by
  unfold f_X5_add at H
  refine wm_aload_n 0 1 (by decide +kernel) rfl rfl ?_
  refine wm_getr 5 0 1 106 4 fl_RX5_9 (by decide +kernel) rfl (by decide +kernel) rfl rfl (by decide) ?_
  refine wm_aload_n 0 5 (by decide +kernel) rfl rfl ?_
  refine wm_geti 5 1 8 fl_RX5_15 (by decide +kernel) rfl (by decide +kernel) rfl ?_
  refine wm_iload_n 1 9 (by decide +kernel) rfl rfl ?_
  obtain ⟨o1, H⟩ := H
  replace H := H _ rfl
  refine wm_iast 120 10 (by decide +kernel) rfl (by decide +kernel) (by decide +kernel) o1 ?_
  refine wm_aload_n 0 11 (by decide +kernel) rfl rfl ?_
  refine wm_dup 12 (by decide +kernel) rfl rfl ?_
  refine wm_geti 5 1 15 fl_RX5_15 (by decide +kernel) rfl (by decide +kernel) rfl ?_
  refine wm_iconst 1 16 (by decide +kernel : decode cX5_add 15 = .ok (.iconst 1, 1)) rfl (by decide +kernel) ?_
  refine wm_iadd 17 (by decide +kernel) rfl ?_
  replace H := H _ rfl
  refine wm_puti 5 1 20 fl_RX5_15 (by decide +kernel) rfl (by decide +kernel) rfl rfl ⟨rfl, rfl⟩ ?_
  exact wm_vret (by decide +kernel) rfl H
def f_X5_sortOf_J28 (x0 : Int32)  (Q : Int32 → HP → Prop) (h : HP) : Prop :=
  Q (if x0 = 59 then (3 : Int32) else 4) h
def f_X5_sortOf_J14 (x0 : Int32)  (Q : Int32 → HP → Prop) (h : HP) : Prop :=
  (((x0 < 48) →
    f_X5_sortOf_J28 x0  Q h) ∧
   (¬ (x0 < 48) →
    (((57 < x0) →
      f_X5_sortOf_J28 x0  Q h) ∧
     (¬ (57 < x0) →
      Q 2 h))))
def f_X5_sortOf (x0 : Int32) (h : HP) (Q : Int32 → HP → Prop) : Prop :=
  (((x0 < 97) →
    f_X5_sortOf_J14 x0  Q h) ∧
   (¬ (x0 < 97) →
    (((122 < x0) →
      f_X5_sortOf_J14 x0  Q h) ∧
     (¬ (122 < x0) →
      Q 1 h))))
set_option maxRecDepth 20000 in
theorem l_X5_sortOf_J28 (g : GE) (x0 : Int32)   (Q : Int32 → HP → Prop)  (h : HP) (H : f_X5_sortOf_J28 x0  Q h) : Wm g mX5_sortOf 28 [some (.int x0)] [] h (qi Q) := by
  unfold f_X5_sortOf_J28 at H
  refine wm_iload_n 0 29 (by decide +kernel) rfl rfl ?_
  refine wm_bipush 59 31 (by decide +kernel : decode cX5_sortOf 29 = .ok (.bipush 59, 2)) rfl (by decide +kernel) ?_
  refine' wm_dia (pcJ := 39) (fun kt kf => wm_icmp_ne 34 38 (by decide +kernel : decode cX5_sortOf 31 = .ok (.if_icmp .ne 7, 3)) (by decide) rfl kf kt) ?D4k (fun kj c1 => ?D4t) (fun kj c1 => ?D4f)
  case D4t =>
    refine wm_iconst 3 35 (by decide +kernel : decode cX5_sortOf 34 = .ok (.iconst 3, 1)) rfl (by decide +kernel) ?_
    refine wm_goto 39 (by decide +kernel : decode cX5_sortOf 35 = .ok (.goto 4, 3)) (by decide) ?_
    exact kj
  case D4f =>
    refine wm_iconst 4 39 (by decide +kernel : decode cX5_sortOf 38 = .ok (.iconst 4, 1)) rfl (by decide +kernel) ?_
    exact kj
  case D4k =>
    exact wm_iret (by decide +kernel) ⟨.int, rfl, rfl⟩ H
set_option maxRecDepth 20000 in
theorem l_X5_sortOf_J14 (g : GE) (x0 : Int32)   (Q : Int32 → HP → Prop)  (h : HP) (H : f_X5_sortOf_J14 x0  Q h) : Wm g mX5_sortOf 14 [some (.int x0)] [] h (qi Q) := by
  unfold f_X5_sortOf_J14 at H
  refine wm_iload_n 0 15 (by decide +kernel) rfl rfl ?_
  refine wm_bipush 48 17 (by decide +kernel : decode cX5_sortOf 15 = .ok (.bipush 48, 2)) rfl (by decide +kernel) ?_
  refine wm_icmp_lt 20 28 (by decide +kernel : decode cX5_sortOf 17 = .ok (.if_icmp .lt 11, 3)) (by decide) rfl (fun c2 => ?_) (fun c2 => ?_)
  · replace H := H.1 c2
    exact l_X5_sortOf_J28 g _ _  _ H
  · replace H := H.2 c2
    refine wm_iload_n 0 21 (by decide +kernel) rfl rfl ?_
    refine wm_bipush 57 23 (by decide +kernel : decode cX5_sortOf 21 = .ok (.bipush 57, 2)) rfl (by decide +kernel) ?_
    refine wm_icmp_gt 26 28 (by decide +kernel : decode cX5_sortOf 23 = .ok (.if_icmp .gt 5, 3)) (by decide) rfl (fun c5 => ?_) (fun c5 => ?_)
    · replace H := H.1 c5
      exact l_X5_sortOf_J28 g _ _  _ H
    · replace H := H.2 c5
      refine wm_iconst 2 27 (by decide +kernel : decode cX5_sortOf 26 = .ok (.iconst 2, 1)) rfl (by decide +kernel) ?_
      exact wm_iret (by decide +kernel) ⟨.int, rfl, rfl⟩ H
set_option maxRecDepth 20000 in
theorem l_X5_sortOf (g : GE) (x0 : Int32)  (h : HP) (Q : Int32 → HP → Prop) (H : f_X5_sortOf x0 h Q) : Wm g mX5_sortOf 0 [some (.int x0)] [] h (qi Q) := by
  unfold f_X5_sortOf at H
  refine wm_iload_n 0 1 (by decide +kernel) rfl rfl ?_
  refine wm_bipush 97 3 (by decide +kernel : decode cX5_sortOf 1 = .ok (.bipush 97, 2)) rfl (by decide +kernel) ?_
  refine wm_icmp_lt 6 14 (by decide +kernel : decode cX5_sortOf 3 = .ok (.if_icmp .lt 11, 3)) (by decide) rfl (fun c1 => ?_) (fun c1 => ?_)
  · replace H := H.1 c1
    exact l_X5_sortOf_J14 g _ _  _ H
  · replace H := H.2 c1
    refine wm_iload_n 0 7 (by decide +kernel) rfl rfl ?_
    refine wm_bipush 122 9 (by decide +kernel : decode cX5_sortOf 7 = .ok (.bipush 122, 2)) rfl (by decide +kernel) ?_
    refine wm_icmp_gt 12 14 (by decide +kernel : decode cX5_sortOf 9 = .ok (.if_icmp .gt 5, 3)) (by decide) rfl (fun c6 => ?_) (fun c6 => ?_)
    · replace H := H.1 c6
      exact l_X5_sortOf_J14 g _ _  _ H
    · replace H := H.2 c6
      refine wm_iconst 1 13 (by decide +kernel : decode cX5_sortOf 12 = .ok (.iconst 1, 1)) rfl (by decide +kernel) ?_
      exact wm_iret (by decide +kernel) ⟨.int, rfl, rfl⟩ H
def f_X5_valueOfToken_L7   (Q : Int32 → HP → Prop) : Nat → Int32 → Int32 → HP → Prop
  | 0, _, _, _ => False
  | n + 1, x1, x2, h =>
    ((((gi h 105 5) ≤ x2) →
      Q x1 h) ∧
     (¬ ((gi h 105 5) ≤ x2) →
      vp_in x2 120 ∧
      ∀ x1_4 : Int32, x1_4 = (((10 * x1) + (gi h 106 (ix x2))) - 48) →
      (((x1_4 ≤ 999) →
        ∀ x2_6 : Int32, x2_6 = (x2 + 1) →
        f_X5_valueOfToken_L7 Q n x1_4 x2_6 h) ∧
       (¬ (x1_4 ≤ 999) →
        Q 1000 h))))
def f_X5_valueOfToken  (h : HP) (Q : Int32 → HP → Prop) : Prop :=
  ∀ x2_1 : Int32, x2_1 = (gi h 105 4) →
  ∃ n7, f_X5_valueOfToken_L7 
    Q n7 0 x2_1 h
set_option maxRecDepth 20000 in
theorem l_X5_valueOfToken_L7 (g : GE)    (Q : Int32 → HP → Prop)  : ∀ (n : Nat) (x1 : Int32) (x2 : Int32) (h : HP), f_X5_valueOfToken_L7 Q n x1 x2 h → Wm g mX5_valueOfToken 7 [some (.ref 105), some (.int x1), some (.int x2)] [] h (qi Q) := by
  intro n
  induction n with
  | zero => intro x1 x2 h H; exact H.elim
  | succ n ih =>
    intro x1 x2 h H
    unfold f_X5_valueOfToken_L7 at H
    refine wm_iload_n 2 8 (by decide +kernel) rfl rfl ?_
    refine wm_aload_n 0 9 (by decide +kernel) rfl rfl ?_
    refine wm_geti 5 5 12 fl_RX5_22 (by decide +kernel) rfl (by decide +kernel) rfl ?_
    refine wm_icmp_ge 15 47 (by decide +kernel : decode cX5_valueOfToken 12 = .ok (.if_icmp .ge 35, 3)) (by decide) rfl (fun c2 => ?_) (fun c2 => ?_)
    · replace H := H.1 c2
      refine wm_iload_n 1 48 (by decide +kernel) rfl rfl ?_
      exact wm_iret (by decide +kernel) ⟨.int, rfl, rfl⟩ H
    · replace H := H.2 c2
      refine wm_bipush 10 17 (by decide +kernel : decode cX5_valueOfToken 15 = .ok (.bipush 10, 2)) rfl (by decide +kernel) ?_
      refine wm_iload_n 1 18 (by decide +kernel) rfl rfl ?_
      refine wm_imul 19 (by decide +kernel) rfl ?_
      refine wm_aload_n 0 20 (by decide +kernel) rfl rfl ?_
      refine wm_getr 5 0 1 106 23 fl_RX5_9 (by decide +kernel) rfl (by decide +kernel) rfl rfl (by decide) ?_
      refine wm_iload_n 2 24 (by decide +kernel) rfl rfl ?_
      obtain ⟨o3, H⟩ := H
      refine wm_iald 120 25 (by decide +kernel) rfl (by decide +kernel) (by decide +kernel) o3 ?_
      refine wm_iadd 26 (by decide +kernel) rfl ?_
      refine wm_bipush 48 28 (by decide +kernel : decode cX5_valueOfToken 26 = .ok (.bipush 48, 2)) rfl (by decide +kernel) ?_
      refine wm_isub 29 (by decide +kernel) rfl ?_
      replace H := H _ rfl
      refine wm_istore_n 1 30 [some _, some _, some _] (by decide +kernel) rfl (by decide +kernel) (okS_spec rfl) rfl ?_
      refine wm_iload_n 1 31 (by decide +kernel) rfl rfl ?_
      refine wm_sipush 999 34 (by decide +kernel : decode cX5_valueOfToken 31 = .ok (.sipush 999, 3)) rfl (by decide +kernel) ?_
      refine wm_icmp_le 37 41 (by decide +kernel : decode cX5_valueOfToken 34 = .ok (.if_icmp .le 7, 3)) (by decide) rfl (fun c5 => ?_) (fun c5 => ?_)
      · replace H := H.1 c5
        replace H := H _ rfl
        refine wm_iinc 2 (_ + 1) 44 [some _, some _, some _] (by decide +kernel : decode cX5_valueOfToken 41 = .ok (.iinc 2 1, 3)) rfl (by decide +kernel) rfl (ofI_eq (by decide +kernel)) (okS_spec rfl) rfl ?_
        refine wm_goto 7 (by decide +kernel : decode cX5_valueOfToken 44 = .ok (.goto (-37), 3)) (by decide) ?_
        exact ih _ _ _ H
      · replace H := H.2 c5
        refine wm_sipush 1000 40 (by decide +kernel : decode cX5_valueOfToken 37 = .ok (.sipush 1000, 3)) rfl (by decide +kernel) ?_
        exact wm_iret (by decide +kernel) ⟨.int, rfl, rfl⟩ H
set_option maxRecDepth 20000 in
theorem l_X5_valueOfToken (g : GE)   (h : HP) (Q : Int32 → HP → Prop) (H : f_X5_valueOfToken  h Q) : Wm g mX5_valueOfToken 0 [some (.ref 105), none, none] [] h (qi Q) := by
  unfold f_X5_valueOfToken at H
  refine wm_iconst 0 1 (by decide +kernel : decode cX5_valueOfToken 0 = .ok (.iconst 0, 1)) rfl (by decide +kernel) ?_
  refine wm_istore_n 1 2 [some _, some _, none] (by decide +kernel) rfl (by decide +kernel) (okS_spec rfl) rfl ?_
  refine wm_aload_n 0 3 (by decide +kernel) rfl rfl ?_
  refine wm_geti 5 4 6 fl_RX5_34 (by decide +kernel) rfl (by decide +kernel) rfl ?_
  replace H := H _ rfl
  refine wm_istore_n 2 7 [some _, some _, some _] (by decide +kernel) rfl (by decide +kernel) (okS_spec rfl) rfl ?_
  obtain ⟨n7, H⟩ := H
  refine l_X5_valueOfToken_L7 g _  _ _ _ _ H
def f_X5_readToken_L0  (k38 : HP → Prop) (Q : HP → Prop) : Nat → HP → Prop
  | 0, _ => False
  | n + 1, h =>
    ((((gi h 105 1) ≤ (gi h 105 5)) →
      k38 h) ∧
     (¬ ((gi h 105 1) ≤ (gi h 105 5)) →
      vp_in (gi h 105 5) 120 ∧
      ((((gi h 106 (ix (gi h 105 5))) = 32) →
        ∀ h4 : HP, h4 = si h 105 5 ((gi h 105 5) + 1) →
        f_X5_readToken_L0 k38 Q n h4) ∧
       (¬ ((gi h 106 (ix (gi h 105 5))) = 32) →
        k38 h))))
def f_X5_readToken_L104  (k147 : HP → Prop) (Q : HP → Prop) : Nat → HP → Prop
  | 0, _ => False
  | n + 1, h =>
    ((((gi h 105 1) ≤ (gi h 105 5)) →
      k147 h) ∧
     (¬ ((gi h 105 1) ≤ (gi h 105 5)) →
      vp_in (gi h 105 5) 120 ∧
      f_X5_sortOf (gi h 106 (ix (gi h 105 5))) h (fun v13 h12 =>
      (((v13 = (gi h12 105 3)) →
        ∀ h15 : HP, h15 = si h12 105 5 ((gi h12 105 5) + 1) →
        f_X5_readToken_L104 k147 Q n h15) ∧
       (¬ (v13 = (gi h12 105 3)) →
        k147 h12)))))
def f_X5_readToken_J147   (Q : HP → Prop) (h : HP) : Prop :=
  ((((gi h 105 3) = 2) →
    f_X5_valueOfToken h (fun v19 h18 =>
    ∀ h20 : HP, h20 = si h18 105 6 v19 →
    Q h20)) ∧
   (¬ ((gi h 105 3) = 2) →
    Q h))
def f_X5_readToken_J88   (Q : HP → Prop) (h : HP) : Prop :=
  ((((gi h 105 3) = 1) →
    ∃ n21, f_X5_readToken_L104 
      (fun h16 =>
        f_X5_readToken_J147   Q h16)
      Q n21  h) ∧
   (¬ ((gi h 105 3) = 1) →
    ((((gi h 105 3) = 2) →
      ∃ n24, f_X5_readToken_L104 
        (fun h23 =>
          f_X5_readToken_J147   Q h23)
        Q n24  h) ∧
     (¬ ((gi h 105 3) = 2) →
      f_X5_readToken_J147   Q h))))
def f_X5_readToken_J38   (Q : HP → Prop) (h : HP) : Prop :=
  ∀ h6 : HP, h6 = si h 105 4 (gi h 105 5) →
  ∀ h7 : HP, h7 = si h6 105 3 0 →
  ((((gi h7 105 1) ≤ (gi h7 105 5)) →
    f_X5_readToken_J88   Q h7) ∧
   (¬ ((gi h7 105 1) ≤ (gi h7 105 5)) →
    vp_in (gi h7 105 5) 120 ∧
    f_X5_sortOf (gi h7 106 (ix (gi h7 105 5))) h7 (fun v27 h26 =>
    ∀ h28 : HP, h28 = si h26 105 3 v27 →
    ∀ h29 : HP, h29 = si h28 105 5 ((gi h28 105 5) + 1) →
    f_X5_readToken_J88   Q h29)))
def f_X5_readToken  (h : HP) (Q : HP → Prop) : Prop :=
  ∃ n30, f_X5_readToken_L0 
    (fun h5 =>
      f_X5_readToken_J38   Q h5)
    Q n30  h
set_option maxRecDepth 20000 in
theorem l_X5_readToken_L0 (g : GE)   (k38 : HP → Prop) (Q : HP → Prop) (hk38 : ∀  (h : HP), k38  h → Wm g mX5_readToken 38 [some (.ref 105)] [] h (qv Q)) : ∀ (n : Nat)  (h : HP), f_X5_readToken_L0 k38 Q n  h → Wm g mX5_readToken 0 [some (.ref 105)] [] h (qv Q) := by
  intro n
  induction n with
  | zero => intro  h H; exact H.elim
  | succ n ih =>
    intro  h H
    unfold f_X5_readToken_L0 at H
    refine wm_aload_n 0 1 (by decide +kernel) rfl rfl ?_
    refine wm_geti 5 5 4 fl_RX5_22 (by decide +kernel) rfl (by decide +kernel) rfl ?_
    refine wm_aload_n 0 5 (by decide +kernel) rfl rfl ?_
    refine wm_geti 5 1 8 fl_RX5_15 (by decide +kernel) rfl (by decide +kernel) rfl ?_
    refine wm_icmp_ge 11 38 (by decide +kernel : decode cX5_readToken 8 = .ok (.if_icmp .ge 30, 3)) (by decide) rfl (fun c1 => ?_) (fun c1 => ?_)
    · replace H := H.1 c1
      exact hk38 _ H
    · replace H := H.2 c1
      refine wm_aload_n 0 12 (by decide +kernel) rfl rfl ?_
      refine wm_getr 5 0 1 106 15 fl_RX5_9 (by decide +kernel) rfl (by decide +kernel) rfl rfl (by decide) ?_
      refine wm_aload_n 0 16 (by decide +kernel) rfl rfl ?_
      refine wm_geti 5 5 19 fl_RX5_22 (by decide +kernel) rfl (by decide +kernel) rfl ?_
      obtain ⟨o2, H⟩ := H
      refine wm_iald 120 20 (by decide +kernel) rfl (by decide +kernel) (by decide +kernel) o2 ?_
      refine wm_bipush 32 22 (by decide +kernel : decode cX5_readToken 20 = .ok (.bipush 32, 2)) rfl (by decide +kernel) ?_
      refine wm_icmp_ne 25 38 (by decide +kernel : decode cX5_readToken 22 = .ok (.if_icmp .ne 16, 3)) (by decide) rfl (fun c3 => ?_) (fun c3 => ?_)
      · replace H := H.2 c3
        exact hk38 _ H
      · replace H := H.1 c3
        refine wm_aload_n 0 26 (by decide +kernel) rfl rfl ?_
        refine wm_dup 27 (by decide +kernel) rfl rfl ?_
        refine wm_geti 5 5 30 fl_RX5_22 (by decide +kernel) rfl (by decide +kernel) rfl ?_
        refine wm_iconst 1 31 (by decide +kernel : decode cX5_readToken 30 = .ok (.iconst 1, 1)) rfl (by decide +kernel) ?_
        refine wm_iadd 32 (by decide +kernel) rfl ?_
        replace H := H _ rfl
        refine wm_puti 5 5 35 fl_RX5_22 (by decide +kernel) rfl (by decide +kernel) rfl rfl ⟨rfl, rfl⟩ ?_
        refine wm_goto 0 (by decide +kernel : decode cX5_readToken 35 = .ok (.goto (-35), 3)) (by decide) ?_
        exact ih _ H
set_option maxRecDepth 20000 in
theorem l_X5_readToken_L104 (g : GE)   (k147 : HP → Prop) (Q : HP → Prop) (hk147 : ∀  (h : HP), k147  h → Wm g mX5_readToken 147 [some (.ref 105)] [] h (qv Q)) : ∀ (n : Nat)  (h : HP), f_X5_readToken_L104 k147 Q n  h → Wm g mX5_readToken 104 [some (.ref 105)] [] h (qv Q) := by
  intro n
  induction n with
  | zero => intro  h H; exact H.elim
  | succ n ih =>
    intro  h H
    unfold f_X5_readToken_L104 at H
    refine wm_aload_n 0 105 (by decide +kernel) rfl rfl ?_
    refine wm_geti 5 5 108 fl_RX5_22 (by decide +kernel) rfl (by decide +kernel) rfl ?_
    refine wm_aload_n 0 109 (by decide +kernel) rfl rfl ?_
    refine wm_geti 5 1 112 fl_RX5_15 (by decide +kernel) rfl (by decide +kernel) rfl ?_
    refine wm_icmp_ge 115 147 (by decide +kernel : decode cX5_readToken 112 = .ok (.if_icmp .ge 35, 3)) (by decide) rfl (fun c10 => ?_) (fun c10 => ?_)
    · replace H := H.1 c10
      exact hk147 _ H
    · replace H := H.2 c10
      refine wm_aload_n 0 116 (by decide +kernel) rfl rfl ?_
      refine wm_getr 5 0 1 106 119 fl_RX5_9 (by decide +kernel) rfl (by decide +kernel) rfl rfl (by decide) ?_
      refine wm_aload_n 0 120 (by decide +kernel) rfl rfl ?_
      refine wm_geti 5 5 123 fl_RX5_22 (by decide +kernel) rfl (by decide +kernel) rfl ?_
      obtain ⟨o11, H⟩ := H
      refine wm_iald 120 124 (by decide +kernel) rfl (by decide +kernel) (by decide +kernel) o11 ?_
      refine wm_callSi mX5_sortOf 1 [_] [] _ _ 127 mo_X5_sortOf np_X5_sortOf ml_RX5_37 sc_X5_sortOf (by decide +kernel) (by decide +kernel) rfl rfl rfl (Nat.le_of_ble_eq_true rfl) (Nat.le_of_ble_eq_true rfl) _ (ent_pad 0 rfl) (l_X5_sortOf g _ _ _ H) (fun v13 h12 H hzv13 => ?_)
      refine wm_aload_n 0 128 (by decide +kernel) rfl rfl ?_
      refine wm_geti 5 3 131 fl_RX5_28 (by decide +kernel) rfl (by decide +kernel) rfl ?_
      refine wm_icmp_ne 134 147 (by decide +kernel : decode cX5_readToken 131 = .ok (.if_icmp .ne 16, 3)) (by decide) rfl (fun c14 => ?_) (fun c14 => ?_)
      · replace H := H.2 c14
        exact hk147 _ H
      · replace H := H.1 c14
        refine wm_aload_n 0 135 (by decide +kernel) rfl rfl ?_
        refine wm_dup 136 (by decide +kernel) rfl rfl ?_
        refine wm_geti 5 5 139 fl_RX5_22 (by decide +kernel) rfl (by decide +kernel) rfl ?_
        refine wm_iconst 1 140 (by decide +kernel : decode cX5_readToken 139 = .ok (.iconst 1, 1)) rfl (by decide +kernel) ?_
        refine wm_iadd 141 (by decide +kernel) rfl ?_
        replace H := H _ rfl
        refine wm_puti 5 5 144 fl_RX5_22 (by decide +kernel) rfl (by decide +kernel) rfl rfl ⟨rfl, rfl⟩ ?_
        refine wm_goto 104 (by decide +kernel : decode cX5_readToken 144 = .ok (.goto (-40), 3)) (by decide) ?_
        exact ih _ H
set_option maxRecDepth 20000 in
theorem l_X5_readToken_J147 (g : GE)    (Q : HP → Prop)  (h : HP) (H : f_X5_readToken_J147   Q h) : Wm g mX5_readToken 147 [some (.ref 105)] [] h (qv Q) := by
  unfold f_X5_readToken_J147 at H
  refine wm_aload_n 0 148 (by decide +kernel) rfl rfl ?_
  refine wm_geti 5 3 151 fl_RX5_28 (by decide +kernel) rfl (by decide +kernel) rfl ?_
  refine wm_iconst 2 152 (by decide +kernel : decode cX5_readToken 151 = .ok (.iconst 2, 1)) rfl (by decide +kernel) ?_
  refine wm_icmp_ne 155 163 (by decide +kernel : decode cX5_readToken 152 = .ok (.if_icmp .ne 11, 3)) (by decide) rfl (fun c17 => ?_) (fun c17 => ?_)
  · replace H := H.2 c17
    exact wm_vret (by decide +kernel) rfl H
  · replace H := H.1 c17
    refine wm_aload_n 0 156 (by decide +kernel) rfl rfl ?_
    refine wm_aload_n 0 157 (by decide +kernel) rfl rfl ?_
    refine wm_callVi mX5_valueOfToken 0 5 [] [_] _ _ 160 mo_X5_valueOfToken np_X5_valueOfToken ml_RX5_41 im_X5_valueOfToken se_X5_valueOfToken (by decide +kernel) (by decide +kernel) rfl rfl rfl (Nat.le_of_ble_eq_true rfl) (by decide +kernel) rfl (Nat.le_of_ble_eq_true rfl) _ (ent_pad 2 rfl) (l_X5_valueOfToken g _ _ H) (fun v19 h18 H hzv19 => ?_)
    replace H := H _ rfl
    refine wm_puti 5 6 163 fl_RX5_45 (by decide +kernel) rfl (by decide +kernel) rfl rfl ⟨rfl, rfl⟩ ?_
    exact wm_vret (by decide +kernel) rfl H
set_option maxRecDepth 20000 in
theorem l_X5_readToken_J88 (g : GE)    (Q : HP → Prop)  (h : HP) (H : f_X5_readToken_J88   Q h) : Wm g mX5_readToken 88 [some (.ref 105)] [] h (qv Q) := by
  unfold f_X5_readToken_J88 at H
  refine wm_aload_n 0 89 (by decide +kernel) rfl rfl ?_
  refine wm_geti 5 3 92 fl_RX5_28 (by decide +kernel) rfl (by decide +kernel) rfl ?_
  refine wm_iconst 1 93 (by decide +kernel : decode cX5_readToken 92 = .ok (.iconst 1, 1)) rfl (by decide +kernel) ?_
  refine wm_icmp_eq 96 104 (by decide +kernel : decode cX5_readToken 93 = .ok (.if_icmp .eq 11, 3)) (by decide) rfl (fun c9 => ?_) (fun c9 => ?_)
  · replace H := H.1 c9
    obtain ⟨n21, H⟩ := H
    refine l_X5_readToken_L104 g _ _ (fun h16 H => ?_) _ _ H
    · skip
      exact l_X5_readToken_J147 g _  _ H
  · replace H := H.2 c9
    refine wm_aload_n 0 97 (by decide +kernel) rfl rfl ?_
    refine wm_geti 5 3 100 fl_RX5_28 (by decide +kernel) rfl (by decide +kernel) rfl ?_
    refine wm_iconst 2 101 (by decide +kernel : decode cX5_readToken 100 = .ok (.iconst 2, 1)) rfl (by decide +kernel) ?_
    refine wm_icmp_ne 104 147 (by decide +kernel : decode cX5_readToken 101 = .ok (.if_icmp .ne 46, 3)) (by decide) rfl (fun c22 => ?_) (fun c22 => ?_)
    · replace H := H.2 c22
      exact l_X5_readToken_J147 g _  _ H
    · replace H := H.1 c22
      obtain ⟨n24, H⟩ := H
      refine l_X5_readToken_L104 g _ _ (fun h23 H => ?_) _ _ H
      · skip
        exact l_X5_readToken_J147 g _  _ H
set_option maxRecDepth 20000 in
theorem l_X5_readToken_J38 (g : GE)    (Q : HP → Prop)  (h : HP) (H : f_X5_readToken_J38   Q h) : Wm g mX5_readToken 38 [some (.ref 105)] [] h (qv Q) := by
  unfold f_X5_readToken_J38 at H
  refine wm_aload_n 0 39 (by decide +kernel) rfl rfl ?_
  refine wm_aload_n 0 40 (by decide +kernel) rfl rfl ?_
  refine wm_geti 5 5 43 fl_RX5_22 (by decide +kernel) rfl (by decide +kernel) rfl ?_
  replace H := H _ rfl
  refine wm_puti 5 4 46 fl_RX5_34 (by decide +kernel) rfl (by decide +kernel) rfl rfl ⟨rfl, rfl⟩ ?_
  refine wm_aload_n 0 47 (by decide +kernel) rfl rfl ?_
  refine wm_iconst 0 48 (by decide +kernel : decode cX5_readToken 47 = .ok (.iconst 0, 1)) rfl (by decide +kernel) ?_
  replace H := H _ rfl
  refine wm_puti 5 3 51 fl_RX5_28 (by decide +kernel) rfl (by decide +kernel) rfl rfl ⟨rfl, rfl⟩ ?_
  refine wm_aload_n 0 52 (by decide +kernel) rfl rfl ?_
  refine wm_geti 5 5 55 fl_RX5_22 (by decide +kernel) rfl (by decide +kernel) rfl ?_
  refine wm_aload_n 0 56 (by decide +kernel) rfl rfl ?_
  refine wm_geti 5 1 59 fl_RX5_15 (by decide +kernel) rfl (by decide +kernel) rfl ?_
  refine wm_icmp_ge 62 88 (by decide +kernel : decode cX5_readToken 59 = .ok (.if_icmp .ge 29, 3)) (by decide) rfl (fun c8 => ?_) (fun c8 => ?_)
  · replace H := H.1 c8
    exact l_X5_readToken_J88 g _  _ H
  · replace H := H.2 c8
    refine wm_aload_n 0 63 (by decide +kernel) rfl rfl ?_
    refine wm_aload_n 0 64 (by decide +kernel) rfl rfl ?_
    refine wm_getr 5 0 1 106 67 fl_RX5_9 (by decide +kernel) rfl (by decide +kernel) rfl rfl (by decide) ?_
    refine wm_aload_n 0 68 (by decide +kernel) rfl rfl ?_
    refine wm_geti 5 5 71 fl_RX5_22 (by decide +kernel) rfl (by decide +kernel) rfl ?_
    obtain ⟨o25, H⟩ := H
    refine wm_iald 120 72 (by decide +kernel) rfl (by decide +kernel) (by decide +kernel) o25 ?_
    refine wm_callSi mX5_sortOf 1 [_] [_] _ _ 75 mo_X5_sortOf np_X5_sortOf ml_RX5_37 sc_X5_sortOf (by decide +kernel) (by decide +kernel) rfl rfl rfl (Nat.le_of_ble_eq_true rfl) (Nat.le_of_ble_eq_true rfl) _ (ent_pad 0 rfl) (l_X5_sortOf g _ _ _ H) (fun v27 h26 H hzv27 => ?_)
    replace H := H _ rfl
    refine wm_puti 5 3 78 fl_RX5_28 (by decide +kernel) rfl (by decide +kernel) rfl rfl ⟨rfl, rfl⟩ ?_
    refine wm_aload_n 0 79 (by decide +kernel) rfl rfl ?_
    refine wm_dup 80 (by decide +kernel) rfl rfl ?_
    refine wm_geti 5 5 83 fl_RX5_22 (by decide +kernel) rfl (by decide +kernel) rfl ?_
    refine wm_iconst 1 84 (by decide +kernel : decode cX5_readToken 83 = .ok (.iconst 1, 1)) rfl (by decide +kernel) ?_
    refine wm_iadd 85 (by decide +kernel) rfl ?_
    replace H := H _ rfl
    refine wm_puti 5 5 88 fl_RX5_22 (by decide +kernel) rfl (by decide +kernel) rfl rfl ⟨rfl, rfl⟩ ?_
    exact l_X5_readToken_J88 g _  _ H
set_option maxRecDepth 20000 in
theorem l_X5_readToken (g : GE)   (h : HP) (Q : HP → Prop) (H : f_X5_readToken  h Q) : Wm g mX5_readToken 0 [some (.ref 105)] [] h (qv Q) := by
  unfold f_X5_readToken at H
  obtain ⟨n30, H⟩ := H
  refine l_X5_readToken_L0 g _ _ (fun h5 H => ?_) _ _ H
  · skip
    exact l_X5_readToken_J38 g _  _ H
def f_X5_start  (h : HP) (Q : HP → Prop) : Prop :=
  ∀ h1 : HP, h1 = si h 105 2 (-1 : Int32) →
  ∀ h2 : HP, h2 = si h1 105 5 0 →
  f_X5_readToken h2 (fun h3 =>
  Q h3)
set_option maxRecDepth 20000 in
theorem l_X5_start (g : GE)   (h : HP) (Q : HP → Prop) (H : f_X5_start  h Q) : Wm g mX5_start 0 [some (.ref 105)] [] h (qv Q) := by
  unfold f_X5_start at H
  refine wm_aload_n 0 1 (by decide +kernel) rfl rfl ?_
  refine wm_iconst (-1) 2 (by decide +kernel : decode cX5_start 1 = .ok (.iconst (-1), 1)) rfl (by decide +kernel) ?_
  replace H := H _ rfl
  refine wm_puti 5 2 5 fl_RX5_19 (by decide +kernel) rfl (by decide +kernel) rfl rfl ⟨rfl, rfl⟩ ?_
  refine wm_aload_n 0 6 (by decide +kernel) rfl rfl ?_
  refine wm_iconst 0 7 (by decide +kernel : decode cX5_start 6 = .ok (.iconst 0, 1)) rfl (by decide +kernel) ?_
  replace H := H _ rfl
  refine wm_puti 5 5 10 fl_RX5_22 (by decide +kernel) rfl (by decide +kernel) rfl rfl ⟨rfl, rfl⟩ ?_
  refine wm_aload_n 0 11 (by decide +kernel) rfl rfl ?_
  refine wm_callVv mX5_readToken 0 5 [] [] _ _ 14 mo_X5_readToken np_X5_readToken ml_RX5_25 im_X5_readToken se_X5_readToken (by decide +kernel) (by decide +kernel) rfl rfl rfl (Nat.le_of_ble_eq_true rfl) (by decide +kernel) rfl (Nat.le_of_ble_eq_true rfl) _ (ent_pad 0 rfl) (l_X5_readToken g _ _ H) (fun h3 H => ?_)
  exact wm_vret (by decide +kernel) rfl H
def f_X5_fail  (h : HP) (Q : HP → Prop) : Prop :=
  (((0 ≤ (gi h 105 2)) →
    Q h) ∧
   (¬ (0 ≤ (gi h 105 2)) →
    ∀ h2 : HP, h2 = si h 105 2 (gi h 105 4) →
    Q h2))
set_option maxRecDepth 20000 in
theorem l_X5_fail (g : GE)   (h : HP) (Q : HP → Prop) (H : f_X5_fail  h Q) : Wm g mX5_fail 0 [some (.ref 105)] [] h (qv Q) := by
  unfold f_X5_fail at H
  refine wm_aload_n 0 1 (by decide +kernel) rfl rfl ?_
  refine wm_geti 5 2 4 fl_RX5_19 (by decide +kernel) rfl (by decide +kernel) rfl ?_
  refine wm_if_ge 7 15 (by decide +kernel : decode cX5_fail 4 = .ok (.ifCond .ge 11, 3)) (by decide) rfl (fun c1 => ?_) (fun c1 => ?_)
  · replace H := H.1 c1
    exact wm_vret (by decide +kernel) rfl H
  · replace H := H.2 c1
    refine wm_aload_n 0 8 (by decide +kernel) rfl rfl ?_
    refine wm_aload_n 0 9 (by decide +kernel) rfl rfl ?_
    refine wm_geti 5 4 12 fl_RX5_34 (by decide +kernel) rfl (by decide +kernel) rfl ?_
    replace H := H _ rfl
    refine wm_puti 5 2 15 fl_RX5_19 (by decide +kernel) rfl (by decide +kernel) rfl rfl ⟨rfl, rfl⟩ ?_
    exact wm_vret (by decide +kernel) rfl H
def f_X5_takeSign  (h : HP) (Q : Int32 → HP → Prop) : Prop :=
  (((0 ≤ (gi h 105 2)) →
    Q 0 h) ∧
   (¬ (0 ≤ (gi h 105 2)) →
    ((((gi h 105 3) = 0) →
      Q 0 h) ∧
     (¬ ((gi h 105 3) = 0) →
      ((((gi h 105 3) = 3) →
        f_X5_readToken h (fun h4 =>
        Q 1 h4)) ∧
       (¬ ((gi h 105 3) = 3) →
        f_X5_fail h (fun h5 =>
        Q 0 h5)))))))
set_option maxRecDepth 20000 in
theorem l_X5_takeSign (g : GE)   (h : HP) (Q : Int32 → HP → Prop) (H : f_X5_takeSign  h Q) : Wm g mX5_takeSign 0 [some (.ref 105)] [] h (qi Q) := by
  unfold f_X5_takeSign at H
  refine wm_aload_n 0 1 (by decide +kernel) rfl rfl ?_
  refine wm_geti 5 2 4 fl_RX5_19 (by decide +kernel) rfl (by decide +kernel) rfl ?_
  refine wm_if_ge 7 14 (by decide +kernel : decode cX5_takeSign 4 = .ok (.ifCond .ge 10, 3)) (by decide) rfl (fun c1 => ?_) (fun c1 => ?_)
  · replace H := H.1 c1
    refine wm_iconst 0 15 (by decide +kernel : decode cX5_takeSign 14 = .ok (.iconst 0, 1)) rfl (by decide +kernel) ?_
    exact wm_iret (by decide +kernel) ⟨.boolean, rfl, (by decide +kernel)⟩ H
  · replace H := H.2 c1
    refine wm_aload_n 0 8 (by decide +kernel) rfl rfl ?_
    refine wm_geti 5 3 11 fl_RX5_28 (by decide +kernel) rfl (by decide +kernel) rfl ?_
    refine wm_if_ne 14 16 (by decide +kernel : decode cX5_takeSign 11 = .ok (.ifCond .ne 5, 3)) (by decide) rfl (fun c2 => ?_) (fun c2 => ?_)
    · replace H := H.2 c2
      refine wm_aload_n 0 17 (by decide +kernel) rfl rfl ?_
      refine wm_geti 5 3 20 fl_RX5_28 (by decide +kernel) rfl (by decide +kernel) rfl ?_
      refine wm_iconst 3 21 (by decide +kernel : decode cX5_takeSign 20 = .ok (.iconst 3, 1)) rfl (by decide +kernel) ?_
      refine wm_icmp_eq 24 30 (by decide +kernel : decode cX5_takeSign 21 = .ok (.if_icmp .eq 9, 3)) (by decide) rfl (fun c3 => ?_) (fun c3 => ?_)
      · replace H := H.1 c3
        refine wm_aload_n 0 31 (by decide +kernel) rfl rfl ?_
        refine wm_callVv mX5_readToken 0 5 [] [] _ _ 34 mo_X5_readToken np_X5_readToken ml_RX5_25 im_X5_readToken se_X5_readToken (by decide +kernel) (by decide +kernel) rfl rfl rfl (Nat.le_of_ble_eq_true rfl) (by decide +kernel) rfl (Nat.le_of_ble_eq_true rfl) _ (ent_pad 0 rfl) (l_X5_readToken g _ _ H) (fun h4 H => ?_)
        refine wm_iconst 1 35 (by decide +kernel : decode cX5_takeSign 34 = .ok (.iconst 1, 1)) rfl (by decide +kernel) ?_
        exact wm_iret (by decide +kernel) ⟨.boolean, rfl, (by decide +kernel)⟩ H
      · replace H := H.2 c3
        refine wm_aload_n 0 25 (by decide +kernel) rfl rfl ?_
        refine wm_callVv mX5_fail 0 5 [] [] _ _ 28 mo_X5_fail np_X5_fail ml_RX5_31 im_X5_fail se_X5_fail (by decide +kernel) (by decide +kernel) rfl rfl rfl (Nat.le_of_ble_eq_true rfl) (by decide +kernel) rfl (Nat.le_of_ble_eq_true rfl) _ (ent_pad 0 rfl) (l_X5_fail g _ _ H) (fun h5 H => ?_)
        refine wm_iconst 0 29 (by decide +kernel : decode cX5_takeSign 28 = .ok (.iconst 0, 1)) rfl (by decide +kernel) ?_
        exact wm_iret (by decide +kernel) ⟨.boolean, rfl, (by decide +kernel)⟩ H
    · replace H := H.1 c2
      refine wm_iconst 0 15 (by decide +kernel : decode cX5_takeSign 14 = .ok (.iconst 0, 1)) rfl (by decide +kernel) ?_
      exact wm_iret (by decide +kernel) ⟨.boolean, rfl, (by decide +kernel)⟩ H
