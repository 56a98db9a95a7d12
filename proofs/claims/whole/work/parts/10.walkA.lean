def f_X0_become (a0 : Nat) (a1 : Nat) (h : HP) (Q : HP → Prop) : Prop :=
  ∀ h1 : HP, h1 = si h a0 0 (gi h a1 0) →
  ∀ h2 : HP, h2 = si h1 a0 1 (gi h1 a1 1) →
  ∀ h3 : HP, h3 = si h2 a0 2 (gi h2 a1 2) →
  ∀ h4 : HP, h4 = si h3 a0 3 (gi h3 a1 3) →
  ∀ h5 : HP, h5 = si h4 a0 4 (gi h4 a1 4) →
  ∀ h6 : HP, h6 = si h5 a0 5 (gi h5 a1 5) →
  ∀ h7 : HP, h7 = si h6 a0 6 (gi h6 a1 6) →
  ∀ h8 : HP, h8 = si h7 a0 7 (gi h7 a1 7) →
  ∀ h9 : HP, h9 = si h8 a0 8 (gi h8 a1 8) →
  (¬ (0 : Int32) < 0 ∧ ¬ (0 : Int32) < 0 ∧ ¬ (16 : Int32) < 0 ∧ ix 0 + ix 16 ≤ 16 ∧ ix 0 + ix 16 ≤ 16) ∧
  ∀ h11 : HP, h11 = cpi h9 (a1 + 1) (a0 + 1) (ix 0) (ix 0) (ix 16) →
  Q h11
set_option maxRecDepth 20000 in
theorem l_X0_become (g : GE) (a0 : Nat) (a1 : Nat) (ha0 : kd a0 = 0) (ha1 : kd a1 = 0) (h : HP) (Q : HP → Prop) (H : f_X0_become a0 a1 h Q) : Wm g mX0_become 0 [some (.ref a0), some (.ref a1)] [] h (qv Q) := by
  unfold f_X0_become at H
  refine wm_aload_n 0 1 (by decide +kernel) rfl rfl ?_
  refine wm_aload_n 1 2 (by decide +kernel) rfl rfl ?_
  refine wm_geti 0 0 5 fl_RX0_15 (by decide +kernel) rfl ha1 rfl ?_
  replace H := H _ rfl
  refine wm_puti 0 0 8 fl_RX0_15 (by decide +kernel) rfl ha0 rfl rfl ⟨rfl, rfl⟩ ?_
  refine wm_aload_n 0 9 (by decide +kernel) rfl rfl ?_
  refine wm_aload_n 1 10 (by decide +kernel) rfl rfl ?_
  refine wm_geti 0 1 13 fl_RX0_19 (by decide +kernel) rfl ha1 rfl ?_
  replace H := H _ rfl
  refine wm_puti 0 1 16 fl_RX0_19 (by decide +kernel) rfl ha0 rfl rfl ⟨rfl, rfl⟩ ?_
  refine wm_aload_n 0 17 (by decide +kernel) rfl rfl ?_
  refine wm_aload_n 1 18 (by decide +kernel) rfl rfl ?_
  refine wm_geti 0 2 21 fl_RX0_22 (by decide +kernel) rfl ha1 rfl ?_
  replace H := H _ rfl
  refine wm_puti 0 2 24 fl_RX0_22 (by decide +kernel) rfl ha0 rfl rfl ⟨rfl, rfl⟩ ?_
  refine wm_aload_n 0 25 (by decide +kernel) rfl rfl ?_
  refine wm_aload_n 1 26 (by decide +kernel) rfl rfl ?_
  refine wm_geti 0 3 29 fl_RX0_25 (by decide +kernel) rfl ha1 rfl ?_
  replace H := H _ rfl
  refine wm_puti 0 3 32 fl_RX0_25 (by decide +kernel) rfl ha0 rfl rfl ⟨rfl, rfl⟩ ?_
  refine wm_aload_n 0 33 (by decide +kernel) rfl rfl ?_
  refine wm_aload_n 1 34 (by decide +kernel) rfl rfl ?_
  refine wm_geti 0 4 37 fl_RX0_28 (by decide +kernel) rfl ha1 rfl ?_
  replace H := H _ rfl
  refine wm_puti 0 4 40 fl_RX0_28 (by decide +kernel) rfl ha0 rfl rfl ⟨rfl, rfl⟩ ?_
  refine wm_aload_n 0 41 (by decide +kernel) rfl rfl ?_
  refine wm_aload_n 1 42 (by decide +kernel) rfl rfl ?_
  refine wm_geti 0 5 45 fl_RX0_31 (by decide +kernel) rfl ha1 rfl ?_
  replace H := H _ rfl
  refine wm_puti 0 5 48 fl_RX0_31 (by decide +kernel) rfl ha0 rfl rfl ⟨rfl, rfl⟩ ?_
  refine wm_aload_n 0 49 (by decide +kernel) rfl rfl ?_
  refine wm_aload_n 1 50 (by decide +kernel) rfl rfl ?_
  refine wm_geti 0 6 53 fl_RX0_34 (by decide +kernel) rfl ha1 rfl ?_
  replace H := H _ rfl
  refine wm_puti 0 6 56 fl_RX0_34 (by decide +kernel) rfl ha0 rfl rfl ⟨rfl, rfl⟩ ?_
  refine wm_aload_n 0 57 (by decide +kernel) rfl rfl ?_
  refine wm_aload_n 1 58 (by decide +kernel) rfl rfl ?_
  refine wm_geti 0 7 61 fl_RX0_37 (by decide +kernel) rfl ha1 rfl ?_
  replace H := H _ rfl
  refine wm_puti 0 7 64 fl_RX0_37 (by decide +kernel) rfl ha0 rfl rfl ⟨rfl, rfl⟩ ?_
  refine wm_aload_n 0 65 (by decide +kernel) rfl rfl ?_
  refine wm_aload_n 1 66 (by decide +kernel) rfl rfl ?_
  refine wm_geti 0 8 69 fl_RX0_40 (by decide +kernel) rfl ha1 rfl ?_
  replace H := H _ rfl
  refine wm_puti 0 8 72 fl_RX0_40 (by decide +kernel) rfl ha0 rfl rfl ⟨rfl, rfl⟩ ?_
  refine wm_aload_n 1 73 (by decide +kernel) rfl rfl ?_
  refine wm_getr 0 9 1 _ 76 fl_RX0_9 (by decide +kernel) rfl ha1 rfl rfl (by decide) ?_
  refine wm_iconst 0 77 (by decide +kernel : decode cX0_become 76 = .ok (.iconst 0, 1)) rfl (by decide +kernel) ?_
  refine wm_aload_n 0 78 (by decide +kernel) rfl rfl ?_
  refine wm_getr 0 9 1 _ 81 fl_RX0_9 (by decide +kernel) rfl ha0 rfl rfl (by decide) ?_
  refine wm_iconst 0 82 (by decide +kernel : decode cX0_become 81 = .ok (.iconst 0, 1)) rfl (by decide +kernel) ?_
  refine wm_bipush 16 84 (by decide +kernel : decode cX0_become 82 = .ok (.bipush 16, 2)) rfl (by decide +kernel) ?_
  obtain ⟨o10, H⟩ := H
  replace H := H _ rfl
  refine wm_cpi 16 16 87 ml_RX0_43 nv_cpy st_cpy in_Sys (by decide +kernel) (Nat.le_of_ble_eq_true rfl) (by decide +kernel) rfl (L_way ha1).1 (L_way ha0).1 (L_way ha1).2 (L_way ha0).2 o10 ?_
  exact wm_vret (by decide +kernel) rfl H
def f_X0_room (a0 : Nat) (x1 : Int32) (h : HP) (Q : Int32 → HP → Prop) : Prop :=
  ∀ x2_3 : Int32, x2_3 = (if x1 < (gi h a0 7) then ((gi h a0 3) : Int32) else (gi h a0 6)) →
  ∀ x3_6 : Int32, x3_6 = (if (x1 - x1 / 2 * 2) = 0 then (x2_3 : Int32) else 0) →
  ∀ x4_9 : Int32, x4_9 = (if (gi h a0 5) ≤ (x1 - x1 / 6 * 6) then (x2_3 : Int32) else 0) →
  ((((gi h a0 0) = 1) →
    Q x3_6 h) ∧
   (¬ ((gi h a0 0) = 1) →
    ((((gi h a0 0) = 2) →
      Q x4_9 h) ∧
     (¬ ((gi h a0 0) = 2) →
      ((((gi h a0 0) = 3) →
        Q (x3_6 / 2) h) ∧
       (¬ ((gi h a0 0) = 3) →
        ((((gi h a0 0) = 4) →
          Q (3 * x4_9) h) ∧
         (¬ ((gi h a0 0) = 4) →
          ((((gi h a0 0) = 5) →
            Q (if (gi h a0 4) ≤ 4 then (x2_3 : Int32) else (2 * x2_3)) h) ∧
           (¬ ((gi h a0 0) = 5) →
            Q x2_3 h))))))))))
set_option maxRecDepth 20000 in
theorem l_X0_room (g : GE) (a0 : Nat) (x1 : Int32) (ha0 : kd a0 = 0) (h : HP) (Q : Int32 → HP → Prop) (H : f_X0_room a0 x1 h Q) : Wm g mX0_room 0 [some (.ref a0), some (.int x1), none, none, none] [] h (qi Q) := by
  unfold f_X0_room at H
  refine wm_iload_n 1 1 (by decide +kernel) rfl rfl ?_
  refine wm_aload_n 0 2 (by decide +kernel) rfl rfl ?_
  refine wm_geti 0 7 5 fl_RX0_37 (by decide +kernel) rfl ha0 rfl ?_
  refine' wm_dia (pcJ := 19) (fun kt kf => wm_icmp_lt 8 15 (by decide +kernel : decode cX0_room 5 = .ok (.if_icmp .lt 10, 3)) (by decide) rfl kt kf) ?D2k (fun kj c1 => ?D2t) (fun kj c1 => ?D2f)
  case D2t =>
    refine wm_aload_n 0 16 (by decide +kernel) rfl rfl ?_
    refine wm_geti 0 3 19 fl_RX0_25 (by decide +kernel) rfl ha0 rfl ?_
    exact kj
  case D2f =>
    refine wm_aload_n 0 9 (by decide +kernel) rfl rfl ?_
    refine wm_geti 0 6 12 fl_RX0_34 (by decide +kernel) rfl ha0 rfl ?_
    refine wm_goto 19 (by decide +kernel : decode cX0_room 12 = .ok (.goto 7, 3)) (by decide) ?_
    exact kj
  case D2k =>
    replace H := H _ rfl
    refine wm_istore_n 2 20 [some _, some _, some _, none, none] (by decide +kernel) rfl (by decide +kernel) (okS_spec rfl) rfl ?_
    refine wm_iload_n 1 21 (by decide +kernel) rfl rfl ?_
    refine wm_iconst 2 22 (by decide +kernel : decode cX0_room 21 = .ok (.iconst 2, 1)) rfl (by decide +kernel) ?_
    refine wm_irem 23 (by decide +kernel) rfl (by decide +kernel) ?_
    refine' wm_dia (pcJ := 31) (fun kt kf => wm_if_ne 26 30 (by decide +kernel : decode cX0_room 23 = .ok (.ifCond .ne 7, 3)) (by decide) rfl kf kt) ?D5k (fun kj c1 => ?D5t) (fun kj c1 => ?D5f)
    case D5t =>
      refine wm_iload_n 2 27 (by decide +kernel) rfl rfl ?_
      refine wm_goto 31 (by decide +kernel : decode cX0_room 27 = .ok (.goto 4, 3)) (by decide) ?_
      exact kj
    case D5f =>
      refine wm_iconst 0 31 (by decide +kernel : decode cX0_room 30 = .ok (.iconst 0, 1)) rfl (by decide +kernel) ?_
      exact kj
    case D5k =>
      replace H := H _ rfl
      refine wm_istore_n 3 32 [some _, some _, some _, some _, none] (by decide +kernel) rfl (by decide +kernel) (okS_spec rfl) rfl ?_
      refine wm_iload_n 1 33 (by decide +kernel) rfl rfl ?_
      refine wm_bipush 6 35 (by decide +kernel : decode cX0_room 33 = .ok (.bipush 6, 2)) rfl (by decide +kernel) ?_
      refine wm_irem 36 (by decide +kernel) rfl (by decide +kernel) ?_
      refine wm_aload_n 0 37 (by decide +kernel) rfl rfl ?_
      refine wm_geti 0 5 40 fl_RX0_31 (by decide +kernel) rfl ha0 rfl ?_
      refine' wm_dia (pcJ := 48) (fun kt kf => wm_icmp_ge 43 47 (by decide +kernel : decode cX0_room 40 = .ok (.if_icmp .ge 7, 3)) (by decide) rfl kt kf) ?D8k (fun kj c1 => ?D8t) (fun kj c1 => ?D8f)
      case D8t =>
        refine wm_iload_n 2 48 (by decide +kernel) rfl rfl ?_
        exact kj
      case D8f =>
        refine wm_iconst 0 44 (by decide +kernel : decode cX0_room 43 = .ok (.iconst 0, 1)) rfl (by decide +kernel) ?_
        refine wm_goto 48 (by decide +kernel : decode cX0_room 44 = .ok (.goto 4, 3)) (by decide) ?_
        exact kj
      case D8k =>
        replace H := H _ rfl
        refine wm_istore 4 50 [some _, some _, some _, some _, some _] (by decide +kernel) rfl (by decide +kernel) (okS_spec rfl) rfl ?_
        refine wm_aload_n 0 51 (by decide +kernel) rfl rfl ?_
        refine wm_geti 0 0 54 fl_RX0_15 (by decide +kernel) rfl ha0 rfl ?_
        refine em_go H (fun c10 H => ?_) (fun c10 H => ?_)
        · refine wm_tin (off := 34) 1 88 c10 (by decide +kernel : decode cX0_room 54 = .ok (.tableswitch 64 1 5 #[34, 40, 36, 43, 48], 34)) (by decide +kernel) (by decide +kernel) (by decide +kernel) (by decide) ?_
          refine wm_iload_n 3 89 (by decide +kernel) rfl rfl ?_
          exact wm_iret (by decide +kernel) ⟨.int, rfl, rfl⟩ H
        · skip
          refine em_go H (fun c11 H => ?_) (fun c11 H => ?_)
          · refine wm_tin (off := 40) 2 94 c11 (by decide +kernel : decode cX0_room 54 = .ok (.tableswitch 64 1 5 #[34, 40, 36, 43, 48], 34)) (by decide +kernel) (by decide +kernel) (by decide +kernel) (by decide) ?_
            refine wm_iload 4 96 (by decide +kernel) rfl rfl ?_
            exact wm_iret (by decide +kernel) ⟨.int, rfl, rfl⟩ H
          · skip
            refine em_go H (fun c12 H => ?_) (fun c12 H => ?_)
            · refine wm_tin (off := 36) 3 90 c12 (by decide +kernel : decode cX0_room 54 = .ok (.tableswitch 64 1 5 #[34, 40, 36, 43, 48], 34)) (by decide +kernel) (by decide +kernel) (by decide +kernel) (by decide) ?_
              refine wm_iload_n 3 91 (by decide +kernel) rfl rfl ?_
              refine wm_iconst 2 92 (by decide +kernel : decode cX0_room 91 = .ok (.iconst 2, 1)) rfl (by decide +kernel) ?_
              refine wm_idiv 93 (by decide +kernel) rfl (by decide +kernel) ?_
              exact wm_iret (by decide +kernel) ⟨.int, rfl, rfl⟩ H
            · skip
              refine em_go H (fun c13 H => ?_) (fun c13 H => ?_)
              · refine wm_tin (off := 43) 4 97 c13 (by decide +kernel : decode cX0_room 54 = .ok (.tableswitch 64 1 5 #[34, 40, 36, 43, 48], 34)) (by decide +kernel) (by decide +kernel) (by decide +kernel) (by decide) ?_
                refine wm_iconst 3 98 (by decide +kernel : decode cX0_room 97 = .ok (.iconst 3, 1)) rfl (by decide +kernel) ?_
                refine wm_iload 4 100 (by decide +kernel) rfl rfl ?_
                refine wm_imul 101 (by decide +kernel) rfl ?_
                exact wm_iret (by decide +kernel) ⟨.int, rfl, rfl⟩ H
              · skip
                refine em_go H (fun c14 H => ?_) (fun c14 H => ?_)
                · refine wm_tin (off := 48) 5 102 c14 (by decide +kernel : decode cX0_room 54 = .ok (.tableswitch 64 1 5 #[34, 40, 36, 43, 48], 34)) (by decide +kernel) (by decide +kernel) (by decide +kernel) (by decide) ?_
                  refine wm_aload_n 0 103 (by decide +kernel) rfl rfl ?_
                  refine wm_geti 0 4 106 fl_RX0_28 (by decide +kernel) rfl ha0 rfl ?_
                  refine wm_iconst 4 107 (by decide +kernel : decode cX0_room 106 = .ok (.iconst 4, 1)) rfl (by decide +kernel) ?_
                  refine' wm_dia (pcJ := 117) (fun kt kf => wm_icmp_le 110 116 (by decide +kernel : decode cX0_room 107 = .ok (.if_icmp .le 9, 3)) (by decide) rfl kt kf) ?D16k (fun kj c1 => ?D16t) (fun kj c1 => ?D16f)
                  case D16t =>
                    refine wm_iload_n 2 117 (by decide +kernel) rfl rfl ?_
                    exact kj
                  case D16f =>
                    refine wm_iconst 2 111 (by decide +kernel : decode cX0_room 110 = .ok (.iconst 2, 1)) rfl (by decide +kernel) ?_
                    refine wm_iload_n 2 112 (by decide +kernel) rfl rfl ?_
                    refine wm_imul 113 (by decide +kernel) rfl ?_
                    refine wm_goto 117 (by decide +kernel : decode cX0_room 113 = .ok (.goto 4, 3)) (by decide) ?_
                    exact kj
                  case D16k =>
                    exact wm_iret (by decide +kernel) ⟨.int, rfl, rfl⟩ H
                · skip
                  refine wm_tout 118 (by decide +kernel : decode cX0_room 54 = .ok (.tableswitch 64 1 5 #[34, 40, 36, 43, 48], 34)) (by have q0 := ne_toInt 1 (by decide +kernel) c10; have q1 := ne_toInt 2 (by decide +kernel) c11; have q2 := ne_toInt 3 (by decide +kernel) c12; have q3 := ne_toInt 4 (by decide +kernel) c13; have q4 := ne_toInt 5 (by decide +kernel) c14; omega) (by decide) ?_
                  refine wm_iload_n 2 119 (by decide +kernel) rfl rfl ?_
                  exact wm_iret (by decide +kernel) ⟨.int, rfl, rfl⟩ H
def f_X0_takes (a0 : Nat) (h : HP) (Q : Int32 → HP → Prop) : Prop :=
  ((((gi h a0 0) = 1) →
    Q (if 1 < ((gi h a0 4) / 2) then ((gi h a0 4) / 2) else 1) h) ∧
   (¬ ((gi h a0 0) = 1) →
    ((((gi h a0 0) = 2) →
      Q ((gi h a0 4) + 1) h) ∧
     (¬ ((gi h a0 0) = 2) →
      ((((gi h a0 0) = 3) →
        Q 1 h) ∧
       (¬ ((gi h a0 0) = 3) →
        ((((gi h a0 0) = 4) →
          Q (((gi h a0 4) + 1) + (gi h a0 5)) h) ∧
         (¬ ((gi h a0 0) = 4) →
          Q (gi h a0 4) h))))))))
set_option maxRecDepth 20000 in
theorem l_X0_takes (g : GE) (a0 : Nat) (ha0 : kd a0 = 0) (h : HP) (Q : Int32 → HP → Prop) (H : f_X0_takes a0 h Q) : Wm g mX0_takes 0 [some (.ref a0)] [] h (qi Q) := by
  unfold f_X0_takes at H
  refine wm_aload_n 0 1 (by decide +kernel) rfl rfl ?_
  refine wm_geti 0 0 4 fl_RX0_15 (by decide +kernel) rfl ha0 rfl ?_
  refine em_go H (fun c1 H => ?_) (fun c1 H => ?_)
  · refine wm_tin (off := 32) 1 36 c1 (by decide +kernel : decode cX0_takes 4 = .ok (.tableswitch 64 1 4 #[32, 45, 43, 52], 32)) (by decide +kernel) (by decide +kernel) (by decide +kernel) (by decide) ?_
    refine wm_iconst 1 37 (by decide +kernel : decode cX0_takes 36 = .ok (.iconst 1, 1)) rfl (by decide +kernel) ?_
    refine wm_aload_n 0 38 (by decide +kernel) rfl rfl ?_
    refine wm_geti 0 4 41 fl_RX0_28 (by decide +kernel) rfl ha0 rfl ?_
    refine wm_iconst 2 42 (by decide +kernel : decode cX0_takes 41 = .ok (.iconst 2, 1)) rfl (by decide +kernel) ?_
    refine wm_idiv 43 (by decide +kernel) rfl (by decide +kernel) ?_
    refine wm_max 46 ml_RX0_49 st_max in_Math cd_max (by decide +kernel) (Nat.le_of_ble_eq_true rfl) (by decide +kernel) rfl ?_
    exact wm_iret (by decide +kernel) ⟨.int, rfl, rfl⟩ H
  · skip
    refine em_go H (fun c2 H => ?_) (fun c2 H => ?_)
    · refine wm_tin (off := 45) 2 49 c2 (by decide +kernel : decode cX0_takes 4 = .ok (.tableswitch 64 1 4 #[32, 45, 43, 52], 32)) (by decide +kernel) (by decide +kernel) (by decide +kernel) (by decide) ?_
      refine wm_aload_n 0 50 (by decide +kernel) rfl rfl ?_
      refine wm_geti 0 4 53 fl_RX0_28 (by decide +kernel) rfl ha0 rfl ?_
      refine wm_iconst 1 54 (by decide +kernel : decode cX0_takes 53 = .ok (.iconst 1, 1)) rfl (by decide +kernel) ?_
      refine wm_iadd 55 (by decide +kernel) rfl ?_
      exact wm_iret (by decide +kernel) ⟨.int, rfl, rfl⟩ H
    · skip
      refine em_go H (fun c3 H => ?_) (fun c3 H => ?_)
      · refine wm_tin (off := 43) 3 47 c3 (by decide +kernel : decode cX0_takes 4 = .ok (.tableswitch 64 1 4 #[32, 45, 43, 52], 32)) (by decide +kernel) (by decide +kernel) (by decide +kernel) (by decide) ?_
        refine wm_iconst 1 48 (by decide +kernel : decode cX0_takes 47 = .ok (.iconst 1, 1)) rfl (by decide +kernel) ?_
        exact wm_iret (by decide +kernel) ⟨.int, rfl, rfl⟩ H
      · skip
        refine em_go H (fun c4 H => ?_) (fun c4 H => ?_)
        · refine wm_tin (off := 52) 4 56 c4 (by decide +kernel : decode cX0_takes 4 = .ok (.tableswitch 64 1 4 #[32, 45, 43, 52], 32)) (by decide +kernel) (by decide +kernel) (by decide +kernel) (by decide) ?_
          refine wm_aload_n 0 57 (by decide +kernel) rfl rfl ?_
          refine wm_geti 0 4 60 fl_RX0_28 (by decide +kernel) rfl ha0 rfl ?_
          refine wm_iconst 1 61 (by decide +kernel : decode cX0_takes 60 = .ok (.iconst 1, 1)) rfl (by decide +kernel) ?_
          refine wm_iadd 62 (by decide +kernel) rfl ?_
          refine wm_aload_n 0 63 (by decide +kernel) rfl rfl ?_
          refine wm_geti 0 5 66 fl_RX0_31 (by decide +kernel) rfl ha0 rfl ?_
          refine wm_iadd 67 (by decide +kernel) rfl ?_
          exact wm_iret (by decide +kernel) ⟨.int, rfl, rfl⟩ H
        · skip
          refine wm_tout 68 (by decide +kernel : decode cX0_takes 4 = .ok (.tableswitch 64 1 4 #[32, 45, 43, 52], 32)) (by have q0 := ne_toInt 1 (by decide +kernel) c1; have q1 := ne_toInt 2 (by decide +kernel) c2; have q2 := ne_toInt 3 (by decide +kernel) c3; have q3 := ne_toInt 4 (by decide +kernel) c4; omega) (by decide) ?_
          refine wm_aload_n 0 69 (by decide +kernel) rfl rfl ?_
          refine wm_geti 0 4 72 fl_RX0_28 (by decide +kernel) rfl ha0 rfl ?_
          exact wm_iret (by decide +kernel) ⟨.int, rfl, rfl⟩ H
def f_X0_underWay_L4 (a0 : Nat)  (Q : Int32 → HP → Prop) : Nat → Int32 → Int32 → HP → Prop
  | 0, _, _, _ => False
  | n + 1, x1, x2, h =>
    (((16 ≤ x2) →
      Q x1 h) ∧
     (¬ (16 ≤ x2) →
      vp_in x2 16 ∧
      ∀ x1_3 : Int32, x1_3 = (x1 + (gi h (a0 + 1) (ix x2))) →
      ∀ x2_4 : Int32, x2_4 = (x2 + 1) →
      f_X0_underWay_L4 a0 Q n x1_3 x2_4 h))
def f_X0_underWay (a0 : Nat) (h : HP) (Q : Int32 → HP → Prop) : Prop :=
  ∃ n5, f_X0_underWay_L4 a0
    Q n5 0 0 h
set_option maxRecDepth 20000 in
theorem l_X0_underWay_L4 (g : GE) (a0 : Nat) (ha0 : kd a0 = 0)  (Q : Int32 → HP → Prop)  : ∀ (n : Nat) (x1 : Int32) (x2 : Int32) (h : HP), f_X0_underWay_L4 a0 Q n x1 x2 h → Wm g mX0_underWay 4 [some (.ref a0), some (.int x1), some (.int x2)] [] h (qi Q) := by
  intro n
  induction n with
  | zero => intro x1 x2 h H; exact H.elim
  | succ n ih =>
    intro x1 x2 h H
    unfold f_X0_underWay_L4 at H
    refine wm_iload_n 2 5 (by decide +kernel) rfl rfl ?_
    refine wm_bipush 16 7 (by decide +kernel : decode cX0_underWay 5 = .ok (.bipush 16, 2)) rfl (by decide +kernel) ?_
    refine wm_icmp_ge 10 25 (by decide +kernel : decode cX0_underWay 7 = .ok (.if_icmp .ge 18, 3)) (by decide) rfl (fun c1 => ?_) (fun c1 => ?_)
    · replace H := H.1 c1
      refine wm_iload_n 1 26 (by decide +kernel) rfl rfl ?_
      exact wm_iret (by decide +kernel) ⟨.int, rfl, rfl⟩ H
    · replace H := H.2 c1
      refine wm_iload_n 1 11 (by decide +kernel) rfl rfl ?_
      refine wm_aload_n 0 12 (by decide +kernel) rfl rfl ?_
      refine wm_getr 0 9 1 _ 15 fl_RX0_9 (by decide +kernel) rfl ha0 rfl rfl (by decide) ?_
      refine wm_iload_n 2 16 (by decide +kernel) rfl rfl ?_
      obtain ⟨o2, H⟩ := H
      refine wm_iald 16 17 (by decide +kernel) rfl (L_way ha0).1 (L_way ha0).2 o2 ?_
      refine wm_iadd 18 (by decide +kernel) rfl ?_
      replace H := H _ rfl
      refine wm_istore_n 1 19 [some _, some _, some _] (by decide +kernel) rfl (by decide +kernel) (okS_spec rfl) rfl ?_
      replace H := H _ rfl
      refine wm_iinc 2 (_ + 1) 22 [some _, some _, some _] (by decide +kernel : decode cX0_underWay 19 = .ok (.iinc 2 1, 3)) rfl (by decide +kernel) rfl (ofI_eq (by decide +kernel)) (okS_spec rfl) rfl ?_
      refine wm_goto 4 (by decide +kernel : decode cX0_underWay 22 = .ok (.goto (-18), 3)) (by decide) ?_
      exact ih _ _ _ H
set_option maxRecDepth 20000 in
theorem l_X0_underWay (g : GE) (a0 : Nat) (ha0 : kd a0 = 0) (h : HP) (Q : Int32 → HP → Prop) (H : f_X0_underWay a0 h Q) : Wm g mX0_underWay 0 [some (.ref a0), none, none] [] h (qi Q) := by
  unfold f_X0_underWay at H
  refine wm_iconst 0 1 (by decide +kernel : decode cX0_underWay 0 = .ok (.iconst 0, 1)) rfl (by decide +kernel) ?_
  refine wm_istore_n 1 2 [some _, some _, none] (by decide +kernel) rfl (by decide +kernel) (okS_spec rfl) rfl ?_
  refine wm_iconst 0 3 (by decide +kernel : decode cX0_underWay 2 = .ok (.iconst 0, 1)) rfl (by decide +kernel) ?_
  refine wm_istore_n 2 4 [some _, some _, some _] (by decide +kernel) rfl (by decide +kernel) (okS_spec rfl) rfl ?_
  obtain ⟨n5, H⟩ := H
  refine l_X0_underWay_L4 g _ ha0 _  _ _ _ _ H
def f_X0_setting (a0 : Nat) (x1 : Int32) (h : HP) (Q : Int32 → HP → Prop) : Prop :=
  (((x1 = 0) →
    Q (gi h a0 0) h) ∧
   (¬ (x1 = 0) →
    (((x1 = 1) →
      Q (gi h a0 1) h) ∧
     (¬ (x1 = 1) →
      (((x1 = 2) →
        Q (gi h a0 2) h) ∧
       (¬ (x1 = 2) →
        (((x1 = 3) →
          Q (gi h a0 3) h) ∧
         (¬ (x1 = 3) →
          (((x1 = 4) →
            Q (gi h a0 4) h) ∧
           (¬ (x1 = 4) →
            (((x1 = 5) →
              Q (gi h a0 5) h) ∧
             (¬ (x1 = 5) →
              (((x1 = 6) →
                Q (gi h a0 6) h) ∧
               (¬ (x1 = 6) →
                Q (gi h a0 7) h))))))))))))))
set_option maxRecDepth 20000 in
theorem l_X0_setting (g : GE) (a0 : Nat) (x1 : Int32) (ha0 : kd a0 = 0) (h : HP) (Q : Int32 → HP → Prop) (H : f_X0_setting a0 x1 h Q) : Wm g mX0_setting 0 [some (.ref a0), some (.int x1)] [] h (qi Q) := by
  unfold f_X0_setting at H
  refine wm_iload_n 1 1 (by decide +kernel) rfl rfl ?_
  refine em_go H (fun c1 H => ?_) (fun c1 H => ?_)
  · refine wm_tin (off := 43) 0 44 c1 (by decide +kernel : decode cX0_setting 1 = .ok (.tableswitch 78 0 6 #[43, 48, 53, 58, 63, 68, 73], 43)) (by decide +kernel) (by decide +kernel) (by decide +kernel) (by decide) ?_
    refine wm_aload_n 0 45 (by decide +kernel) rfl rfl ?_
    refine wm_geti 0 0 48 fl_RX0_15 (by decide +kernel) rfl ha0 rfl ?_
    exact wm_iret (by decide +kernel) ⟨.int, rfl, rfl⟩ H
  · skip
    refine em_go H (fun c2 H => ?_) (fun c2 H => ?_)
    · refine wm_tin (off := 48) 1 49 c2 (by decide +kernel : decode cX0_setting 1 = .ok (.tableswitch 78 0 6 #[43, 48, 53, 58, 63, 68, 73], 43)) (by decide +kernel) (by decide +kernel) (by decide +kernel) (by decide) ?_
      refine wm_aload_n 0 50 (by decide +kernel) rfl rfl ?_
      refine wm_geti 0 1 53 fl_RX0_19 (by decide +kernel) rfl ha0 rfl ?_
      exact wm_iret (by decide +kernel) ⟨.int, rfl, rfl⟩ H
    · skip
      refine em_go H (fun c3 H => ?_) (fun c3 H => ?_)
      · refine wm_tin (off := 53) 2 54 c3 (by decide +kernel : decode cX0_setting 1 = .ok (.tableswitch 78 0 6 #[43, 48, 53, 58, 63, 68, 73], 43)) (by decide +kernel) (by decide +kernel) (by decide +kernel) (by decide) ?_
        refine wm_aload_n 0 55 (by decide +kernel) rfl rfl ?_
        refine wm_geti 0 2 58 fl_RX0_22 (by decide +kernel) rfl ha0 rfl ?_
        exact wm_iret (by decide +kernel) ⟨.int, rfl, rfl⟩ H
      · skip
        refine em_go H (fun c4 H => ?_) (fun c4 H => ?_)
        · refine wm_tin (off := 58) 3 59 c4 (by decide +kernel : decode cX0_setting 1 = .ok (.tableswitch 78 0 6 #[43, 48, 53, 58, 63, 68, 73], 43)) (by decide +kernel) (by decide +kernel) (by decide +kernel) (by decide) ?_
          refine wm_aload_n 0 60 (by decide +kernel) rfl rfl ?_
          refine wm_geti 0 3 63 fl_RX0_25 (by decide +kernel) rfl ha0 rfl ?_
          exact wm_iret (by decide +kernel) ⟨.int, rfl, rfl⟩ H
        · skip
          refine em_go H (fun c5 H => ?_) (fun c5 H => ?_)
          · refine wm_tin (off := 63) 4 64 c5 (by decide +kernel : decode cX0_setting 1 = .ok (.tableswitch 78 0 6 #[43, 48, 53, 58, 63, 68, 73], 43)) (by decide +kernel) (by decide +kernel) (by decide +kernel) (by decide) ?_
            refine wm_aload_n 0 65 (by decide +kernel) rfl rfl ?_
            refine wm_geti 0 4 68 fl_RX0_28 (by decide +kernel) rfl ha0 rfl ?_
            exact wm_iret (by decide +kernel) ⟨.int, rfl, rfl⟩ H
          · skip
            refine em_go H (fun c6 H => ?_) (fun c6 H => ?_)
            · refine wm_tin (off := 68) 5 69 c6 (by decide +kernel : decode cX0_setting 1 = .ok (.tableswitch 78 0 6 #[43, 48, 53, 58, 63, 68, 73], 43)) (by decide +kernel) (by decide +kernel) (by decide +kernel) (by decide) ?_
              refine wm_aload_n 0 70 (by decide +kernel) rfl rfl ?_
              refine wm_geti 0 5 73 fl_RX0_31 (by decide +kernel) rfl ha0 rfl ?_
              exact wm_iret (by decide +kernel) ⟨.int, rfl, rfl⟩ H
            · skip
              refine em_go H (fun c7 H => ?_) (fun c7 H => ?_)
              · refine wm_tin (off := 73) 6 74 c7 (by decide +kernel : decode cX0_setting 1 = .ok (.tableswitch 78 0 6 #[43, 48, 53, 58, 63, 68, 73], 43)) (by decide +kernel) (by decide +kernel) (by decide +kernel) (by decide) ?_
                refine wm_aload_n 0 75 (by decide +kernel) rfl rfl ?_
                refine wm_geti 0 6 78 fl_RX0_34 (by decide +kernel) rfl ha0 rfl ?_
                exact wm_iret (by decide +kernel) ⟨.int, rfl, rfl⟩ H
              · skip
                refine wm_tout 79 (by decide +kernel : decode cX0_setting 1 = .ok (.tableswitch 78 0 6 #[43, 48, 53, 58, 63, 68, 73], 43)) (by have q0 := ne_toInt 0 (by decide +kernel) c1; have q1 := ne_toInt 1 (by decide +kernel) c2; have q2 := ne_toInt 2 (by decide +kernel) c3; have q3 := ne_toInt 3 (by decide +kernel) c4; have q4 := ne_toInt 4 (by decide +kernel) c5; have q5 := ne_toInt 5 (by decide +kernel) c6; have q6 := ne_toInt 6 (by decide +kernel) c7; omega) (by decide) ?_
                refine wm_aload_n 0 80 (by decide +kernel) rfl rfl ?_
                refine wm_geti 0 7 83 fl_RX0_37 (by decide +kernel) rfl ha0 rfl ?_
                exact wm_iret (by decide +kernel) ⟨.int, rfl, rfl⟩ H
def f_X0_least (x0 : Int32) (h : HP) (Q : Int32 → HP → Prop) : Prop :=
  Q (if x0 = 4 then (1 : Int32) else 0) h
set_option maxRecDepth 20000 in
theorem l_X0_least (g : GE) (x0 : Int32)  (h : HP) (Q : Int32 → HP → Prop) (H : f_X0_least x0 h Q) : Wm g mX0_least 0 [some (.int x0)] [] h (qi Q) := by
  unfold f_X0_least at H
  refine wm_iload_n 0 1 (by decide +kernel) rfl rfl ?_
  refine wm_iconst 4 2 (by decide +kernel : decode cX0_least 1 = .ok (.iconst 4, 1)) rfl (by decide +kernel) ?_
  refine' wm_dia (pcJ := 10) (fun kt kf => wm_icmp_ne 5 9 (by decide +kernel : decode cX0_least 2 = .ok (.if_icmp .ne 7, 3)) (by decide) rfl kf kt) ?D2k (fun kj c1 => ?D2t) (fun kj c1 => ?D2f)
  case D2t =>
    refine wm_iconst 1 6 (by decide +kernel : decode cX0_least 5 = .ok (.iconst 1, 1)) rfl (by decide +kernel) ?_
    refine wm_goto 10 (by decide +kernel : decode cX0_least 6 = .ok (.goto 4, 3)) (by decide) ?_
    exact kj
  case D2f =>
    refine wm_iconst 0 10 (by decide +kernel : decode cX0_least 9 = .ok (.iconst 0, 1)) rfl (by decide +kernel) ?_
    exact kj
  case D2k =>
    exact wm_iret (by decide +kernel) ⟨.int, rfl, rfl⟩ H
def f_X0_greatest (x0 : Int32) (h : HP) (Q : Int32 → HP → Prop) : Prop :=
  (((x0 = 0) →
    Q 5 h) ∧
   (¬ (x0 = 0) →
    (((x0 = 1) →
      Q 99 h) ∧
     (¬ (x0 = 1) →
      (((x0 = 2) →
        Q 99 h) ∧
       (¬ (x0 = 2) →
        (((x0 = 3) →
          Q 99 h) ∧
         (¬ (x0 = 3) →
          (((x0 = 4) →
            Q 9 h) ∧
           (¬ (x0 = 4) →
            (((x0 = 5) →
              Q 5 h) ∧
             (¬ (x0 = 5) →
              (((x0 = 6) →
                Q 99 h) ∧
               (¬ (x0 = 6) →
                (((x0 = 7) →
                  Q 99999 h) ∧
                 (¬ (x0 = 7) →
                  Q 99 h))))))))))))))))
set_option maxRecDepth 20000 in
theorem l_X0_greatest (g : GE) (x0 : Int32)  (h : HP) (Q : Int32 → HP → Prop) (H : f_X0_greatest x0 h Q) : Wm g mX0_greatest 0 [some (.int x0)] [] h (qi Q) := by
  unfold f_X0_greatest at H
  refine wm_iload_n 0 1 (by decide +kernel) rfl rfl ?_
  refine em_go H (fun c1 H => ?_) (fun c1 H => ?_)
  · refine wm_tin (off := 47) 0 48 c1 (by decide +kernel : decode cX0_greatest 1 = .ok (.tableswitch 57 0 7 #[47, 57, 57, 57, 49, 52, 57, 54], 47)) (by decide +kernel) (by decide +kernel) (by decide +kernel) (by decide) ?_
    refine wm_iconst 5 49 (by decide +kernel : decode cX0_greatest 48 = .ok (.iconst 5, 1)) rfl (by decide +kernel) ?_
    exact wm_iret (by decide +kernel) ⟨.int, rfl, rfl⟩ H
  · skip
    refine em_go H (fun c2 H => ?_) (fun c2 H => ?_)
    · refine wm_tin (off := 57) 1 58 c2 (by decide +kernel : decode cX0_greatest 1 = .ok (.tableswitch 57 0 7 #[47, 57, 57, 57, 49, 52, 57, 54], 47)) (by decide +kernel) (by decide +kernel) (by decide +kernel) (by decide) ?_
      refine wm_bipush 99 60 (by decide +kernel : decode cX0_greatest 58 = .ok (.bipush 99, 2)) rfl (by decide +kernel) ?_
      exact wm_iret (by decide +kernel) ⟨.int, rfl, rfl⟩ H
    · skip
      refine em_go H (fun c3 H => ?_) (fun c3 H => ?_)
      · refine wm_tin (off := 57) 2 58 c3 (by decide +kernel : decode cX0_greatest 1 = .ok (.tableswitch 57 0 7 #[47, 57, 57, 57, 49, 52, 57, 54], 47)) (by decide +kernel) (by decide +kernel) (by decide +kernel) (by decide) ?_
        refine wm_bipush 99 60 (by decide +kernel : decode cX0_greatest 58 = .ok (.bipush 99, 2)) rfl (by decide +kernel) ?_
        exact wm_iret (by decide +kernel) ⟨.int, rfl, rfl⟩ H
      · skip
        refine em_go H (fun c4 H => ?_) (fun c4 H => ?_)
        · refine wm_tin (off := 57) 3 58 c4 (by decide +kernel : decode cX0_greatest 1 = .ok (.tableswitch 57 0 7 #[47, 57, 57, 57, 49, 52, 57, 54], 47)) (by decide +kernel) (by decide +kernel) (by decide +kernel) (by decide) ?_
          refine wm_bipush 99 60 (by decide +kernel : decode cX0_greatest 58 = .ok (.bipush 99, 2)) rfl (by decide +kernel) ?_
          exact wm_iret (by decide +kernel) ⟨.int, rfl, rfl⟩ H
        · skip
          refine em_go H (fun c5 H => ?_) (fun c5 H => ?_)
          · refine wm_tin (off := 49) 4 50 c5 (by decide +kernel : decode cX0_greatest 1 = .ok (.tableswitch 57 0 7 #[47, 57, 57, 57, 49, 52, 57, 54], 47)) (by decide +kernel) (by decide +kernel) (by decide +kernel) (by decide) ?_
            refine wm_bipush 9 52 (by decide +kernel : decode cX0_greatest 50 = .ok (.bipush 9, 2)) rfl (by decide +kernel) ?_
            exact wm_iret (by decide +kernel) ⟨.int, rfl, rfl⟩ H
          · skip
            refine em_go H (fun c6 H => ?_) (fun c6 H => ?_)
            · refine wm_tin (off := 52) 5 53 c6 (by decide +kernel : decode cX0_greatest 1 = .ok (.tableswitch 57 0 7 #[47, 57, 57, 57, 49, 52, 57, 54], 47)) (by decide +kernel) (by decide +kernel) (by decide +kernel) (by decide) ?_
              refine wm_iconst 5 54 (by decide +kernel : decode cX0_greatest 53 = .ok (.iconst 5, 1)) rfl (by decide +kernel) ?_
              exact wm_iret (by decide +kernel) ⟨.int, rfl, rfl⟩ H
            · skip
              refine em_go H (fun c7 H => ?_) (fun c7 H => ?_)
              · refine wm_tin (off := 57) 6 58 c7 (by decide +kernel : decode cX0_greatest 1 = .ok (.tableswitch 57 0 7 #[47, 57, 57, 57, 49, 52, 57, 54], 47)) (by decide +kernel) (by decide +kernel) (by decide +kernel) (by decide) ?_
                refine wm_bipush 99 60 (by decide +kernel : decode cX0_greatest 58 = .ok (.bipush 99, 2)) rfl (by decide +kernel) ?_
                exact wm_iret (by decide +kernel) ⟨.int, rfl, rfl⟩ H
              · skip
                refine em_go H (fun c8 H => ?_) (fun c8 H => ?_)
                · refine wm_tin (off := 54) 7 55 c8 (by decide +kernel : decode cX0_greatest 1 = .ok (.tableswitch 57 0 7 #[47, 57, 57, 57, 49, 52, 57, 54], 47)) (by decide +kernel) (by decide +kernel) (by decide +kernel) (by decide) ?_
                  refine wm_ldc 99999 57 co_RX0_55 (by decide +kernel) rfl ?_
                  exact wm_iret (by decide +kernel) ⟨.int, rfl, rfl⟩ H
                · skip
                  refine wm_tout 58 (by decide +kernel : decode cX0_greatest 1 = .ok (.tableswitch 57 0 7 #[47, 57, 57, 57, 49, 52, 57, 54], 47)) (by have q0 := ne_toInt 0 (by decide +kernel) c1; have q1 := ne_toInt 1 (by decide +kernel) c2; have q2 := ne_toInt 2 (by decide +kernel) c3; have q3 := ne_toInt 3 (by decide +kernel) c4; have q4 := ne_toInt 4 (by decide +kernel) c5; have q5 := ne_toInt 5 (by decide +kernel) c6; have q6 := ne_toInt 6 (by decide +kernel) c7; have q7 := ne_toInt 7 (by decide +kernel) c8; omega) (by decide) ?_
                  refine wm_bipush 99 60 (by decide +kernel : decode cX0_greatest 58 = .ok (.bipush 99, 2)) rfl (by decide +kernel) ?_
                  exact wm_iret (by decide +kernel) ⟨.int, rfl, rfl⟩ H
def f_X0_replace (a0 : Nat) (x1 : Int32) (x2 : Int32) (h : HP) (Q : Int32 → HP → Prop) : Prop :=
  f_X0_setting a0 x1 h (fun v2 h1 =>
  (((x1 = 0) →
    ∀ h4 : HP, h4 = si h1 a0 0 x2 →
    Q v2 h4) ∧
   (¬ (x1 = 0) →
    (((x1 = 1) →
      ∀ h6 : HP, h6 = si h1 a0 1 x2 →
      Q v2 h6) ∧
     (¬ (x1 = 1) →
      (((x1 = 2) →
        ∀ h8 : HP, h8 = si h1 a0 2 x2 →
        Q v2 h8) ∧
       (¬ (x1 = 2) →
        (((x1 = 3) →
          ∀ h10 : HP, h10 = si h1 a0 3 x2 →
          Q v2 h10) ∧
         (¬ (x1 = 3) →
          (((x1 = 4) →
            ∀ h12 : HP, h12 = si h1 a0 4 x2 →
            Q v2 h12) ∧
           (¬ (x1 = 4) →
            (((x1 = 5) →
              ∀ h14 : HP, h14 = si h1 a0 5 x2 →
              Q v2 h14) ∧
             (¬ (x1 = 5) →
              (((x1 = 6) →
                ∀ h16 : HP, h16 = si h1 a0 6 x2 →
                Q v2 h16) ∧
               (¬ (x1 = 6) →
                ∀ h17 : HP, h17 = si h1 a0 7 x2 →
                Q v2 h17)))))))))))))))
set_option maxRecDepth 20000 in
theorem l_X0_replace (g : GE) (a0 : Nat) (x1 : Int32) (x2 : Int32) (ha0 : kd a0 = 0) (h : HP) (Q : Int32 → HP → Prop) (H : f_X0_replace a0 x1 x2 h Q) : Wm g mX0_replace 0 [some (.ref a0), some (.int x1), some (.int x2), none] [] h (qi Q) := by
  unfold f_X0_replace at H
  refine wm_aload_n 0 1 (by decide +kernel) rfl rfl ?_
  refine wm_iload_n 1 2 (by decide +kernel) rfl rfl ?_
  refine wm_callVi mX0_setting 1 0 [_] [] _ _ 5 mo_X0_setting np_X0_setting ml_RX0_56 im_X0_setting se_X0_setting (by decide +kernel) (by decide +kernel) rfl rfl rfl (Nat.le_of_ble_eq_true rfl) ha0 rfl (Nat.le_of_ble_eq_true rfl) _ (ent_pad 0 rfl) (l_X0_setting g _ _ ha0 _ _ H) (fun v2 h1 H hzv2 => ?_)
  refine wm_istore_n 3 6 [some _, some _, some _, some _] (by decide +kernel) rfl (by decide +kernel) (okS_spec rfl) rfl ?_
  refine wm_iload_n 1 7 (by decide +kernel) rfl rfl ?_
  refine em_go H (fun c3 H => ?_) (fun c3 H => ?_)
  · refine wm_tin (off := 41) 0 48 c3 (by decide +kernel : decode cX0_replace 7 = .ok (.tableswitch 97 0 6 #[41, 49, 57, 65, 73, 81, 89], 41)) (by decide +kernel) (by decide +kernel) (by decide +kernel) (by decide) ?_
    refine wm_aload_n 0 49 (by decide +kernel) rfl rfl ?_
    refine wm_iload_n 2 50 (by decide +kernel) rfl rfl ?_
    replace H := H _ rfl
    refine wm_puti 0 0 53 fl_RX0_15 (by decide +kernel) rfl ha0 rfl rfl ⟨rfl, rfl⟩ ?_
    refine wm_goto 109 (by decide +kernel : decode cX0_replace 53 = .ok (.goto 56, 3)) (by decide) ?_
    refine wm_iload_n 3 110 (by decide +kernel) rfl rfl ?_
    exact wm_iret (by decide +kernel) ⟨.int, rfl, rfl⟩ H
  · skip
    refine em_go H (fun c5 H => ?_) (fun c5 H => ?_)
    · refine wm_tin (off := 49) 1 56 c5 (by decide +kernel : decode cX0_replace 7 = .ok (.tableswitch 97 0 6 #[41, 49, 57, 65, 73, 81, 89], 41)) (by decide +kernel) (by decide +kernel) (by decide +kernel) (by decide) ?_
      refine wm_aload_n 0 57 (by decide +kernel) rfl rfl ?_
      refine wm_iload_n 2 58 (by decide +kernel) rfl rfl ?_
      replace H := H _ rfl
      refine wm_puti 0 1 61 fl_RX0_19 (by decide +kernel) rfl ha0 rfl rfl ⟨rfl, rfl⟩ ?_
      refine wm_goto 109 (by decide +kernel : decode cX0_replace 61 = .ok (.goto 48, 3)) (by decide) ?_
      refine wm_iload_n 3 110 (by decide +kernel) rfl rfl ?_
      exact wm_iret (by decide +kernel) ⟨.int, rfl, rfl⟩ H
    · skip
      refine em_go H (fun c7 H => ?_) (fun c7 H => ?_)
      · refine wm_tin (off := 57) 2 64 c7 (by decide +kernel : decode cX0_replace 7 = .ok (.tableswitch 97 0 6 #[41, 49, 57, 65, 73, 81, 89], 41)) (by decide +kernel) (by decide +kernel) (by decide +kernel) (by decide) ?_
        refine wm_aload_n 0 65 (by decide +kernel) rfl rfl ?_
        refine wm_iload_n 2 66 (by decide +kernel) rfl rfl ?_
        replace H := H _ rfl
        refine wm_puti 0 2 69 fl_RX0_22 (by decide +kernel) rfl ha0 rfl rfl ⟨rfl, rfl⟩ ?_
        refine wm_goto 109 (by decide +kernel : decode cX0_replace 69 = .ok (.goto 40, 3)) (by decide) ?_
        refine wm_iload_n 3 110 (by decide +kernel) rfl rfl ?_
        exact wm_iret (by decide +kernel) ⟨.int, rfl, rfl⟩ H
      · skip
        refine em_go H (fun c9 H => ?_) (fun c9 H => ?_)
        · refine wm_tin (off := 65) 3 72 c9 (by decide +kernel : decode cX0_replace 7 = .ok (.tableswitch 97 0 6 #[41, 49, 57, 65, 73, 81, 89], 41)) (by decide +kernel) (by decide +kernel) (by decide +kernel) (by decide) ?_
          refine wm_aload_n 0 73 (by decide +kernel) rfl rfl ?_
          refine wm_iload_n 2 74 (by decide +kernel) rfl rfl ?_
          replace H := H _ rfl
          refine wm_puti 0 3 77 fl_RX0_25 (by decide +kernel) rfl ha0 rfl rfl ⟨rfl, rfl⟩ ?_
          refine wm_goto 109 (by decide +kernel : decode cX0_replace 77 = .ok (.goto 32, 3)) (by decide) ?_
          refine wm_iload_n 3 110 (by decide +kernel) rfl rfl ?_
          exact wm_iret (by decide +kernel) ⟨.int, rfl, rfl⟩ H
        · skip
          refine em_go H (fun c11 H => ?_) (fun c11 H => ?_)
          · refine wm_tin (off := 73) 4 80 c11 (by decide +kernel : decode cX0_replace 7 = .ok (.tableswitch 97 0 6 #[41, 49, 57, 65, 73, 81, 89], 41)) (by decide +kernel) (by decide +kernel) (by decide +kernel) (by decide) ?_
            refine wm_aload_n 0 81 (by decide +kernel) rfl rfl ?_
            refine wm_iload_n 2 82 (by decide +kernel) rfl rfl ?_
            replace H := H _ rfl
            refine wm_puti 0 4 85 fl_RX0_28 (by decide +kernel) rfl ha0 rfl rfl ⟨rfl, rfl⟩ ?_
            refine wm_goto 109 (by decide +kernel : decode cX0_replace 85 = .ok (.goto 24, 3)) (by decide) ?_
            refine wm_iload_n 3 110 (by decide +kernel) rfl rfl ?_
            exact wm_iret (by decide +kernel) ⟨.int, rfl, rfl⟩ H
          · skip
            refine em_go H (fun c13 H => ?_) (fun c13 H => ?_)
            · refine wm_tin (off := 81) 5 88 c13 (by decide +kernel : decode cX0_replace 7 = .ok (.tableswitch 97 0 6 #[41, 49, 57, 65, 73, 81, 89], 41)) (by decide +kernel) (by decide +kernel) (by decide +kernel) (by decide) ?_
              refine wm_aload_n 0 89 (by decide +kernel) rfl rfl ?_
              refine wm_iload_n 2 90 (by decide +kernel) rfl rfl ?_
              replace H := H _ rfl
              refine wm_puti 0 5 93 fl_RX0_31 (by decide +kernel) rfl ha0 rfl rfl ⟨rfl, rfl⟩ ?_
              refine wm_goto 109 (by decide +kernel : decode cX0_replace 93 = .ok (.goto 16, 3)) (by decide) ?_
              refine wm_iload_n 3 110 (by decide +kernel) rfl rfl ?_
              exact wm_iret (by decide +kernel) ⟨.int, rfl, rfl⟩ H
            · skip
              refine em_go H (fun c15 H => ?_) (fun c15 H => ?_)
              · refine wm_tin (off := 89) 6 96 c15 (by decide +kernel : decode cX0_replace 7 = .ok (.tableswitch 97 0 6 #[41, 49, 57, 65, 73, 81, 89], 41)) (by decide +kernel) (by decide +kernel) (by decide +kernel) (by decide) ?_
                refine wm_aload_n 0 97 (by decide +kernel) rfl rfl ?_
                refine wm_iload_n 2 98 (by decide +kernel) rfl rfl ?_
                replace H := H _ rfl
                refine wm_puti 0 6 101 fl_RX0_34 (by decide +kernel) rfl ha0 rfl rfl ⟨rfl, rfl⟩ ?_
                refine wm_goto 109 (by decide +kernel : decode cX0_replace 101 = .ok (.goto 8, 3)) (by decide) ?_
                refine wm_iload_n 3 110 (by decide +kernel) rfl rfl ?_
                exact wm_iret (by decide +kernel) ⟨.int, rfl, rfl⟩ H
              · skip
                refine wm_tout 104 (by decide +kernel : decode cX0_replace 7 = .ok (.tableswitch 97 0 6 #[41, 49, 57, 65, 73, 81, 89], 41)) (by have q0 := ne_toInt 0 (by decide +kernel) c3; have q1 := ne_toInt 1 (by decide +kernel) c5; have q2 := ne_toInt 2 (by decide +kernel) c7; have q3 := ne_toInt 3 (by decide +kernel) c9; have q4 := ne_toInt 4 (by decide +kernel) c11; have q5 := ne_toInt 5 (by decide +kernel) c13; have q6 := ne_toInt 6 (by decide +kernel) c15; omega) (by decide) ?_
                refine wm_aload_n 0 105 (by decide +kernel) rfl rfl ?_
                refine wm_iload_n 2 106 (by decide +kernel) rfl rfl ?_
                replace H := H _ rfl
                refine wm_puti 0 7 109 fl_RX0_37 (by decide +kernel) rfl ha0 rfl rfl ⟨rfl, rfl⟩ ?_
                refine wm_iload_n 3 110 (by decide +kernel) rfl rfl ?_
                exact wm_iret (by decide +kernel) ⟨.int, rfl, rfl⟩ H
def f_J7_fill_53178_L5 (a0 : Nat) (x1 : Int32) (x3 : Int32)  (Q : HP → Prop) : Nat → Int32 → HP → Prop
  | 0, _, _ => False
  | n + 1, x2, h =>
    (((x3 ≤ x2) →
      Q h) ∧
     (¬ (x3 ≤ x2) →
      vp_in x2 (kn a0) ∧
      ∀ h4 : HP, h4 = si h a0 (ix x2) x1 →
      ∀ x2_5 : Int32, x2_5 = (x2 + 1) →
      f_J7_fill_53178_L5 a0 x1 x3 Q n x2_5 h4))
def f_J7_fill_53178 (a0 : Nat) (x1 : Int32) (h : HP) (Q : HP → Prop) : Prop :=
  ∀ x3_1 : Int32, x3_1 = (Int32.ofNat (kn a0)) →
  ∃ n6, f_J7_fill_53178_L5 a0 x1 x3_1
    Q n6 0 h
set_option maxRecDepth 20000 in
theorem l_J7_fill_53178_L5 (g : GE) (a0 : Nat) (x1 : Int32) (x3 : Int32) (ha0 : kd a0 = 10)  (Q : HP → Prop)  : ∀ (n : Nat) (x2 : Int32) (h : HP), f_J7_fill_53178_L5 a0 x1 x3 Q n x2 h → Wm g mJ7_fill_53178 5 [some (.ref a0), some (.int x1), some (.int x2), some (.int x3)] [] h (qv Q) := by
  intro n
  induction n with
  | zero => intro x2 h H; exact H.elim
  | succ n ih =>
    intro x2 h H
    unfold f_J7_fill_53178_L5 at H
    refine wm_iload_n 2 6 (by decide +kernel) rfl rfl ?_
    refine wm_iload_n 3 7 (by decide +kernel) rfl rfl ?_
    refine wm_icmp_ge 10 20 (by decide +kernel : decode cJ7_fill_53178 7 = .ok (.if_icmp .ge 13, 3)) (by decide) rfl (fun c2 => ?_) (fun c2 => ?_)
    · replace H := H.1 c2
      exact wm_vret (by decide +kernel) rfl H
    · replace H := H.2 c2
      refine wm_aload_n 0 11 (by decide +kernel) rfl rfl ?_
      refine wm_iload_n 2 12 (by decide +kernel) rfl rfl ?_
      refine wm_iload_n 1 13 (by decide +kernel) rfl rfl ?_
      obtain ⟨o3, H⟩ := H
      replace H := H _ rfl
      refine wm_iast (kn a0) 14 (by decide +kernel) rfl ha0 rfl o3 ?_
      replace H := H _ rfl
      refine wm_iinc 2 (_ + 1) 17 [some _, some _, some _, some _] (by decide +kernel : decode cJ7_fill_53178 14 = .ok (.iinc 2 1, 3)) rfl (by decide +kernel) rfl (ofI_eq (by decide +kernel)) (okS_spec rfl) rfl ?_
      refine wm_goto 5 (by decide +kernel : decode cJ7_fill_53178 17 = .ok (.goto (-12), 3)) (by decide) ?_
      exact ih _ _ H
set_option maxRecDepth 20000 in
theorem l_J7_fill_53178 (g : GE) (a0 : Nat) (x1 : Int32) (ha0 : kd a0 = 10) (h : HP) (Q : HP → Prop) (H : f_J7_fill_53178 a0 x1 h Q) : Wm g mJ7_fill_53178 0 [some (.ref a0), some (.int x1), none, none] [] h (qv Q) := by
  unfold f_J7_fill_53178 at H
  refine wm_iconst 0 1 (by decide +kernel : decode cJ7_fill_53178 0 = .ok (.iconst 0, 1)) rfl (by decide +kernel) ?_
  refine wm_istore_n 2 2 [some _, some _, some _, none] (by decide +kernel) rfl (by decide +kernel) (okS_spec rfl) rfl ?_
  refine wm_aload_n 0 3 (by decide +kernel) rfl rfl ?_
  refine wm_alen _ 4 (by decide +kernel) rfl (Or.inl ha0) rfl ?_
  replace H := H _ rfl
  refine wm_istore_n 3 5 [some _, some _, some _, some _] (by decide +kernel) rfl (by decide +kernel) (okS_spec rfl) rfl ?_
  obtain ⟨n6, H⟩ := H
  refine l_J7_fill_53178_L5 g _ _ _ ha0 _  _ _ _ H
def f_X6_supply_L19 (a0 : Nat) (x1 : Int32) (x2 : Int32)  (Q : Int32 → HP → Prop) : Nat → Int32 → Int32 → HP → Prop
  | 0, _, _, _ => False
  | n + 1, x3, x4, h =>
    ((((gi h a0 3) ≤ x4) →
      Q x3 h) ∧
     (¬ ((gi h a0 3) ≤ x4) →
      (((16 ≤ x2) →
        Q x3 h) ∧
       (¬ (16 ≤ x2) →
        vp_in x4 10 ∧
        ((((gi h ((a0 + 2) + 7 + 2 * ix x4) 2) = x1) →
          vp_in x4 10 ∧
          vp_in (((gi h a0 0) + x2) - ((gi h a0 0) + x2) / 16 * 16) 16 ∧
          ∀ x3_9 : Int32, x3_9 = (x3 + (gi h (((a0 + 2) + 7 + 2 * ix x4) + 1) (ix (((gi h a0 0) + x2) - ((gi h a0 0) + x2) / 16 * 16)))) →
          ∀ x4_10 : Int32, x4_10 = (x4 + 1) →
          f_X6_supply_L19 a0 x1 x2 Q n x3_9 x4_10 h) ∧
         (¬ ((gi h ((a0 + 2) + 7 + 2 * ix x4) 2) = x1) →
          ∀ x4_6 : Int32, x4_6 = (x4 + 1) →
          f_X6_supply_L19 a0 x1 x2 Q n x3 x4_6 h))))))
def f_X6_supply (a0 : Nat) (x1 : Int32) (x2 : Int32) (h : HP) (Q : Int32 → HP → Prop) : Prop :=
  (((x2 = 0) →
    vp_in x1 6 ∧
    Q (gi h ((a0 + 1) + 2 + ix x1) 1) h) ∧
   (¬ (x2 = 0) →
    ∃ n11, f_X6_supply_L19 a0 x1 x2
      Q n11 0 0 h))
set_option maxRecDepth 20000 in
theorem l_X6_supply_L19 (g : GE) (a0 : Nat) (x1 : Int32) (x2 : Int32) (ha0 : kd a0 = 6)  (Q : Int32 → HP → Prop)  : ∀ (n : Nat) (x3 : Int32) (x4 : Int32) (h : HP), f_X6_supply_L19 a0 x1 x2 Q n x3 x4 h → Wm g mX6_supply 19 [some (.ref a0), some (.int x1), some (.int x2), some (.int x3), some (.int x4)] [] h (qi Q) := by
  intro n
  induction n with
  | zero => intro x3 x4 h H; exact H.elim
  | succ n ih =>
    intro x3 x4 h H
    unfold f_X6_supply_L19 at H
    refine wm_iload 4 21 (by decide +kernel) rfl rfl ?_
    refine wm_aload_n 0 22 (by decide +kernel) rfl rfl ?_
    refine wm_geti 6 3 25 fl_RX6_35 (by decide +kernel) rfl ha0 rfl ?_
    refine wm_icmp_ge 28 77 (by decide +kernel : decode cX6_supply 25 = .ok (.if_icmp .ge 52, 3)) (by decide) rfl (fun c2 => ?_) (fun c2 => ?_)
    · replace H := H.1 c2
      refine wm_iload_n 3 78 (by decide +kernel) rfl rfl ?_
      exact wm_iret (by decide +kernel) ⟨.int, rfl, rfl⟩ H
    · replace H := H.2 c2
      refine wm_iload_n 2 29 (by decide +kernel) rfl rfl ?_
      refine wm_bipush 16 31 (by decide +kernel : decode cX6_supply 29 = .ok (.bipush 16, 2)) rfl (by decide +kernel) ?_
      refine wm_icmp_ge 34 77 (by decide +kernel : decode cX6_supply 31 = .ok (.if_icmp .ge 46, 3)) (by decide) rfl (fun c3 => ?_) (fun c3 => ?_)
      · replace H := H.1 c3
        refine wm_iload_n 3 78 (by decide +kernel) rfl rfl ?_
        exact wm_iret (by decide +kernel) ⟨.int, rfl, rfl⟩ H
      · replace H := H.2 c3
        refine wm_aload_n 0 35 (by decide +kernel) rfl rfl ?_
        refine wm_getr 6 5 2 _ 38 fl_RX6_19 (by decide +kernel) rfl ha0 rfl rfl (by decide) ?_
        refine wm_iload 4 40 (by decide +kernel) rfl rfl ?_
        obtain ⟨o4, H⟩ := H
        refine wm_aald 10 _ 41 (by decide +kernel) rfl (Or.inr (Or.inl ⟨(W_ln ha0).1, rfl⟩)) (W_ln ha0).2 o4 ?_
        refine wm_geti 0 2 44 fl_RX6_66 (by decide +kernel) rfl (E_ln (W_ln ha0).1 (vp_in_lt o4)) rfl ?_
        refine wm_iload_n 1 45 (by decide +kernel) rfl rfl ?_
        refine wm_icmp_ne 48 71 (by decide +kernel : decode cX6_supply 45 = .ok (.if_icmp .ne 26, 3)) (by decide) rfl (fun c5 => ?_) (fun c5 => ?_)
        · replace H := H.2 c5
          replace H := H _ rfl
          refine wm_iinc 4 (_ + 1) 74 [some _, some _, some _, some _, some _] (by decide +kernel : decode cX6_supply 71 = .ok (.iinc 4 1, 3)) rfl (by decide +kernel) rfl (ofI_eq (by decide +kernel)) (okS_spec rfl) rfl ?_
          refine wm_goto 19 (by decide +kernel : decode cX6_supply 74 = .ok (.goto (-55), 3)) (by decide) ?_
          exact ih _ _ _ H
        · replace H := H.1 c5
          refine wm_iload_n 3 49 (by decide +kernel) rfl rfl ?_
          refine wm_aload_n 0 50 (by decide +kernel) rfl rfl ?_
          refine wm_getr 6 5 2 _ 53 fl_RX6_19 (by decide +kernel) rfl ha0 rfl rfl (by decide) ?_
          refine wm_iload 4 55 (by decide +kernel) rfl rfl ?_
          obtain ⟨o7, H⟩ := H
          refine wm_aald 10 _ 56 (by decide +kernel) rfl (Or.inr (Or.inl ⟨(W_ln ha0).1, rfl⟩)) (W_ln ha0).2 o7 ?_
          refine wm_getr 0 9 1 _ 59 fl_RX6_82 (by decide +kernel) rfl (E_ln (W_ln ha0).1 (vp_in_lt o7)) rfl rfl (by decide) ?_
          refine wm_aload_n 0 60 (by decide +kernel) rfl rfl ?_
          refine wm_geti 6 0 63 fl_RX6_25 (by decide +kernel) rfl ha0 rfl ?_
          refine wm_iload_n 2 64 (by decide +kernel) rfl rfl ?_
          refine wm_iadd 65 (by decide +kernel) rfl ?_
          refine wm_bipush 16 67 (by decide +kernel : decode cX6_supply 65 = .ok (.bipush 16, 2)) rfl (by decide +kernel) ?_
          refine wm_irem 68 (by decide +kernel) rfl (by decide +kernel) ?_
          obtain ⟨o8, H⟩ := H
          refine wm_iald 16 69 (by decide +kernel) rfl (L_way (E_ln (W_ln ha0).1 (vp_in_lt o7))).1 (L_way (E_ln (W_ln ha0).1 (vp_in_lt o7))).2 o8 ?_
          refine wm_iadd 70 (by decide +kernel) rfl ?_
          replace H := H _ rfl
          refine wm_istore_n 3 71 [some _, some _, some _, some _, some _] (by decide +kernel) rfl (by decide +kernel) (okS_spec rfl) rfl ?_
          replace H := H _ rfl
          refine wm_iinc 4 (_ + 1) 74 [some _, some _, some _, some _, some _] (by decide +kernel : decode cX6_supply 71 = .ok (.iinc 4 1, 3)) rfl (by decide +kernel) rfl (ofI_eq (by decide +kernel)) (okS_spec rfl) rfl ?_
          refine wm_goto 19 (by decide +kernel : decode cX6_supply 74 = .ok (.goto (-55), 3)) (by decide) ?_
          exact ih _ _ _ H
set_option maxRecDepth 20000 in
theorem l_X6_supply (g : GE) (a0 : Nat) (x1 : Int32) (x2 : Int32) (ha0 : kd a0 = 6) (h : HP) (Q : Int32 → HP → Prop) (H : f_X6_supply a0 x1 x2 h Q) : Wm g mX6_supply 0 [some (.ref a0), some (.int x1), some (.int x2), none, none] [] h (qi Q) := by
  unfold f_X6_supply at H
  refine wm_iload_n 2 1 (by decide +kernel) rfl rfl ?_
  refine wm_if_ne 4 14 (by decide +kernel : decode cX6_supply 1 = .ok (.ifCond .ne 13, 3)) (by decide) rfl (fun c1 => ?_) (fun c1 => ?_)
  · replace H := H.2 c1
    refine wm_iconst 0 15 (by decide +kernel : decode cX6_supply 14 = .ok (.iconst 0, 1)) rfl (by decide +kernel) ?_
    refine wm_istore_n 3 16 [some _, some _, some _, some _, none] (by decide +kernel) rfl (by decide +kernel) (okS_spec rfl) rfl ?_
    refine wm_iconst 0 17 (by decide +kernel : decode cX6_supply 16 = .ok (.iconst 0, 1)) rfl (by decide +kernel) ?_
    refine wm_istore 4 19 [some _, some _, some _, some _, some _] (by decide +kernel) rfl (by decide +kernel) (okS_spec rfl) rfl ?_
    obtain ⟨n11, H⟩ := H
    refine l_X6_supply_L19 g _ _ _ ha0 _  _ _ _ _ H
  · replace H := H.1 c1
    refine wm_aload_n 0 5 (by decide +kernel) rfl rfl ?_
    refine wm_getr 6 4 1 _ 8 fl_RX6_11 (by decide +kernel) rfl ha0 rfl rfl (by decide) ?_
    refine wm_iload_n 1 9 (by decide +kernel) rfl rfl ?_
    obtain ⟨o12, H⟩ := H
    refine wm_aald 6 _ 10 (by decide +kernel) rfl (Or.inl ⟨(W_st ha0).1, rfl⟩) (W_st ha0).2 o12 ?_
    refine wm_geti 3 1 13 fl_RX6_56 (by decide +kernel) rfl (E_st (W_st ha0).1 (vp_in_lt o12)) rfl ?_
    exact wm_iret (by decide +kernel) ⟨.int, rfl, rfl⟩ H
def f_X3_holds (a0 : Nat) (x1 : Int32) (h : HP) (Q : Int32 → HP → Prop) : Prop :=
  ((((gi h a0 0) = 1) →
    Q (gi h a0 2) h) ∧
   (¬ ((gi h a0 0) = 1) →
    ((((gi h a0 0) = 2) →
      Q (if (x1 - x1 / 2 * 2) = 0 then (99999 : Int32) else (gi h a0 2)) h) ∧
     (¬ ((gi h a0 0) = 2) →
      ((((gi h a0 0) = 3) →
        Q (if (x1 - x1 / 3 * 3) = 0 then (((gi h a0 2) + 10) : Int32) else (gi h a0 2)) h) ∧
       (¬ ((gi h a0 0) = 3) →
        Q 99999 h))))))
set_option maxRecDepth 20000 in
theorem l_X3_holds (g : GE) (a0 : Nat) (x1 : Int32) (ha0 : kd a0 = 3) (h : HP) (Q : Int32 → HP → Prop) (H : f_X3_holds a0 x1 h Q) : Wm g mX3_holds 0 [some (.ref a0), some (.int x1)] [] h (qi Q) := by
  unfold f_X3_holds at H
  refine wm_aload_n 0 1 (by decide +kernel) rfl rfl ?_
  refine wm_geti 3 0 4 fl_RX3_9 (by decide +kernel) rfl ha0 rfl ?_
  refine em_go H (fun c1 H => ?_) (fun c1 H => ?_)
  · refine wm_tin (off := 28) 1 32 c1 (by decide +kernel : decode cX3_holds 4 = .ok (.tableswitch 70 1 3 #[28, 33, 49], 28)) (by decide +kernel) (by decide +kernel) (by decide +kernel) (by decide) ?_
    refine wm_aload_n 0 33 (by decide +kernel) rfl rfl ?_
    refine wm_geti 3 2 36 fl_RX3_18 (by decide +kernel) rfl ha0 rfl ?_
    exact wm_iret (by decide +kernel) ⟨.int, rfl, rfl⟩ H
  · skip
    refine em_go H (fun c2 H => ?_) (fun c2 H => ?_)
    · refine wm_tin (off := 33) 2 37 c2 (by decide +kernel : decode cX3_holds 4 = .ok (.tableswitch 70 1 3 #[28, 33, 49], 28)) (by decide +kernel) (by decide +kernel) (by decide +kernel) (by decide) ?_
      refine wm_iload_n 1 38 (by decide +kernel) rfl rfl ?_
      refine wm_iconst 2 39 (by decide +kernel : decode cX3_holds 38 = .ok (.iconst 2, 1)) rfl (by decide +kernel) ?_
      refine wm_irem 40 (by decide +kernel) rfl (by decide +kernel) ?_
      refine' wm_dia (pcJ := 52) (fun kt kf => wm_if_ne 43 48 (by decide +kernel : decode cX3_holds 40 = .ok (.ifCond .ne 8, 3)) (by decide) rfl kf kt) ?D4k (fun kj c1 => ?D4t) (fun kj c1 => ?D4f)
      case D4t =>
        refine wm_ldc 99999 45 co_RX3_21 (by decide +kernel) rfl ?_
        refine wm_goto 52 (by decide +kernel : decode cX3_holds 45 = .ok (.goto 7, 3)) (by decide) ?_
        exact kj
      case D4f =>
        refine wm_aload_n 0 49 (by decide +kernel) rfl rfl ?_
        refine wm_geti 3 2 52 fl_RX3_18 (by decide +kernel) rfl ha0 rfl ?_
        exact kj
      case D4k =>
        exact wm_iret (by decide +kernel) ⟨.int, rfl, rfl⟩ H
    · skip
      refine em_go H (fun c5 H => ?_) (fun c5 H => ?_)
      · refine wm_tin (off := 49) 3 53 c5 (by decide +kernel : decode cX3_holds 4 = .ok (.tableswitch 70 1 3 #[28, 33, 49], 28)) (by decide +kernel) (by decide +kernel) (by decide +kernel) (by decide) ?_
        refine wm_iload_n 1 54 (by decide +kernel) rfl rfl ?_
        refine wm_iconst 3 55 (by decide +kernel : decode cX3_holds 54 = .ok (.iconst 3, 1)) rfl (by decide +kernel) ?_
        refine wm_irem 56 (by decide +kernel) rfl (by decide +kernel) ?_
        refine' wm_dia (pcJ := 73) (fun kt kf => wm_if_ne 59 69 (by decide +kernel : decode cX3_holds 56 = .ok (.ifCond .ne 13, 3)) (by decide) rfl kf kt) ?D7k (fun kj c1 => ?D7t) (fun kj c1 => ?D7f)
        case D7t =>
          refine wm_aload_n 0 60 (by decide +kernel) rfl rfl ?_
          refine wm_geti 3 2 63 fl_RX3_18 (by decide +kernel) rfl ha0 rfl ?_
          refine wm_bipush 10 65 (by decide +kernel : decode cX3_holds 63 = .ok (.bipush 10, 2)) rfl (by decide +kernel) ?_
          refine wm_iadd 66 (by decide +kernel) rfl ?_
          refine wm_goto 73 (by decide +kernel : decode cX3_holds 66 = .ok (.goto 7, 3)) (by decide) ?_
          exact kj
        case D7f =>
          refine wm_aload_n 0 70 (by decide +kernel) rfl rfl ?_
          refine wm_geti 3 2 73 fl_RX3_18 (by decide +kernel) rfl ha0 rfl ?_
          exact kj
        case D7k =>
          exact wm_iret (by decide +kernel) ⟨.int, rfl, rfl⟩ H
      · skip
        refine wm_tout 74 (by decide +kernel : decode cX3_holds 4 = .ok (.tableswitch 70 1 3 #[28, 33, 49], 28)) (by have q0 := ne_toInt 1 (by decide +kernel) c1; have q1 := ne_toInt 2 (by decide +kernel) c2; have q2 := ne_toInt 3 (by decide +kernel) c5; omega) (by decide) ?_
        refine wm_ldc 99999 76 co_RX3_21 (by decide +kernel) rfl ?_
        exact wm_iret (by decide +kernel) ⟨.int, rfl, rfl⟩ H
def f_X6_roomAhead (a0 : Nat) (x1 : Int32) (x2 : Int32) (x3 : Int32) (h : HP) (Q : Int32 → HP → Prop) : Prop :=
  vp_in x1 10 ∧
  f_X0_room ((a0 + 2) + 7 + 2 * ix x1) ((gi h a0 0) + x2) h (fun v3 h2 =>
  ∀ x4_4 : Int32, x4_4 = (if x3 < v3 then x3 else v3) →
  (((x2 = 0) →
    vp_in x1 10 ∧
    Q (if 0 < (x4_4 - (gi h2 ((a0 + 2) + 7 + 2 * ix x1) 8)) then (x4_4 - (gi h2 ((a0 + 2) + 7 + 2 * ix x1) 8)) else 0) h2) ∧
   (¬ (x2 = 0) →
    Q x4_4 h2)))
set_option maxRecDepth 20000 in
theorem l_X6_roomAhead (g : GE) (a0 : Nat) (x1 : Int32) (x2 : Int32) (x3 : Int32) (ha0 : kd a0 = 6) (h : HP) (Q : Int32 → HP → Prop) (H : f_X6_roomAhead a0 x1 x2 x3 h Q) : Wm g mX6_roomAhead 0 [some (.ref a0), some (.int x1), some (.int x2), some (.int x3), none] [] h (qi Q) := by
  unfold f_X6_roomAhead at H
  refine wm_aload_n 0 1 (by decide +kernel) rfl rfl ?_
  refine wm_getr 6 5 2 _ 4 fl_RX6_19 (by decide +kernel) rfl ha0 rfl rfl (by decide) ?_
  refine wm_iload_n 1 5 (by decide +kernel) rfl rfl ?_
  obtain ⟨o1, H⟩ := H
  refine wm_aald 10 _ 6 (by decide +kernel) rfl (Or.inr (Or.inl ⟨(W_ln ha0).1, rfl⟩)) (W_ln ha0).2 o1 ?_
  refine wm_aload_n 0 7 (by decide +kernel) rfl rfl ?_
  refine wm_geti 6 0 10 fl_RX6_25 (by decide +kernel) rfl ha0 rfl ?_
  refine wm_iload_n 2 11 (by decide +kernel) rfl rfl ?_
  refine wm_iadd 12 (by decide +kernel) rfl ?_
  refine wm_callVi mX0_room 1 0 [_] [] _ _ 15 mo_X0_room np_X0_room ml_RX6_92 im_X0_room se_X0_room (by decide +kernel) (by decide +kernel) rfl rfl rfl (Nat.le_of_ble_eq_true rfl) (E_ln (W_ln ha0).1 (vp_in_lt o1)) rfl (Nat.le_of_ble_eq_true rfl) _ (ent_pad 3 rfl) (l_X0_room g _ _ (E_ln (W_ln ha0).1 (vp_in_lt o1)) _ _ H) (fun v3 h2 H hzv3 => ?_)
  refine wm_iload_n 3 16 (by decide +kernel) rfl rfl ?_
  refine wm_min 19 ml_RX6_128 st_min in_Math cd_min (by decide +kernel) (Nat.le_of_ble_eq_true rfl) (by decide +kernel) rfl ?_
  replace H := H _ rfl
  refine wm_istore 4 21 [some _, some _, some _, some _, some _] (by decide +kernel) rfl (by decide +kernel) (okS_spec rfl) rfl ?_
  refine wm_iload_n 2 22 (by decide +kernel) rfl rfl ?_
  refine wm_if_ne 25 44 (by decide +kernel : decode cX6_roomAhead 22 = .ok (.ifCond .ne 22, 3)) (by decide) rfl (fun c5 => ?_) (fun c5 => ?_)
  · replace H := H.2 c5
    refine wm_iload 4 46 (by decide +kernel) rfl rfl ?_
    exact wm_iret (by decide +kernel) ⟨.int, rfl, rfl⟩ H
  · replace H := H.1 c5
    refine wm_iconst 0 26 (by decide +kernel : decode cX6_roomAhead 25 = .ok (.iconst 0, 1)) rfl (by decide +kernel) ?_
    refine wm_iload 4 28 (by decide +kernel) rfl rfl ?_
    refine wm_aload_n 0 29 (by decide +kernel) rfl rfl ?_
    refine wm_getr 6 5 2 _ 32 fl_RX6_19 (by decide +kernel) rfl ha0 rfl rfl (by decide) ?_
    refine wm_iload_n 1 33 (by decide +kernel) rfl rfl ?_
    obtain ⟨o6, H⟩ := H
    refine wm_aald 10 _ 34 (by decide +kernel) rfl (Or.inr (Or.inl ⟨(W_ln ha0).1, rfl⟩)) (W_ln ha0).2 o6 ?_
    refine wm_geti 0 8 37 fl_RX6_79 (by decide +kernel) rfl (E_ln (W_ln ha0).1 (vp_in_lt o6)) rfl ?_
    refine wm_isub 38 (by decide +kernel) rfl ?_
    refine wm_max 41 ml_RX6_134 st_max in_Math cd_max (by decide +kernel) (Nat.le_of_ble_eq_true rfl) (by decide +kernel) rfl ?_
    refine wm_goto 46 (by decide +kernel : decode cX6_roomAhead 41 = .ok (.goto 5, 3)) (by decide) ?_
    exact wm_iret (by decide +kernel) ⟨.int, rfl, rfl⟩ H
def f_X2_hasBits (x0 : Int32) (h : HP) (Q : Int32 → HP → Prop) : Prop :=
  (((x0 = 0) →
    Q 1 h) ∧
   (¬ (x0 = 0) →
    (((x0 = 16) →
      Q 1 h) ∧
     (¬ (x0 = 16) →
      (((x0 = 32) →
        Q 1 h) ∧
       (¬ (x0 = 32) →
        (((x0 = 64) →
          Q 1 h) ∧
         (¬ (x0 = 64) →
          Q 0 h))))))))
set_option maxRecDepth 20000 in
theorem l_X2_hasBits (g : GE) (x0 : Int32)  (h : HP) (Q : Int32 → HP → Prop) (H : f_X2_hasBits x0 h Q) : Wm g mX2_hasBits 0 [some (.int x0)] [] h (qi Q) := by
  unfold f_X2_hasBits at H
  refine wm_iload_n 0 1 (by decide +kernel) rfl rfl ?_
  refine wm_if_eq 4 22 (by decide +kernel : decode cX2_hasBits 1 = .ok (.ifCond .eq 21, 3)) (by decide) rfl (fun c1 => ?_) (fun c1 => ?_)
  · replace H := H.1 c1
    refine wm_iconst 1 23 (by decide +kernel : decode cX2_hasBits 22 = .ok (.iconst 1, 1)) rfl (by decide +kernel) ?_
    refine wm_goto 27 (by decide +kernel : decode cX2_hasBits 23 = .ok (.goto 4, 3)) (by decide) ?_
    exact wm_iret (by decide +kernel) ⟨.boolean, rfl, (by decide +kernel)⟩ H
  · replace H := H.2 c1
    refine wm_iload_n 0 5 (by decide +kernel) rfl rfl ?_
    refine wm_bipush 16 7 (by decide +kernel : decode cX2_hasBits 5 = .ok (.bipush 16, 2)) rfl (by decide +kernel) ?_
    refine wm_icmp_eq 10 22 (by decide +kernel : decode cX2_hasBits 7 = .ok (.if_icmp .eq 15, 3)) (by decide) rfl (fun c2 => ?_) (fun c2 => ?_)
    · replace H := H.1 c2
      refine wm_iconst 1 23 (by decide +kernel : decode cX2_hasBits 22 = .ok (.iconst 1, 1)) rfl (by decide +kernel) ?_
      refine wm_goto 27 (by decide +kernel : decode cX2_hasBits 23 = .ok (.goto 4, 3)) (by decide) ?_
      exact wm_iret (by decide +kernel) ⟨.boolean, rfl, (by decide +kernel)⟩ H
    · replace H := H.2 c2
      refine wm_iload_n 0 11 (by decide +kernel) rfl rfl ?_
      refine wm_bipush 32 13 (by decide +kernel : decode cX2_hasBits 11 = .ok (.bipush 32, 2)) rfl (by decide +kernel) ?_
      refine wm_icmp_eq 16 22 (by decide +kernel : decode cX2_hasBits 13 = .ok (.if_icmp .eq 9, 3)) (by decide) rfl (fun c3 => ?_) (fun c3 => ?_)
      · replace H := H.1 c3
        refine wm_iconst 1 23 (by decide +kernel : decode cX2_hasBits 22 = .ok (.iconst 1, 1)) rfl (by decide +kernel) ?_
        refine wm_goto 27 (by decide +kernel : decode cX2_hasBits 23 = .ok (.goto 4, 3)) (by decide) ?_
        exact wm_iret (by decide +kernel) ⟨.boolean, rfl, (by decide +kernel)⟩ H
      · replace H := H.2 c3
        refine wm_iload_n 0 17 (by decide +kernel) rfl rfl ?_
        refine wm_bipush 64 19 (by decide +kernel : decode cX2_hasBits 17 = .ok (.bipush 64, 2)) rfl (by decide +kernel) ?_
        refine wm_icmp_ne 22 26 (by decide +kernel : decode cX2_hasBits 19 = .ok (.if_icmp .ne 7, 3)) (by decide) rfl (fun c4 => ?_) (fun c4 => ?_)
        · replace H := H.2 c4
          refine wm_iconst 0 27 (by decide +kernel : decode cX2_hasBits 26 = .ok (.iconst 0, 1)) rfl (by decide +kernel) ?_
          exact wm_iret (by decide +kernel) ⟨.boolean, rfl, (by decide +kernel)⟩ H
        · replace H := H.1 c4
          refine wm_iconst 1 23 (by decide +kernel : decode cX2_hasBits 22 = .ok (.iconst 1, 1)) rfl (by decide +kernel) ?_
          refine wm_goto 27 (by decide +kernel : decode cX2_hasBits 23 = .ok (.goto 4, 3)) (by decide) ?_
          exact wm_iret (by decide +kernel) ⟨.boolean, rfl, (by decide +kernel)⟩ H
def f_J7_fill_d0a16_L6 (a0 : Nat) (x1 : Int64) (x4 : Int32)  (Q : HP → Prop) : Nat → Int32 → HP → Prop
  | 0, _, _ => False
  | n + 1, x3, h =>
    (((x4 ≤ x3) →
      Q h) ∧
     (¬ (x4 ≤ x3) →
      vp_in x3 (kn a0) ∧
      ∀ h4 : HP, h4 = sl h a0 (ix x3) x1 →
      ∀ x3_5 : Int32, x3_5 = (x3 + 1) →
      f_J7_fill_d0a16_L6 a0 x1 x4 Q n x3_5 h4))
def f_J7_fill_d0a16 (a0 : Nat) (x1 : Int64) (h : HP) (Q : HP → Prop) : Prop :=
  ∀ x4_1 : Int32, x4_1 = (Int32.ofNat (kn a0)) →
  ∃ n6, f_J7_fill_d0a16_L6 a0 x1 x4_1
    Q n6 0 h
set_option maxRecDepth 20000 in
theorem l_J7_fill_d0a16_L6 (g : GE) (a0 : Nat) (x1 : Int64) (x4 : Int32) (ha0 : kd a0 = 12)  (Q : HP → Prop)  : ∀ (n : Nat) (x3 : Int32) (h : HP), f_J7_fill_d0a16_L6 a0 x1 x4 Q n x3 h → Wm g mJ7_fill_d0a16 6 [some (.ref a0), some (.long x1), none, some (.int x3), some (.int x4)] [] h (qv Q) := by
  intro n
  induction n with
  | zero => intro x3 h H; exact H.elim
  | succ n ih =>
    intro x3 h H
    unfold f_J7_fill_d0a16_L6 at H
    refine wm_iload_n 3 7 (by decide +kernel) rfl rfl ?_
    refine wm_iload 4 9 (by decide +kernel) rfl rfl ?_
    refine wm_icmp_ge 12 22 (by decide +kernel : decode cJ7_fill_d0a16 9 = .ok (.if_icmp .ge 13, 3)) (by decide) rfl (fun c2 => ?_) (fun c2 => ?_)
    · replace H := H.1 c2
      exact wm_vret (by decide +kernel) rfl H
    · replace H := H.2 c2
      refine wm_aload_n 0 13 (by decide +kernel) rfl rfl ?_
      refine wm_iload_n 3 14 (by decide +kernel) rfl rfl ?_
      refine wm_lload_n 1 15 (by decide +kernel) rfl rfl ?_
      obtain ⟨o3, H⟩ := H
      replace H := H _ rfl
      refine wm_last (kn a0) 16 (by decide +kernel) rfl ha0 rfl o3 ?_
      replace H := H _ rfl
      refine wm_iinc 3 (_ + 1) 19 [some _, some _, none, some _, some _] (by decide +kernel : decode cJ7_fill_d0a16 16 = .ok (.iinc 3 1, 3)) rfl (by decide +kernel) rfl (ofI_eq (by decide +kernel)) (okS_spec rfl) rfl ?_
      refine wm_goto 6 (by decide +kernel : decode cJ7_fill_d0a16 19 = .ok (.goto (-13), 3)) (by decide) ?_
      exact ih _ _ H
set_option maxRecDepth 20000 in
theorem l_J7_fill_d0a16 (g : GE) (a0 : Nat) (x1 : Int64) (ha0 : kd a0 = 12) (h : HP) (Q : HP → Prop) (H : f_J7_fill_d0a16 a0 x1 h Q) : Wm g mJ7_fill_d0a16 0 [some (.ref a0), some (.long x1), none, none, none] [] h (qv Q) := by
  unfold f_J7_fill_d0a16 at H
  refine wm_iconst 0 1 (by decide +kernel : decode cJ7_fill_d0a16 0 = .ok (.iconst 0, 1)) rfl (by decide +kernel) ?_
  refine wm_istore_n 3 2 [some _, some _, none, some _, none] (by decide +kernel) rfl (by decide +kernel) (okS_spec rfl) rfl ?_
  refine wm_aload_n 0 3 (by decide +kernel) rfl rfl ?_
  refine wm_alen _ 4 (by decide +kernel) rfl (Or.inr ha0) rfl ?_
  replace H := H _ rfl
  refine wm_istore 4 6 [some _, some _, none, some _, some _] (by decide +kernel) rfl (by decide +kernel) (okS_spec rfl) rfl ?_
  obtain ⟨n6, H⟩ := H
  refine l_J7_fill_d0a16_L6 g _ _ _ ha0 _  _ _ _ H
def f_X2_renew (a0 : Nat) (x1 : Int32) (x2 : Int32) (h : HP) (Q : HP → Prop) : Prop :=
  ∀ h1 : HP, h1 = si h a0 1 x1 →
  ∀ h2 : HP, h2 = si h1 a0 2 x2 →
  f_J7_fill_d0a16 (a0 + 1) (0 : Int64) h2 (fun h3 =>
  Q h3)
set_option maxRecDepth 20000 in
theorem l_X2_renew (g : GE) (a0 : Nat) (x1 : Int32) (x2 : Int32) (ha0 : kd a0 = 2) (h : HP) (Q : HP → Prop) (H : f_X2_renew a0 x1 x2 h Q) : Wm g mX2_renew 0 [some (.ref a0), some (.int x1), some (.int x2)] [] h (qv Q) := by
  unfold f_X2_renew at H
  refine wm_aload_n 0 1 (by decide +kernel) rfl rfl ?_
  refine wm_iload_n 1 2 (by decide +kernel) rfl rfl ?_
  replace H := H _ rfl
  refine wm_puti 2 1 5 fl_RX2_15 (by decide +kernel) rfl ha0 rfl rfl ⟨rfl, rfl⟩ ?_
  refine wm_aload_n 0 6 (by decide +kernel) rfl rfl ?_
  refine wm_iload_n 2 7 (by decide +kernel) rfl rfl ?_
  replace H := H _ rfl
  refine wm_puti 2 2 10 fl_RX2_19 (by decide +kernel) rfl ha0 rfl rfl ⟨rfl, rfl⟩ ?_
  refine wm_aload_n 0 11 (by decide +kernel) rfl rfl ?_
  refine wm_getr 2 0 1 _ 14 fl_RX2_9 (by decide +kernel) rfl ha0 rfl rfl (by decide) ?_
  refine wm_lconst 0 15 (by decide +kernel : decode cX2_renew 14 = .ok (.lconst 0, 1)) rfl (by decide +kernel) ?_
  refine wm_callSv mJ7_fill_d0a16 2 [_, _] [] _ _ 18 mo_J7_fill_d0a16 np_J7_fill_d0a16 ml_RX2_22 sc_J7_fill_d0a16 (by decide +kernel) (by decide +kernel) rfl rfl rfl (Nat.le_of_ble_eq_true rfl) (Nat.le_of_ble_eq_true rfl) _ (ent_pad 2 rfl) (l_J7_fill_d0a16 g _ _ (S_row ha0).1 _ _ H) (fun h3 H => ?_)
  exact wm_vret (by decide +kernel) rfl H
def f_X2_put (a0 : Nat) (x1 : Int32) (x2 : Int64) (h : HP) (Q : HP → Prop) : Prop :=
  ((((gi h a0 1) = 16) →
    vp_in x1 40 ∧
    ∀ h8 : HP, h8 = sl h (a0 + 1) (ix x1) ((((x2 : Int64).toInt32 : Int32).toInt16.toInt32 : Int32).toInt64) →
    Q h8) ∧
   (¬ ((gi h a0 1) = 16) →
    ((((gi h a0 1) = 32) →
      vp_in x1 40 ∧
      ∀ h6 : HP, h6 = sl h (a0 + 1) (ix x1) (((x2 : Int64).toInt32 : Int32).toInt64) →
      Q h6) ∧
     (¬ ((gi h a0 1) = 32) →
      vp_in x1 40 ∧
      ∀ h4 : HP, h4 = sl h (a0 + 1) (ix x1) x2 →
      Q h4))))
set_option maxRecDepth 20000 in
theorem l_X2_put (g : GE) (a0 : Nat) (x1 : Int32) (x2 : Int64) (ha0 : kd a0 = 2) (h : HP) (Q : HP → Prop) (H : f_X2_put a0 x1 x2 h Q) : Wm g mX2_put 0 [some (.ref a0), some (.int x1), some (.long x2), none] [] h (qv Q) := by
  unfold f_X2_put at H
  refine wm_aload_n 0 1 (by decide +kernel) rfl rfl ?_
  refine wm_getr 2 0 1 _ 4 fl_RX2_9 (by decide +kernel) rfl ha0 rfl rfl (by decide) ?_
  refine wm_iload_n 1 5 (by decide +kernel) rfl rfl ?_
  refine wm_aload_n 0 6 (by decide +kernel) rfl rfl ?_
  refine wm_geti 2 1 9 fl_RX2_15 (by decide +kernel) rfl ha0 rfl ?_
  refine wm_bipush 16 11 (by decide +kernel : decode cX2_put 9 = .ok (.bipush 16, 2)) rfl (by decide +kernel) ?_
  refine wm_icmp_ne 14 21 (by decide +kernel : decode cX2_put 11 = .ok (.if_icmp .ne 10, 3)) (by decide) rfl (fun c1 => ?_) (fun c1 => ?_)
  · replace H := H.2 c1
    refine wm_aload_n 0 22 (by decide +kernel) rfl rfl ?_
    refine wm_geti 2 1 25 fl_RX2_15 (by decide +kernel) rfl ha0 rfl ?_
    refine wm_bipush 32 27 (by decide +kernel : decode cX2_put 25 = .ok (.bipush 32, 2)) rfl (by decide +kernel) ?_
    refine wm_icmp_ne 30 36 (by decide +kernel : decode cX2_put 27 = .ok (.if_icmp .ne 9, 3)) (by decide) rfl (fun c2 => ?_) (fun c2 => ?_)
    · replace H := H.2 c2
      refine wm_lload_n 2 37 (by decide +kernel) rfl rfl ?_
      obtain ⟨o3, H⟩ := H
      replace H := H _ rfl
      refine wm_last 40 38 (by decide +kernel) rfl (S_row ha0).1 (S_row ha0).2 o3 ?_
      exact wm_vret (by decide +kernel) rfl H
    · replace H := H.1 c2
      refine wm_lload_n 2 31 (by decide +kernel) rfl rfl ?_
      refine wm_l2i 32 (by decide +kernel) rfl ?_
      refine wm_i2l 33 (by decide +kernel) rfl ?_
      refine wm_goto 37 (by decide +kernel : decode cX2_put 33 = .ok (.goto 4, 3)) (by decide) ?_
      obtain ⟨o5, H⟩ := H
      replace H := H _ rfl
      refine wm_last 40 38 (by decide +kernel) rfl (S_row ha0).1 (S_row ha0).2 o5 ?_
      exact wm_vret (by decide +kernel) rfl H
  · replace H := H.1 c1
    refine wm_lload_n 2 15 (by decide +kernel) rfl rfl ?_
    refine wm_l2i 16 (by decide +kernel) rfl ?_
    refine wm_i2s 17 (by decide +kernel) rfl ?_
    refine wm_i2l 18 (by decide +kernel) rfl ?_
    refine wm_goto 37 (by decide +kernel : decode cX2_put 18 = .ok (.goto 19, 3)) (by decide) ?_
    obtain ⟨o7, H⟩ := H
    replace H := H _ rfl
    refine wm_last 40 38 (by decide +kernel) rfl (S_row ha0).1 (S_row ha0).2 o7 ?_
    exact wm_vret (by decide +kernel) rfl H
def f_X2_hasPart (a0 : Nat) (x1 : Int32) (x2 : Int32) (h : HP) (Q : Int32 → HP → Prop) : Prop :=
  (((x1 < 0) →
    Q 0 h) ∧
   (¬ (x1 < 0) →
    (((x2 < 0) →
      Q 0 h) ∧
     (¬ (x2 < 0) →
      (((0 < (lg_cmp ((x1 : Int32).toInt64 + (x2 : Int32).toInt64) ((gi h a0 2) : Int32).toInt64)) →
        Q 0 h) ∧
       (¬ (0 < (lg_cmp ((x1 : Int32).toInt64 + (x2 : Int32).toInt64) ((gi h a0 2) : Int32).toInt64)) →
        Q 1 h))))))
set_option maxRecDepth 20000 in
theorem l_X2_hasPart (g : GE) (a0 : Nat) (x1 : Int32) (x2 : Int32) (ha0 : kd a0 = 2) (h : HP) (Q : Int32 → HP → Prop) (H : f_X2_hasPart a0 x1 x2 h Q) : Wm g mX2_hasPart 0 [some (.ref a0), some (.int x1), some (.int x2)] [] h (qi Q) := by
  unfold f_X2_hasPart at H
  refine wm_iload_n 1 1 (by decide +kernel) rfl rfl ?_
  refine wm_if_lt 4 26 (by decide +kernel : decode cX2_hasPart 1 = .ok (.ifCond .lt 25, 3)) (by decide) rfl (fun c1 => ?_) (fun c1 => ?_)
  · replace H := H.1 c1
    refine wm_iconst 0 27 (by decide +kernel : decode cX2_hasPart 26 = .ok (.iconst 0, 1)) rfl (by decide +kernel) ?_
    exact wm_iret (by decide +kernel) ⟨.boolean, rfl, (by decide +kernel)⟩ H
  · replace H := H.2 c1
    refine wm_iload_n 2 5 (by decide +kernel) rfl rfl ?_
    refine wm_if_lt 8 26 (by decide +kernel : decode cX2_hasPart 5 = .ok (.ifCond .lt 21, 3)) (by decide) rfl (fun c2 => ?_) (fun c2 => ?_)
    · replace H := H.1 c2
      refine wm_iconst 0 27 (by decide +kernel : decode cX2_hasPart 26 = .ok (.iconst 0, 1)) rfl (by decide +kernel) ?_
      exact wm_iret (by decide +kernel) ⟨.boolean, rfl, (by decide +kernel)⟩ H
    · replace H := H.2 c2
      refine wm_iload_n 1 9 (by decide +kernel) rfl rfl ?_
      refine wm_i2l 10 (by decide +kernel) rfl ?_
      refine wm_iload_n 2 11 (by decide +kernel) rfl rfl ?_
      refine wm_i2l 12 (by decide +kernel) rfl ?_
      refine wm_ladd 13 (by decide +kernel) rfl ?_
      refine wm_aload_n 0 14 (by decide +kernel) rfl rfl ?_
      refine wm_geti 2 2 17 fl_RX2_19 (by decide +kernel) rfl ha0 rfl ?_
      refine wm_i2l 18 (by decide +kernel) rfl ?_
      refine wm_lcmp 19 (by decide +kernel) rfl ?_
      refine wm_if_gt 22 26 (by decide +kernel : decode cX2_hasPart 19 = .ok (.ifCond .gt 7, 3)) (by decide) rfl (fun c3 => ?_) (fun c3 => ?_)
      · replace H := H.1 c3
        refine wm_iconst 0 27 (by decide +kernel : decode cX2_hasPart 26 = .ok (.iconst 0, 1)) rfl (by decide +kernel) ?_
        exact wm_iret (by decide +kernel) ⟨.boolean, rfl, (by decide +kernel)⟩ H
      · replace H := H.2 c3
        refine wm_iconst 1 23 (by decide +kernel : decode cX2_hasPart 22 = .ok (.iconst 1, 1)) rfl (by decide +kernel) ?_
        refine wm_goto 27 (by decide +kernel : decode cX2_hasPart 23 = .ok (.goto 4, 3)) (by decide) ?_
        exact wm_iret (by decide +kernel) ⟨.boolean, rfl, (by decide +kernel)⟩ H
def f_X2_entry (a0 : Nat) (x1 : Int32) (x2 : Int32) (h : HP) (Q : Int32 → HP → Prop) : Prop :=
  ((((gi h a0 2) ≤ x1) →
    Q (x2 + 1) h) ∧
   (¬ ((gi h a0 2) ≤ x1) →
    vp_in x1 40 ∧
    ((((lg_cmp (gl h (a0 + 1) (ix x1)) (0 : Int64)) < 0) →
      Q (x2 + 1) h) ∧
     (¬ ((lg_cmp (gl h (a0 + 1) (ix x1)) (0 : Int64)) < 0) →
      vp_in x1 40 ∧
      ((((lg_cmp (gl h (a0 + 1) (ix x1)) (x2 : Int32).toInt64) ≤ 0) →
        vp_in x1 40 ∧
        Q (((gl h (a0 + 1) (ix x1)) : Int64).toInt32) h) ∧
       (¬ ((lg_cmp (gl h (a0 + 1) (ix x1)) (x2 : Int32).toInt64) ≤ 0) →
        Q (x2 + 1) h))))))
set_option maxRecDepth 20000 in
theorem l_X2_entry (g : GE) (a0 : Nat) (x1 : Int32) (x2 : Int32) (ha0 : kd a0 = 2) (h : HP) (Q : Int32 → HP → Prop) (H : f_X2_entry a0 x1 x2 h Q) : Wm g mX2_entry 0 [some (.ref a0), some (.int x1), some (.int x2)] [] h (qi Q) := by
  unfold f_X2_entry at H
  refine wm_iload_n 1 1 (by decide +kernel) rfl rfl ?_
  refine wm_aload_n 0 2 (by decide +kernel) rfl rfl ?_
  refine wm_geti 2 2 5 fl_RX2_19 (by decide +kernel) rfl ha0 rfl ?_
  refine wm_icmp_ge 8 31 (by decide +kernel : decode cX2_entry 5 = .ok (.if_icmp .ge 26, 3)) (by decide) rfl (fun c1 => ?_) (fun c1 => ?_)
  · replace H := H.1 c1
    refine wm_iload_n 2 32 (by decide +kernel) rfl rfl ?_
    refine wm_iconst 1 33 (by decide +kernel : decode cX2_entry 32 = .ok (.iconst 1, 1)) rfl (by decide +kernel) ?_
    refine wm_iadd 34 (by decide +kernel) rfl ?_
    exact wm_iret (by decide +kernel) ⟨.int, rfl, rfl⟩ H
  · replace H := H.2 c1
    refine wm_aload_n 0 9 (by decide +kernel) rfl rfl ?_
    refine wm_getr 2 0 1 _ 12 fl_RX2_9 (by decide +kernel) rfl ha0 rfl rfl (by decide) ?_
    refine wm_iload_n 1 13 (by decide +kernel) rfl rfl ?_
    obtain ⟨o2, H⟩ := H
    refine wm_lald 40 14 (by decide +kernel) rfl (S_row ha0).1 (S_row ha0).2 o2 ?_
    refine wm_lconst 0 15 (by decide +kernel : decode cX2_entry 14 = .ok (.lconst 0, 1)) rfl (by decide +kernel) ?_
    refine wm_lcmp 16 (by decide +kernel) rfl ?_
    refine wm_if_lt 19 31 (by decide +kernel : decode cX2_entry 16 = .ok (.ifCond .lt 15, 3)) (by decide) rfl (fun c3 => ?_) (fun c3 => ?_)
    · replace H := H.1 c3
      refine wm_iload_n 2 32 (by decide +kernel) rfl rfl ?_
      refine wm_iconst 1 33 (by decide +kernel : decode cX2_entry 32 = .ok (.iconst 1, 1)) rfl (by decide +kernel) ?_
      refine wm_iadd 34 (by decide +kernel) rfl ?_
      exact wm_iret (by decide +kernel) ⟨.int, rfl, rfl⟩ H
    · replace H := H.2 c3
      refine wm_aload_n 0 20 (by decide +kernel) rfl rfl ?_
      refine wm_getr 2 0 1 _ 23 fl_RX2_9 (by decide +kernel) rfl ha0 rfl rfl (by decide) ?_
      refine wm_iload_n 1 24 (by decide +kernel) rfl rfl ?_
      obtain ⟨o4, H⟩ := H
      refine wm_lald 40 25 (by decide +kernel) rfl (S_row ha0).1 (S_row ha0).2 o4 ?_
      refine wm_iload_n 2 26 (by decide +kernel) rfl rfl ?_
      refine wm_i2l 27 (by decide +kernel) rfl ?_
      refine wm_lcmp 28 (by decide +kernel) rfl ?_
      refine wm_if_le 31 35 (by decide +kernel : decode cX2_entry 28 = .ok (.ifCond .le 7, 3)) (by decide) rfl (fun c5 => ?_) (fun c5 => ?_)
      · replace H := H.1 c5
        refine wm_aload_n 0 36 (by decide +kernel) rfl rfl ?_
        refine wm_getr 2 0 1 _ 39 fl_RX2_9 (by decide +kernel) rfl ha0 rfl rfl (by decide) ?_
        refine wm_iload_n 1 40 (by decide +kernel) rfl rfl ?_
        obtain ⟨o6, H⟩ := H
        refine wm_lald 40 41 (by decide +kernel) rfl (S_row ha0).1 (S_row ha0).2 o6 ?_
        refine wm_l2i 42 (by decide +kernel) rfl ?_
        exact wm_iret (by decide +kernel) ⟨.int, rfl, rfl⟩ H
      · replace H := H.2 c5
        refine wm_iload_n 2 32 (by decide +kernel) rfl rfl ?_
        refine wm_iconst 1 33 (by decide +kernel : decode cX2_entry 32 = .ok (.iconst 1, 1)) rfl (by decide +kernel) ?_
        refine wm_iadd 34 (by decide +kernel) rfl ?_
        exact wm_iret (by decide +kernel) ⟨.int, rfl, rfl⟩ H
def f_X3_become (a0 : Nat) (a1 : Nat) (h : HP) (Q : HP → Prop) : Prop :=
  ∀ h1 : HP, h1 = si h a0 0 (gi h a1 0) →
  ∀ h2 : HP, h2 = si h1 a0 1 (gi h1 a1 1) →
  ∀ h3 : HP, h3 = si h2 a0 2 (gi h2 a1 2) →
  Q h3
set_option maxRecDepth 20000 in
theorem l_X3_become (g : GE) (a0 : Nat) (a1 : Nat) (ha0 : kd a0 = 3) (ha1 : kd a1 = 3) (h : HP) (Q : HP → Prop) (H : f_X3_become a0 a1 h Q) : Wm g mX3_become 0 [some (.ref a0), some (.ref a1)] [] h (qv Q) := by
  unfold f_X3_become at H
  refine wm_aload_n 0 1 (by decide +kernel) rfl rfl ?_
  refine wm_aload_n 1 2 (by decide +kernel) rfl rfl ?_
  refine wm_geti 3 0 5 fl_RX3_9 (by decide +kernel) rfl ha1 rfl ?_
  replace H := H _ rfl
  refine wm_puti 3 0 8 fl_RX3_9 (by decide +kernel) rfl ha0 rfl rfl ⟨rfl, rfl⟩ ?_
  refine wm_aload_n 0 9 (by decide +kernel) rfl rfl ?_
  refine wm_aload_n 1 10 (by decide +kernel) rfl rfl ?_
  refine wm_geti 3 1 13 fl_RX3_15 (by decide +kernel) rfl ha1 rfl ?_
  replace H := H _ rfl
  refine wm_puti 3 1 16 fl_RX3_15 (by decide +kernel) rfl ha0 rfl rfl ⟨rfl, rfl⟩ ?_
  refine wm_aload_n 0 17 (by decide +kernel) rfl rfl ?_
  refine wm_aload_n 1 18 (by decide +kernel) rfl rfl ?_
  refine wm_geti 3 2 21 fl_RX3_18 (by decide +kernel) rfl ha1 rfl ?_
  replace H := H _ rfl
  refine wm_puti 3 2 24 fl_RX3_18 (by decide +kernel) rfl ha0 rfl rfl ⟨rfl, rfl⟩ ?_
  exact wm_vret (by decide +kernel) rfl H
def f_X3_greatest (x0 : Int32) (h : HP) (Q : Int32 → HP → Prop) : Prop :=
  (((x0 = 0) →
    Q 3 h) ∧
   (¬ (x0 = 0) →
    (((x0 = 1) →
      Q 999 h) ∧
     (¬ (x0 = 1) →
      Q 99 h))))
set_option maxRecDepth 20000 in
theorem l_X3_greatest (g : GE) (x0 : Int32)  (h : HP) (Q : Int32 → HP → Prop) (H : f_X3_greatest x0 h Q) : Wm g mX3_greatest 0 [some (.int x0)] [] h (qi Q) := by
  unfold f_X3_greatest at H
  refine wm_iload_n 0 1 (by decide +kernel) rfl rfl ?_
  refine em_go H (fun c1 H => ?_) (fun c1 H => ?_)
  · refine wm_look (off := 27) 28 (by decide +kernel : decode cX3_greatest 1 = .ok (.lookupswitch 33 #[(0, 27), (1, 29)], 27)) (by decide +kernel) (by rw [c1]; decide +kernel) (by decide) ?_
    refine wm_iconst 3 29 (by decide +kernel : decode cX3_greatest 28 = .ok (.iconst 3, 1)) rfl (by decide +kernel) ?_
    exact wm_iret (by decide +kernel) ⟨.int, rfl, rfl⟩ H
  · skip
    refine em_go H (fun c2 H => ?_) (fun c2 H => ?_)
    · refine wm_look (off := 29) 30 (by decide +kernel : decode cX3_greatest 1 = .ok (.lookupswitch 33 #[(0, 27), (1, 29)], 27)) (by decide +kernel) (by rw [c2]; decide +kernel) (by decide) ?_
      refine wm_sipush 999 33 (by decide +kernel : decode cX3_greatest 30 = .ok (.sipush 999, 3)) rfl (by decide +kernel) ?_
      exact wm_iret (by decide +kernel) ⟨.int, rfl, rfl⟩ H
    · skip
      refine wm_look (off := 33) 34 (by decide +kernel : decode cX3_greatest 1 = .ok (.lookupswitch 33 #[(0, 27), (1, 29)], 27)) (by decide +kernel) (by rw [lv_osw c1 (by decide +kernel), lv_osw c2 (by decide +kernel)]; rfl) (by decide) ?_
      refine wm_bipush 99 36 (by decide +kernel : decode cX3_greatest 34 = .ok (.bipush 99, 2)) rfl (by decide +kernel) ?_
      exact wm_iret (by decide +kernel) ⟨.int, rfl, rfl⟩ H
def f_X3_replace (a0 : Nat) (x1 : Int32) (x2 : Int32) (h : HP) (Q : Int32 → HP → Prop) : Prop :=
  (((x1 = 0) →
    ∀ x3_2 : Int32, x3_2 = (gi h a0 0) →
    ∀ h3 : HP, h3 = si h a0 0 x2 →
    Q x3_2 h3) ∧
   (¬ (x1 = 0) →
    (((x1 = 1) →
      ∀ x3_5 : Int32, x3_5 = (gi h a0 1) →
      ∀ h6 : HP, h6 = si h a0 1 x2 →
      Q x3_5 h6) ∧
     (¬ (x1 = 1) →
      ∀ x3_7 : Int32, x3_7 = (gi h a0 2) →
      ∀ h8 : HP, h8 = si h a0 2 x2 →
      Q x3_7 h8))))
set_option maxRecDepth 20000 in
theorem l_X3_replace (g : GE) (a0 : Nat) (x1 : Int32) (x2 : Int32) (ha0 : kd a0 = 3) (h : HP) (Q : Int32 → HP → Prop) (H : f_X3_replace a0 x1 x2 h Q) : Wm g mX3_replace 0 [some (.ref a0), some (.int x1), some (.int x2), none] [] h (qi Q) := by
  unfold f_X3_replace at H
  refine wm_iload_n 1 1 (by decide +kernel) rfl rfl ?_
  refine em_go H (fun c1 H => ?_) (fun c1 H => ?_)
  · refine wm_look (off := 27) 28 (by decide +kernel : decode cX3_replace 1 = .ok (.lookupswitch 53 #[(0, 27), (1, 40)], 27)) (by decide +kernel) (by rw [c1]; decide +kernel) (by decide) ?_
    refine wm_aload_n 0 29 (by decide +kernel) rfl rfl ?_
    refine wm_geti 3 0 32 fl_RX3_9 (by decide +kernel) rfl ha0 rfl ?_
    replace H := H _ rfl
    refine wm_istore_n 3 33 [some _, some _, some _, some _] (by decide +kernel) rfl (by decide +kernel) (okS_spec rfl) rfl ?_
    refine wm_aload_n 0 34 (by decide +kernel) rfl rfl ?_
    refine wm_iload_n 2 35 (by decide +kernel) rfl rfl ?_
    replace H := H _ rfl
    refine wm_puti 3 0 38 fl_RX3_9 (by decide +kernel) rfl ha0 rfl rfl ⟨rfl, rfl⟩ ?_
    refine wm_goto 64 (by decide +kernel : decode cX3_replace 38 = .ok (.goto 26, 3)) (by decide) ?_
    refine wm_iload_n 3 65 (by decide +kernel) rfl rfl ?_
    exact wm_iret (by decide +kernel) ⟨.int, rfl, rfl⟩ H
  · skip
    refine em_go H (fun c4 H => ?_) (fun c4 H => ?_)
    · refine wm_look (off := 40) 41 (by decide +kernel : decode cX3_replace 1 = .ok (.lookupswitch 53 #[(0, 27), (1, 40)], 27)) (by decide +kernel) (by rw [c4]; decide +kernel) (by decide) ?_
      refine wm_aload_n 0 42 (by decide +kernel) rfl rfl ?_
      refine wm_geti 3 1 45 fl_RX3_15 (by decide +kernel) rfl ha0 rfl ?_
      replace H := H _ rfl
      refine wm_istore_n 3 46 [some _, some _, some _, some _] (by decide +kernel) rfl (by decide +kernel) (okS_spec rfl) rfl ?_
      refine wm_aload_n 0 47 (by decide +kernel) rfl rfl ?_
      refine wm_iload_n 2 48 (by decide +kernel) rfl rfl ?_
      replace H := H _ rfl
      refine wm_puti 3 1 51 fl_RX3_15 (by decide +kernel) rfl ha0 rfl rfl ⟨rfl, rfl⟩ ?_
      refine wm_goto 64 (by decide +kernel : decode cX3_replace 51 = .ok (.goto 13, 3)) (by decide) ?_
      refine wm_iload_n 3 65 (by decide +kernel) rfl rfl ?_
      exact wm_iret (by decide +kernel) ⟨.int, rfl, rfl⟩ H
    · skip
      refine wm_look (off := 53) 54 (by decide +kernel : decode cX3_replace 1 = .ok (.lookupswitch 53 #[(0, 27), (1, 40)], 27)) (by decide +kernel) (by rw [lv_osw c1 (by decide +kernel), lv_osw c4 (by decide +kernel)]; rfl) (by decide) ?_
      refine wm_aload_n 0 55 (by decide +kernel) rfl rfl ?_
      refine wm_geti 3 2 58 fl_RX3_18 (by decide +kernel) rfl ha0 rfl ?_
      replace H := H _ rfl
      refine wm_istore_n 3 59 [some _, some _, some _, some _] (by decide +kernel) rfl (by decide +kernel) (okS_spec rfl) rfl ?_
      refine wm_aload_n 0 60 (by decide +kernel) rfl rfl ?_
      refine wm_iload_n 2 61 (by decide +kernel) rfl rfl ?_
      replace H := H _ rfl
      refine wm_puti 3 2 64 fl_RX3_18 (by decide +kernel) rfl ha0 rfl rfl ⟨rfl, rfl⟩ ?_
      refine wm_iload_n 3 65 (by decide +kernel) rfl rfl ?_
      exact wm_iret (by decide +kernel) ⟨.int, rfl, rfl⟩ H
def f_X7_isIn (x0 : Int32) (x1 : Int32) (x2 : Int32) (h : HP) (Q : Int32 → HP → Prop) : Prop :=
  (((x0 < x1) →
    Q 0 h) ∧
   (¬ (x0 < x1) →
    (((x2 < x0) →
      Q 0 h) ∧
     (¬ (x2 < x0) →
      Q 1 h))))
set_option maxRecDepth 20000 in
theorem l_X7_isIn (g : GE) (x0 : Int32) (x1 : Int32) (x2 : Int32)  (h : HP) (Q : Int32 → HP → Prop) (H : f_X7_isIn x0 x1 x2 h Q) : Wm g mX7_isIn 0 [some (.int x0), some (.int x1), some (.int x2)] [] h (qi Q) := by
  unfold f_X7_isIn at H
  refine wm_iload_n 0 1 (by decide +kernel) rfl rfl ?_
  refine wm_iload_n 1 2 (by decide +kernel) rfl rfl ?_
  refine wm_icmp_lt 5 14 (by decide +kernel : decode cX7_isIn 2 = .ok (.if_icmp .lt 12, 3)) (by decide) rfl (fun c1 => ?_) (fun c1 => ?_)
  · replace H := H.1 c1
    refine wm_iconst 0 15 (by decide +kernel : decode cX7_isIn 14 = .ok (.iconst 0, 1)) rfl (by decide +kernel) ?_
    exact wm_iret (by decide +kernel) ⟨.boolean, rfl, (by decide +kernel)⟩ H
  · replace H := H.2 c1
    refine wm_iload_n 0 6 (by decide +kernel) rfl rfl ?_
    refine wm_iload_n 2 7 (by decide +kernel) rfl rfl ?_
    refine wm_icmp_gt 10 14 (by decide +kernel : decode cX7_isIn 7 = .ok (.if_icmp .gt 7, 3)) (by decide) rfl (fun c2 => ?_) (fun c2 => ?_)
    · replace H := H.1 c2
      refine wm_iconst 0 15 (by decide +kernel : decode cX7_isIn 14 = .ok (.iconst 0, 1)) rfl (by decide +kernel) ?_
      exact wm_iret (by decide +kernel) ⟨.boolean, rfl, (by decide +kernel)⟩ H
    · replace H := H.2 c2
      refine wm_iconst 1 11 (by decide +kernel : decode cX7_isIn 10 = .ok (.iconst 1, 1)) rfl (by decide +kernel) ?_
      refine wm_goto 15 (by decide +kernel : decode cX7_isIn 11 = .ok (.goto 4, 3)) (by decide) ?_
      exact wm_iret (by decide +kernel) ⟨.boolean, rfl, (by decide +kernel)⟩ H
def f_X6_addStation (a0 : Nat) (x1 : Int32) (x2 : Int32) (h : HP) (Q : Int32 → HP → Prop) : Prop :=
  vp_in (gi h a0 2) 6 ∧
  ∀ h2 : HP, h2 = si h ((a0 + 1) + 2 + ix (gi h a0 2)) 0 x1 →
  ∀ h3 : HP, h3 = si h2 ((a0 + 1) + 2 + ix (gi h a0 2)) 1 x2 →
  ∀ h4 : HP, h4 = si h3 ((a0 + 1) + 2 + ix (gi h a0 2)) 2 20 →
  ∀ h5 : HP, h5 = si h4 a0 2 ((gi h4 a0 2) + 1) →
  Q ((gi h5 a0 2) - 1) h5
set_option maxRecDepth 20000 in
theorem l_X6_addStation (g : GE) (a0 : Nat) (x1 : Int32) (x2 : Int32) (ha0 : kd a0 = 6) (h : HP) (Q : Int32 → HP → Prop) (H : f_X6_addStation a0 x1 x2 h Q) : Wm g mX6_addStation 0 [some (.ref a0), some (.int x1), some (.int x2), none] [] h (qi Q) := by
  unfold f_X6_addStation at H
  refine wm_aload_n 0 1 (by decide +kernel) rfl rfl ?_
  refine wm_getr 6 4 1 _ 4 fl_RX6_11 (by decide +kernel) rfl ha0 rfl rfl (by decide) ?_
  refine wm_aload_n 0 5 (by decide +kernel) rfl rfl ?_
  refine wm_geti 6 2 8 fl_RX6_32 (by decide +kernel) rfl ha0 rfl ?_
  obtain ⟨o1, H⟩ := H
  refine wm_aald 6 _ 9 (by decide +kernel) rfl (Or.inl ⟨(W_st ha0).1, rfl⟩) (W_st ha0).2 o1 ?_
  refine wm_astore_n 3 10 [some _, some _, some _, some _] (by decide +kernel) rfl (by decide +kernel) (okS_spec rfl) rfl ?_
  refine wm_aload_n 3 11 (by decide +kernel) rfl rfl ?_
  refine wm_iload_n 1 12 (by decide +kernel) rfl rfl ?_
  replace H := H _ rfl
  refine wm_puti 3 0 15 fl_RX6_53 (by decide +kernel) rfl (E_st (W_st ha0).1 (vp_in_lt o1)) rfl rfl ⟨rfl, rfl⟩ ?_
  refine wm_aload_n 3 16 (by decide +kernel) rfl rfl ?_
  refine wm_iload_n 2 17 (by decide +kernel) rfl rfl ?_
  replace H := H _ rfl
  refine wm_puti 3 1 20 fl_RX6_56 (by decide +kernel) rfl (E_st (W_st ha0).1 (vp_in_lt o1)) rfl rfl ⟨rfl, rfl⟩ ?_
  refine wm_aload_n 3 21 (by decide +kernel) rfl rfl ?_
  refine wm_bipush 20 23 (by decide +kernel : decode cX6_addStation 21 = .ok (.bipush 20, 2)) rfl (by decide +kernel) ?_
  replace H := H _ rfl
  refine wm_puti 3 2 26 fl_RX6_59 (by decide +kernel) rfl (E_st (W_st ha0).1 (vp_in_lt o1)) rfl rfl ⟨rfl, rfl⟩ ?_
  refine wm_aload_n 0 27 (by decide +kernel) rfl rfl ?_
  refine wm_dup 28 (by decide +kernel) rfl rfl ?_
  refine wm_geti 6 2 31 fl_RX6_32 (by decide +kernel) rfl ha0 rfl ?_
  refine wm_iconst 1 32 (by decide +kernel : decode cX6_addStation 31 = .ok (.iconst 1, 1)) rfl (by decide +kernel) ?_
  refine wm_iadd 33 (by decide +kernel) rfl ?_
  replace H := H _ rfl
  refine wm_puti 6 2 36 fl_RX6_32 (by decide +kernel) rfl ha0 rfl rfl ⟨rfl, rfl⟩ ?_
  refine wm_aload_n 0 37 (by decide +kernel) rfl rfl ?_
  refine wm_geti 6 2 40 fl_RX6_32 (by decide +kernel) rfl ha0 rfl ?_
  refine wm_iconst 1 41 (by decide +kernel : decode cX6_addStation 40 = .ok (.iconst 1, 1)) rfl (by decide +kernel) ?_
  refine wm_isub 42 (by decide +kernel) rfl ?_
  exact wm_iret (by decide +kernel) ⟨.int, rfl, rfl⟩ H
def f_X6_addLine (a0 : Nat) (x1 : Int32) (x2 : Int32) (x3 : Int32) (h : HP) (Q : Int32 → HP → Prop) : Prop :=
  vp_in (gi h a0 3) 10 ∧
  ∀ h2 : HP, h2 = si h ((a0 + 2) + 7 + 2 * ix (gi h a0 3)) 0 x1 →
  ∀ h3 : HP, h3 = si h2 ((a0 + 2) + 7 + 2 * ix (gi h a0 3)) 1 x2 →
  ∀ h4 : HP, h4 = si h3 ((a0 + 2) + 7 + 2 * ix (gi h a0 3)) 2 x3 →
  ∀ h5 : HP, h5 = si h4 ((a0 + 2) + 7 + 2 * ix (gi h a0 3)) 5 0 →
  ∀ h6 : HP, h6 = si h5 ((a0 + 2) + 7 + 2 * ix (gi h a0 3)) 6 0 →
  ∀ h7 : HP, h7 = si h6 ((a0 + 2) + 7 + 2 * ix (gi h a0 3)) 7 99999 →
  ∀ h8 : HP, h8 = si h7 ((a0 + 2) + 7 + 2 * ix (gi h a0 3)) 8 0 →
  f_J7_fill_53178 (((a0 + 2) + 7 + 2 * ix (gi h a0 3)) + 1) 0 h8 (fun h9 =>
  ∀ h10 : HP, h10 = si h9 a0 3 ((gi h9 a0 3) + 1) →
  Q ((gi h10 a0 3) - 1) h10)
set_option maxRecDepth 20000 in
theorem l_X6_addLine (g : GE) (a0 : Nat) (x1 : Int32) (x2 : Int32) (x3 : Int32) (ha0 : kd a0 = 6) (h : HP) (Q : Int32 → HP → Prop) (H : f_X6_addLine a0 x1 x2 x3 h Q) : Wm g mX6_addLine 0 [some (.ref a0), some (.int x1), some (.int x2), some (.int x3), none] [] h (qi Q) := by
  unfold f_X6_addLine at H
  refine wm_aload_n 0 1 (by decide +kernel) rfl rfl ?_
  refine wm_getr 6 5 2 _ 4 fl_RX6_19 (by decide +kernel) rfl ha0 rfl rfl (by decide) ?_
  refine wm_aload_n 0 5 (by decide +kernel) rfl rfl ?_
  refine wm_geti 6 3 8 fl_RX6_35 (by decide +kernel) rfl ha0 rfl ?_
  obtain ⟨o1, H⟩ := H
  refine wm_aald 10 _ 9 (by decide +kernel) rfl (Or.inr (Or.inl ⟨(W_ln ha0).1, rfl⟩)) (W_ln ha0).2 o1 ?_
  refine wm_astore 4 11 [some _, some _, some _, some _, some _] (by decide +kernel) rfl (by decide +kernel) (okS_spec rfl) rfl ?_
  refine wm_aload 4 13 (by decide +kernel) rfl rfl ?_
  refine wm_iload_n 1 14 (by decide +kernel) rfl rfl ?_
  replace H := H _ rfl
  refine wm_puti 0 0 17 fl_RX6_62 (by decide +kernel) rfl (E_ln (W_ln ha0).1 (vp_in_lt o1)) rfl rfl ⟨rfl, rfl⟩ ?_
  refine wm_aload 4 19 (by decide +kernel) rfl rfl ?_
  refine wm_iload_n 2 20 (by decide +kernel) rfl rfl ?_
  replace H := H _ rfl
  refine wm_puti 0 1 23 fl_RX6_63 (by decide +kernel) rfl (E_ln (W_ln ha0).1 (vp_in_lt o1)) rfl rfl ⟨rfl, rfl⟩ ?_
  refine wm_aload 4 25 (by decide +kernel) rfl rfl ?_
  refine wm_iload_n 3 26 (by decide +kernel) rfl rfl ?_
  replace H := H _ rfl
  refine wm_puti 0 2 29 fl_RX6_66 (by decide +kernel) rfl (E_ln (W_ln ha0).1 (vp_in_lt o1)) rfl rfl ⟨rfl, rfl⟩ ?_
  refine wm_aload 4 31 (by decide +kernel) rfl rfl ?_
  refine wm_iconst 0 32 (by decide +kernel : decode cX6_addLine 31 = .ok (.iconst 0, 1)) rfl (by decide +kernel) ?_
  replace H := H _ rfl
  refine wm_puti 0 5 35 fl_RX6_69 (by decide +kernel) rfl (E_ln (W_ln ha0).1 (vp_in_lt o1)) rfl rfl ⟨rfl, rfl⟩ ?_
  refine wm_aload 4 37 (by decide +kernel) rfl rfl ?_
  refine wm_iconst 0 38 (by decide +kernel : decode cX6_addLine 37 = .ok (.iconst 0, 1)) rfl (by decide +kernel) ?_
  replace H := H _ rfl
  refine wm_puti 0 6 41 fl_RX6_72 (by decide +kernel) rfl (E_ln (W_ln ha0).1 (vp_in_lt o1)) rfl rfl ⟨rfl, rfl⟩ ?_
  refine wm_aload 4 43 (by decide +kernel) rfl rfl ?_
  refine wm_ldc 99999 45 co_RX6_75 (by decide +kernel) rfl ?_
  replace H := H _ rfl
  refine wm_puti 0 7 48 fl_RX6_76 (by decide +kernel) rfl (E_ln (W_ln ha0).1 (vp_in_lt o1)) rfl rfl ⟨rfl, rfl⟩ ?_
  refine wm_aload 4 50 (by decide +kernel) rfl rfl ?_
  refine wm_iconst 0 51 (by decide +kernel : decode cX6_addLine 50 = .ok (.iconst 0, 1)) rfl (by decide +kernel) ?_
  replace H := H _ rfl
  refine wm_puti 0 8 54 fl_RX6_79 (by decide +kernel) rfl (E_ln (W_ln ha0).1 (vp_in_lt o1)) rfl rfl ⟨rfl, rfl⟩ ?_
  refine wm_aload 4 56 (by decide +kernel) rfl rfl ?_
  refine wm_getr 0 9 1 _ 59 fl_RX6_82 (by decide +kernel) rfl (E_ln (W_ln ha0).1 (vp_in_lt o1)) rfl rfl (by decide) ?_
  refine wm_iconst 0 60 (by decide +kernel : decode cX6_addLine 59 = .ok (.iconst 0, 1)) rfl (by decide +kernel) ?_
  refine wm_callSv mJ7_fill_53178 2 [_, _] [] _ _ 63 mo_J7_fill_53178 np_J7_fill_53178 ml_RX6_86 sc_J7_fill_53178 (by decide +kernel) (by decide +kernel) rfl rfl rfl (Nat.le_of_ble_eq_true rfl) (Nat.le_of_ble_eq_true rfl) _ (ent_pad 2 rfl) (l_J7_fill_53178 g _ _ (L_way (E_ln (W_ln ha0).1 (vp_in_lt o1))).1 _ _ H) (fun h9 H => ?_)
  refine wm_aload_n 0 64 (by decide +kernel) rfl rfl ?_
  refine wm_dup 65 (by decide +kernel) rfl rfl ?_
  refine wm_geti 6 3 68 fl_RX6_35 (by decide +kernel) rfl ha0 rfl ?_
  refine wm_iconst 1 69 (by decide +kernel : decode cX6_addLine 68 = .ok (.iconst 1, 1)) rfl (by decide +kernel) ?_
  refine wm_iadd 70 (by decide +kernel) rfl ?_
  replace H := H _ rfl
  refine wm_puti 6 3 73 fl_RX6_35 (by decide +kernel) rfl ha0 rfl rfl ⟨rfl, rfl⟩ ?_
  refine wm_aload_n 0 74 (by decide +kernel) rfl rfl ?_
  refine wm_geti 6 3 77 fl_RX6_35 (by decide +kernel) rfl ha0 rfl ?_
  refine wm_iconst 1 78 (by decide +kernel : decode cX6_addLine 77 = .ok (.iconst 1, 1)) rfl (by decide +kernel) ?_
  refine wm_isub 79 (by decide +kernel) rfl ?_
  exact wm_iret (by decide +kernel) ⟨.int, rfl, rfl⟩ H
def f_X6_become_L34 (a0 : Nat) (a1 : Nat) (k63 : HP → Prop) (Q : HP → Prop) : Nat → Int32 → HP → Prop
  | 0, _, _ => False
  | n + 1, x2, h =>
    ((((gi h a0 2) ≤ x2) →
      k63 h) ∧
     (¬ ((gi h a0 2) ≤ x2) →
      vp_in x2 6 ∧
      vp_in x2 6 ∧
      f_X3_become ((a0 + 1) + 2 + ix x2) ((a1 + 1) + 2 + ix x2) h (fun h8 =>
      ∀ x2_9 : Int32, x2_9 = (x2 + 1) →
      f_X6_become_L34 a0 a1 k63 Q n x2_9 h8)))
def f_X6_become_L65 (a0 : Nat) (a1 : Nat)  (Q : HP → Prop) : Nat → Int32 → HP → Prop
  | 0, _, _ => False
  | n + 1, x2, h =>
    ((((gi h a0 3) ≤ x2) →
      Q h) ∧
     (¬ ((gi h a0 3) ≤ x2) →
      vp_in x2 10 ∧
      vp_in x2 10 ∧
      f_X0_become ((a0 + 2) + 7 + 2 * ix x2) ((a1 + 2) + 7 + 2 * ix x2) h (fun h14 =>
      ∀ x2_15 : Int32, x2_15 = (x2 + 1) →
      f_X6_become_L65 a0 a1 Q n x2_15 h14)))
def f_X6_become (a0 : Nat) (a1 : Nat) (h : HP) (Q : HP → Prop) : Prop :=
  ∀ h1 : HP, h1 = si h a0 0 (gi h a1 0) →
  ∀ h2 : HP, h2 = si h1 a0 1 (gi h1 a1 1) →
  ∀ h3 : HP, h3 = si h2 a0 2 (gi h2 a1 2) →
  ∀ h4 : HP, h4 = si h3 a0 3 (gi h3 a1 3) →
  ∃ n17, f_X6_become_L34 a0 a1
    (fun h10 =>
      ∃ n16, f_X6_become_L65 a0 a1
        Q n16 0 h10)
    Q n17 0 h4
set_option maxRecDepth 20000 in
theorem l_X6_become_L34 (g : GE) (a0 : Nat) (a1 : Nat) (ha0 : kd a0 = 6) (ha1 : kd a1 = 6) (k63 : HP → Prop) (Q : HP → Prop) (hk63 : ∀  (h : HP), k63  h → Wm g mX6_become 63 [some (.ref a0), some (.ref a1), none] [] h (qv Q)) : ∀ (n : Nat) (x2 : Int32) (h : HP), f_X6_become_L34 a0 a1 k63 Q n x2 h → Wm g mX6_become 34 [some (.ref a0), some (.ref a1), some (.int x2)] [] h (qv Q) := by
  intro n
  induction n with
  | zero => intro x2 h H; exact H.elim
  | succ n ih =>
    intro x2 h H
    unfold f_X6_become_L34 at H
    refine wm_iload_n 2 35 (by decide +kernel) rfl rfl ?_
    refine wm_aload_n 0 36 (by decide +kernel) rfl rfl ?_
    refine wm_geti 6 2 39 fl_RX6_32 (by decide +kernel) rfl ha0 rfl ?_
    refine wm_icmp_ge 42 63 (by decide +kernel : decode cX6_become 39 = .ok (.if_icmp .ge 24, 3)) (by decide) rfl (fun c5 => ?_) (fun c5 => ?_)
    · replace H := H.1 c5
      refine wm_mask [true, true, false] [some _, some _, none] rfl ?_
      exact hk63 _ H
    · replace H := H.2 c5
      refine wm_aload_n 0 43 (by decide +kernel) rfl rfl ?_
      refine wm_getr 6 4 1 _ 46 fl_RX6_11 (by decide +kernel) rfl ha0 rfl rfl (by decide) ?_
      refine wm_iload_n 2 47 (by decide +kernel) rfl rfl ?_
      obtain ⟨o6, H⟩ := H
      refine wm_aald 6 _ 48 (by decide +kernel) rfl (Or.inl ⟨(W_st ha0).1, rfl⟩) (W_st ha0).2 o6 ?_
      refine wm_aload_n 1 49 (by decide +kernel) rfl rfl ?_
      refine wm_getr 6 4 1 _ 52 fl_RX6_11 (by decide +kernel) rfl ha1 rfl rfl (by decide) ?_
      refine wm_iload_n 2 53 (by decide +kernel) rfl rfl ?_
      obtain ⟨o7, H⟩ := H
      refine wm_aald 6 _ 54 (by decide +kernel) rfl (Or.inl ⟨(W_st ha1).1, rfl⟩) (W_st ha1).2 o7 ?_
      refine wm_callVv mX3_become 1 3 [_] [] _ _ 57 mo_X3_become np_X3_become ml_RX6_38 im_X3_become se_X3_become (by decide +kernel) (by decide +kernel) rfl rfl rfl (Nat.le_of_ble_eq_true rfl) (E_st (W_st ha0).1 (vp_in_lt o6)) rfl (Nat.le_of_ble_eq_true rfl) _ (ent_pad 0 rfl) (l_X3_become g _ _ (E_st (W_st ha0).1 (vp_in_lt o6)) (E_st (W_st ha1).1 (vp_in_lt o7)) _ _ H) (fun h8 H => ?_)
      replace H := H _ rfl
      refine wm_iinc 2 (_ + 1) 60 [some _, some _, some _] (by decide +kernel : decode cX6_become 57 = .ok (.iinc 2 1, 3)) rfl (by decide +kernel) rfl (ofI_eq (by decide +kernel)) (okS_spec rfl) rfl ?_
      refine wm_goto 34 (by decide +kernel : decode cX6_become 60 = .ok (.goto (-26), 3)) (by decide) ?_
      exact ih _ _ H
set_option maxRecDepth 20000 in
theorem l_X6_become_L65 (g : GE) (a0 : Nat) (a1 : Nat) (ha0 : kd a0 = 6) (ha1 : kd a1 = 6)  (Q : HP → Prop)  : ∀ (n : Nat) (x2 : Int32) (h : HP), f_X6_become_L65 a0 a1 Q n x2 h → Wm g mX6_become 65 [some (.ref a0), some (.ref a1), some (.int x2)] [] h (qv Q) := by
  intro n
  induction n with
  | zero => intro x2 h H; exact H.elim
  | succ n ih =>
    intro x2 h H
    unfold f_X6_become_L65 at H
    refine wm_iload_n 2 66 (by decide +kernel) rfl rfl ?_
    refine wm_aload_n 0 67 (by decide +kernel) rfl rfl ?_
    refine wm_geti 6 3 70 fl_RX6_35 (by decide +kernel) rfl ha0 rfl ?_
    refine wm_icmp_ge 73 94 (by decide +kernel : decode cX6_become 70 = .ok (.if_icmp .ge 24, 3)) (by decide) rfl (fun c11 => ?_) (fun c11 => ?_)
    · replace H := H.1 c11
      exact wm_vret (by decide +kernel) rfl H
    · replace H := H.2 c11
      refine wm_aload_n 0 74 (by decide +kernel) rfl rfl ?_
      refine wm_getr 6 5 2 _ 77 fl_RX6_19 (by decide +kernel) rfl ha0 rfl rfl (by decide) ?_
      refine wm_iload_n 2 78 (by decide +kernel) rfl rfl ?_
      obtain ⟨o12, H⟩ := H
      refine wm_aald 10 _ 79 (by decide +kernel) rfl (Or.inr (Or.inl ⟨(W_ln ha0).1, rfl⟩)) (W_ln ha0).2 o12 ?_
      refine wm_aload_n 1 80 (by decide +kernel) rfl rfl ?_
      refine wm_getr 6 5 2 _ 83 fl_RX6_19 (by decide +kernel) rfl ha1 rfl rfl (by decide) ?_
      refine wm_iload_n 2 84 (by decide +kernel) rfl rfl ?_
      obtain ⟨o13, H⟩ := H
      refine wm_aald 10 _ 85 (by decide +kernel) rfl (Or.inr (Or.inl ⟨(W_ln ha1).1, rfl⟩)) (W_ln ha1).2 o13 ?_
      refine wm_callVv mX0_become 1 0 [_] [] _ _ 88 mo_X0_become np_X0_become ml_RX6_42 im_X0_become se_X0_become (by decide +kernel) (by decide +kernel) rfl rfl rfl (Nat.le_of_ble_eq_true rfl) (E_ln (W_ln ha0).1 (vp_in_lt o12)) rfl (Nat.le_of_ble_eq_true rfl) _ (ent_pad 0 rfl) (l_X0_become g _ _ (E_ln (W_ln ha0).1 (vp_in_lt o12)) (E_ln (W_ln ha1).1 (vp_in_lt o13)) _ _ H) (fun h14 H => ?_)
      replace H := H _ rfl
      refine wm_iinc 2 (_ + 1) 91 [some _, some _, some _] (by decide +kernel : decode cX6_become 88 = .ok (.iinc 2 1, 3)) rfl (by decide +kernel) rfl (ofI_eq (by decide +kernel)) (okS_spec rfl) rfl ?_
      refine wm_goto 65 (by decide +kernel : decode cX6_become 91 = .ok (.goto (-26), 3)) (by decide) ?_
      exact ih _ _ H
set_option maxRecDepth 20000 in
theorem l_X6_become (g : GE) (a0 : Nat) (a1 : Nat) (ha0 : kd a0 = 6) (ha1 : kd a1 = 6) (h : HP) (Q : HP → Prop) (H : f_X6_become a0 a1 h Q) : Wm g mX6_become 0 [some (.ref a0), some (.ref a1), none] [] h (qv Q) := by
  unfold f_X6_become at H
  refine wm_aload_n 0 1 (by decide +kernel) rfl rfl ?_
  refine wm_aload_n 1 2 (by decide +kernel) rfl rfl ?_
  refine wm_geti 6 0 5 fl_RX6_25 (by decide +kernel) rfl ha1 rfl ?_
  replace H := H _ rfl
  refine wm_puti 6 0 8 fl_RX6_25 (by decide +kernel) rfl ha0 rfl rfl ⟨rfl, rfl⟩ ?_
  refine wm_aload_n 0 9 (by decide +kernel) rfl rfl ?_
  refine wm_aload_n 1 10 (by decide +kernel) rfl rfl ?_
  refine wm_geti 6 1 13 fl_RX6_29 (by decide +kernel) rfl ha1 rfl ?_
  replace H := H _ rfl
  refine wm_puti 6 1 16 fl_RX6_29 (by decide +kernel) rfl ha0 rfl rfl ⟨rfl, rfl⟩ ?_
  refine wm_aload_n 0 17 (by decide +kernel) rfl rfl ?_
  refine wm_aload_n 1 18 (by decide +kernel) rfl rfl ?_
  refine wm_geti 6 2 21 fl_RX6_32 (by decide +kernel) rfl ha1 rfl ?_
  replace H := H _ rfl
  refine wm_puti 6 2 24 fl_RX6_32 (by decide +kernel) rfl ha0 rfl rfl ⟨rfl, rfl⟩ ?_
  refine wm_aload_n 0 25 (by decide +kernel) rfl rfl ?_
  refine wm_aload_n 1 26 (by decide +kernel) rfl rfl ?_
  refine wm_geti 6 3 29 fl_RX6_35 (by decide +kernel) rfl ha1 rfl ?_
  replace H := H _ rfl
  refine wm_puti 6 3 32 fl_RX6_35 (by decide +kernel) rfl ha0 rfl rfl ⟨rfl, rfl⟩ ?_
  refine wm_iconst 0 33 (by decide +kernel : decode cX6_become 32 = .ok (.iconst 0, 1)) rfl (by decide +kernel) ?_
  refine wm_istore_n 2 34 [some _, some _, some _] (by decide +kernel) rfl (by decide +kernel) (okS_spec rfl) rfl ?_
  obtain ⟨n17, H⟩ := H
  refine l_X6_become_L34 g _ _ ha0 ha1 _ _ (fun h10 H => ?_) _ _ _ H
  · skip
    refine wm_iconst 0 64 (by decide +kernel : decode cX6_become 63 = .ok (.iconst 0, 1)) rfl (by decide +kernel) ?_
    refine wm_istore_n 2 65 [some _, some _, some _] (by decide +kernel) rfl (by decide +kernel) (okS_spec rfl) rfl ?_
    obtain ⟨n16, H⟩ := H
    refine l_X6_become_L65 g _ _ ha0 ha1 _  _ _ _ H
def f_X6_hasStation (a0 : Nat) (x1 : Int32) (h : HP) (Q : Int32 → HP → Prop) : Prop :=
  f_X7_isIn x1 0 ((gi h a0 2) - 1) h (fun v2 h1 =>
  Q v2 h1)
set_option maxRecDepth 20000 in
theorem l_X6_hasStation (g : GE) (a0 : Nat) (x1 : Int32) (ha0 : kd a0 = 6) (h : HP) (Q : Int32 → HP → Prop) (H : f_X6_hasStation a0 x1 h Q) : Wm g mX6_hasStation 0 [some (.ref a0), some (.int x1)] [] h (qi Q) := by
  unfold f_X6_hasStation at H
  refine wm_iload_n 1 1 (by decide +kernel) rfl rfl ?_
  refine wm_iconst 0 2 (by decide +kernel : decode cX6_hasStation 1 = .ok (.iconst 0, 1)) rfl (by decide +kernel) ?_
  refine wm_aload_n 0 3 (by decide +kernel) rfl rfl ?_
  refine wm_geti 6 2 6 fl_RX6_32 (by decide +kernel) rfl ha0 rfl ?_
  refine wm_iconst 1 7 (by decide +kernel : decode cX6_hasStation 6 = .ok (.iconst 1, 1)) rfl (by decide +kernel) ?_
  refine wm_isub 8 (by decide +kernel) rfl ?_
  refine wm_callNi mX7_isIn 45 3 [_, _, _] [] _ _ 11 mo_X7_isIn np_X7_isIn rfl (by decide +kernel) sc_X7_isIn (by decide +kernel) (by decide +kernel) rfl rfl rfl (Nat.le_of_ble_eq_true rfl) (Nat.le_of_ble_eq_true rfl) _ (ent_pad 0 rfl) (l_X7_isIn g _ _ _ _ _ H) (fun v2 h1 H hzv2 => ?_)
  exact wm_iret (by decide +kernel) ⟨.boolean, rfl, (rv_bool hzv2 rfl)⟩ H
def f_X6_hasLine (a0 : Nat) (x1 : Int32) (h : HP) (Q : Int32 → HP → Prop) : Prop :=
  f_X7_isIn x1 0 ((gi h a0 3) - 1) h (fun v2 h1 =>
  Q v2 h1)
set_option maxRecDepth 20000 in
theorem l_X6_hasLine (g : GE) (a0 : Nat) (x1 : Int32) (ha0 : kd a0 = 6) (h : HP) (Q : Int32 → HP → Prop) (H : f_X6_hasLine a0 x1 h Q) : Wm g mX6_hasLine 0 [some (.ref a0), some (.int x1)] [] h (qi Q) := by
  unfold f_X6_hasLine at H
  refine wm_iload_n 1 1 (by decide +kernel) rfl rfl ?_
  refine wm_iconst 0 2 (by decide +kernel : decode cX6_hasLine 1 = .ok (.iconst 0, 1)) rfl (by decide +kernel) ?_
  refine wm_aload_n 0 3 (by decide +kernel) rfl rfl ?_
  refine wm_geti 6 3 6 fl_RX6_35 (by decide +kernel) rfl ha0 rfl ?_
  refine wm_iconst 1 7 (by decide +kernel : decode cX6_hasLine 6 = .ok (.iconst 1, 1)) rfl (by decide +kernel) ?_
  refine wm_isub 8 (by decide +kernel) rfl ?_
  refine wm_callNi mX7_isIn 45 3 [_, _, _] [] _ _ 11 mo_X7_isIn np_X7_isIn rfl (by decide +kernel) sc_X7_isIn (by decide +kernel) (by decide +kernel) rfl rfl rfl (Nat.le_of_ble_eq_true rfl) (Nat.le_of_ble_eq_true rfl) _ (ent_pad 0 rfl) (l_X7_isIn g _ _ _ _ _ H) (fun v2 h1 H hzv2 => ?_)
  exact wm_iret (by decide +kernel) ⟨.boolean, rfl, (rv_bool hzv2 rfl)⟩ H
def f_X6_areTwo (a0 : Nat) (x1 : Int32) (x2 : Int32) (h : HP) (Q : Int32 → HP → Prop) : Prop :=
  f_X6_hasStation a0 x1 h (fun v2 h1 =>
  (((v2 = 0) →
    Q 0 h1) ∧
   (¬ (v2 = 0) →
    f_X6_hasStation a0 x2 h1 (fun v5 h4 =>
    (((v5 = 0) →
      Q 0 h4) ∧
     (¬ (v5 = 0) →
      (((x1 = x2) →
        Q 0 h4) ∧
       (¬ (x1 = x2) →
        Q 1 h4))))))))
set_option maxRecDepth 20000 in
theorem l_X6_areTwo (g : GE) (a0 : Nat) (x1 : Int32) (x2 : Int32) (ha0 : kd a0 = 6) (h : HP) (Q : Int32 → HP → Prop) (H : f_X6_areTwo a0 x1 x2 h Q) : Wm g mX6_areTwo 0 [some (.ref a0), some (.int x1), some (.int x2)] [] h (qi Q) := by
  unfold f_X6_areTwo at H
  refine wm_aload_n 0 1 (by decide +kernel) rfl rfl ?_
  refine wm_iload_n 1 2 (by decide +kernel) rfl rfl ?_
  refine wm_callVi mX6_hasStation 1 6 [_] [] _ _ 5 mo_X6_hasStation np_X6_hasStation ml_RX6_49 im_X6_hasStation se_X6_hasStation (by decide +kernel) (by decide +kernel) rfl rfl rfl (Nat.le_of_ble_eq_true rfl) ha0 rfl (Nat.le_of_ble_eq_true rfl) _ (ent_pad 0 rfl) (l_X6_hasStation g _ _ ha0 _ _ H) (fun v2 h1 H hzv2 => ?_)
  refine wm_if_eq 8 25 (by decide +kernel : decode cX6_areTwo 5 = .ok (.ifCond .eq 20, 3)) (by decide) rfl (fun c3 => ?_) (fun c3 => ?_)
  · replace H := H.1 c3
    refine wm_iconst 0 26 (by decide +kernel : decode cX6_areTwo 25 = .ok (.iconst 0, 1)) rfl (by decide +kernel) ?_
    exact wm_iret (by decide +kernel) ⟨.boolean, rfl, (by decide +kernel)⟩ H
  · replace H := H.2 c3
    refine wm_aload_n 0 9 (by decide +kernel) rfl rfl ?_
    refine wm_iload_n 2 10 (by decide +kernel) rfl rfl ?_
    refine wm_callVi mX6_hasStation 1 6 [_] [] _ _ 13 mo_X6_hasStation np_X6_hasStation ml_RX6_49 im_X6_hasStation se_X6_hasStation (by decide +kernel) (by decide +kernel) rfl rfl rfl (Nat.le_of_ble_eq_true rfl) ha0 rfl (Nat.le_of_ble_eq_true rfl) _ (ent_pad 0 rfl) (l_X6_hasStation g _ _ ha0 _ _ H) (fun v5 h4 H hzv5 => ?_)
    refine wm_if_eq 16 25 (by decide +kernel : decode cX6_areTwo 13 = .ok (.ifCond .eq 12, 3)) (by decide) rfl (fun c6 => ?_) (fun c6 => ?_)
    · replace H := H.1 c6
      refine wm_iconst 0 26 (by decide +kernel : decode cX6_areTwo 25 = .ok (.iconst 0, 1)) rfl (by decide +kernel) ?_
      exact wm_iret (by decide +kernel) ⟨.boolean, rfl, (by decide +kernel)⟩ H
    · replace H := H.2 c6
      refine wm_iload_n 1 17 (by decide +kernel) rfl rfl ?_
      refine wm_iload_n 2 18 (by decide +kernel) rfl rfl ?_
      refine wm_icmp_eq 21 25 (by decide +kernel : decode cX6_areTwo 18 = .ok (.if_icmp .eq 7, 3)) (by decide) rfl (fun c7 => ?_) (fun c7 => ?_)
      · replace H := H.1 c7
        refine wm_iconst 0 26 (by decide +kernel : decode cX6_areTwo 25 = .ok (.iconst 0, 1)) rfl (by decide +kernel) ?_
        exact wm_iret (by decide +kernel) ⟨.boolean, rfl, (by decide +kernel)⟩ H
      · replace H := H.2 c7
        refine wm_iconst 1 22 (by decide +kernel : decode cX6_areTwo 21 = .ok (.iconst 1, 1)) rfl (by decide +kernel) ?_
        refine wm_goto 26 (by decide +kernel : decode cX6_areTwo 22 = .ok (.goto 4, 3)) (by decide) ?_
        exact wm_iret (by decide +kernel) ⟨.boolean, rfl, (by decide +kernel)⟩ H
def f_X6_dispatch (a0 : Nat) (x1 : Int64) (x3 : Int64) (h : HP) (Q : Int32 → HP → Prop) : Prop :=
  ((((lg_cmp x1 (0 : Int64)) < 0) →
    Q 0 h) ∧
   (¬ ((lg_cmp x1 (0 : Int64)) < 0) →
    (((0 ≤ (lg_cmp x1 ((gi h a0 3) : Int32).toInt64)) →
      Q 0 h) ∧
     (¬ (0 ≤ (lg_cmp x1 ((gi h a0 3) : Int32).toInt64)) →
      (((0 ≤ (lg_cmp x3 (0 : Int64))) →
        vp_in ((x1 : Int64).toInt32) 10 ∧
        vp_in (gi h ((a0 + 2) + 7 + 2 * ix ((x1 : Int64).toInt32)) 1) 6 ∧
        (((0 < (lg_cmp x3 ((gi h ((a0 + 1) + 2 + ix (gi h ((a0 + 2) + 7 + 2 * ix ((x1 : Int64).toInt32)) 1)) 1) : Int32).toInt64)) →
          Q 0 h) ∧
         (¬ (0 < (lg_cmp x3 ((gi h ((a0 + 1) + 2 + ix (gi h ((a0 + 2) + 7 + 2 * ix ((x1 : Int64).toInt32)) 1)) 1) : Int32).toInt64)) →
          f_X0_room ((a0 + 2) + 7 + 2 * ix ((x1 : Int64).toInt32)) (gi h a0 0) h (fun v8 h7 =>
          ((((lg_cmp (((gi h ((a0 + 2) + 7 + 2 * ix ((x1 : Int64).toInt32)) 8) : Int32).toInt64 + x3) (v8 : Int32).toInt64) ≤ 0) →
            ∀ h10 : HP, h10 = si h7 ((a0 + 1) + 2 + ix (gi h ((a0 + 2) + 7 + 2 * ix ((x1 : Int64).toInt32)) 1)) 1 ((gi h7 ((a0 + 1) + 2 + ix (gi h ((a0 + 2) + 7 + 2 * ix ((x1 : Int64).toInt32)) 1)) 1) - (x3 : Int64).toInt32) →
            ∀ h11 : HP, h11 = si h10 ((a0 + 2) + 7 + 2 * ix ((x1 : Int64).toInt32)) 8 ((gi h10 ((a0 + 2) + 7 + 2 * ix ((x1 : Int64).toInt32)) 8) + (x3 : Int64).toInt32) →
            f_X0_takes ((a0 + 2) + 7 + 2 * ix ((x1 : Int64).toInt32)) h11 (fun v13 h12 =>
            vp_in (((gi h11 a0 0) + v13) - ((gi h11 a0 0) + v13) / 16 * 16) 16 ∧
            vp_in (((gi h11 a0 0) + v13) - ((gi h11 a0 0) + v13) / 16 * 16) 16 ∧
            ∀ h16 : HP, h16 = si h12 (((a0 + 2) + 7 + 2 * ix ((x1 : Int64).toInt32)) + 1) (ix (((gi h11 a0 0) + v13) - ((gi h11 a0 0) + v13) / 16 * 16)) ((gi h12 (((a0 + 2) + 7 + 2 * ix ((x1 : Int64).toInt32)) + 1) (ix (((gi h11 a0 0) + v13) - ((gi h11 a0 0) + v13) / 16 * 16))) + (x3 : Int64).toInt32) →
            Q 1 h16)) ∧
           (¬ ((lg_cmp (((gi h ((a0 + 2) + 7 + 2 * ix ((x1 : Int64).toInt32)) 8) : Int32).toInt64 + x3) (v8 : Int32).toInt64) ≤ 0) →
            Q 0 h7)))))) ∧
       (¬ (0 ≤ (lg_cmp x3 (0 : Int64))) →
        Q 0 h))))))
set_option maxRecDepth 20000 in
theorem l_X6_dispatch (g : GE) (a0 : Nat) (x1 : Int64) (x3 : Int64) (ha0 : kd a0 = 6) (h : HP) (Q : Int32 → HP → Prop) (H : f_X6_dispatch a0 x1 x3 h Q) : Wm g mX6_dispatch 0 [some (.ref a0), some (.long x1), none, some (.long x3), none, none, none] [] h (qi Q) := by
  unfold f_X6_dispatch at H
  refine wm_lload_n 1 1 (by decide +kernel) rfl rfl ?_
  refine wm_lconst 0 2 (by decide +kernel : decode cX6_dispatch 1 = .ok (.lconst 0, 1)) rfl (by decide +kernel) ?_
  refine wm_lcmp 3 (by decide +kernel) rfl ?_
  refine wm_if_lt 6 22 (by decide +kernel : decode cX6_dispatch 3 = .ok (.ifCond .lt 19, 3)) (by decide) rfl (fun c1 => ?_) (fun c1 => ?_)
  · replace H := H.1 c1
    refine wm_iconst 0 23 (by decide +kernel : decode cX6_dispatch 22 = .ok (.iconst 0, 1)) rfl (by decide +kernel) ?_
    exact wm_iret (by decide +kernel) ⟨.boolean, rfl, (by decide +kernel)⟩ H
  · replace H := H.2 c1
    refine wm_lload_n 1 7 (by decide +kernel) rfl rfl ?_
    refine wm_aload_n 0 8 (by decide +kernel) rfl rfl ?_
    refine wm_geti 6 3 11 fl_RX6_35 (by decide +kernel) rfl ha0 rfl ?_
    refine wm_i2l 12 (by decide +kernel) rfl ?_
    refine wm_lcmp 13 (by decide +kernel) rfl ?_
    refine wm_if_ge 16 22 (by decide +kernel : decode cX6_dispatch 13 = .ok (.ifCond .ge 9, 3)) (by decide) rfl (fun c2 => ?_) (fun c2 => ?_)
    · replace H := H.1 c2
      refine wm_iconst 0 23 (by decide +kernel : decode cX6_dispatch 22 = .ok (.iconst 0, 1)) rfl (by decide +kernel) ?_
      exact wm_iret (by decide +kernel) ⟨.boolean, rfl, (by decide +kernel)⟩ H
    · replace H := H.2 c2
      refine wm_lload_n 3 17 (by decide +kernel) rfl rfl ?_
      refine wm_lconst 0 18 (by decide +kernel : decode cX6_dispatch 17 = .ok (.lconst 0, 1)) rfl (by decide +kernel) ?_
      refine wm_lcmp 19 (by decide +kernel) rfl ?_
      refine wm_if_ge 22 24 (by decide +kernel : decode cX6_dispatch 19 = .ok (.ifCond .ge 5, 3)) (by decide) rfl (fun c3 => ?_) (fun c3 => ?_)
      · replace H := H.1 c3
        refine wm_aload_n 0 25 (by decide +kernel) rfl rfl ?_
        refine wm_getr 6 5 2 _ 28 fl_RX6_19 (by decide +kernel) rfl ha0 rfl rfl (by decide) ?_
        refine wm_lload_n 1 29 (by decide +kernel) rfl rfl ?_
        refine wm_l2i 30 (by decide +kernel) rfl ?_
        obtain ⟨o4, H⟩ := H
        refine wm_aald 10 _ 31 (by decide +kernel) rfl (Or.inr (Or.inl ⟨(W_ln ha0).1, rfl⟩)) (W_ln ha0).2 o4 ?_
        refine wm_astore 5 33 [some _, some _, none, some _, none, some _, none] (by decide +kernel) rfl (by decide +kernel) (okS_spec rfl) rfl ?_
        refine wm_aload_n 0 34 (by decide +kernel) rfl rfl ?_
        refine wm_getr 6 4 1 _ 37 fl_RX6_11 (by decide +kernel) rfl ha0 rfl rfl (by decide) ?_
        refine wm_aload 5 39 (by decide +kernel) rfl rfl ?_
        refine wm_geti 0 1 42 fl_RX6_63 (by decide +kernel) rfl (E_ln (W_ln ha0).1 (vp_in_lt o4)) rfl ?_
        obtain ⟨o5, H⟩ := H
        refine wm_aald 6 _ 43 (by decide +kernel) rfl (Or.inl ⟨(W_st ha0).1, rfl⟩) (W_st ha0).2 o5 ?_
        refine wm_astore 6 45 [some _, some _, none, some _, none, some _, some _] (by decide +kernel) rfl (by decide +kernel) (okS_spec rfl) rfl ?_
        refine wm_lload_n 3 46 (by decide +kernel) rfl rfl ?_
        refine wm_aload 6 48 (by decide +kernel) rfl rfl ?_
        refine wm_geti 3 1 51 fl_RX6_56 (by decide +kernel) rfl (E_st (W_st ha0).1 (vp_in_lt o5)) rfl ?_
        refine wm_i2l 52 (by decide +kernel) rfl ?_
        refine wm_lcmp 53 (by decide +kernel) rfl ?_
        refine wm_if_gt 56 78 (by decide +kernel : decode cX6_dispatch 53 = .ok (.ifCond .gt 25, 3)) (by decide) rfl (fun c6 => ?_) (fun c6 => ?_)
        · replace H := H.1 c6
          refine wm_iconst 0 79 (by decide +kernel : decode cX6_dispatch 78 = .ok (.iconst 0, 1)) rfl (by decide +kernel) ?_
          exact wm_iret (by decide +kernel) ⟨.boolean, rfl, (by decide +kernel)⟩ H
        · replace H := H.2 c6
          refine wm_aload 5 58 (by decide +kernel) rfl rfl ?_
          refine wm_geti 0 8 61 fl_RX6_79 (by decide +kernel) rfl (E_ln (W_ln ha0).1 (vp_in_lt o4)) rfl ?_
          refine wm_i2l 62 (by decide +kernel) rfl ?_
          refine wm_lload_n 3 63 (by decide +kernel) rfl rfl ?_
          refine wm_ladd 64 (by decide +kernel) rfl ?_
          refine wm_aload 5 66 (by decide +kernel) rfl rfl ?_
          refine wm_aload_n 0 67 (by decide +kernel) rfl rfl ?_
          refine wm_geti 6 0 70 fl_RX6_25 (by decide +kernel) rfl ha0 rfl ?_
          refine wm_callVi mX0_room 1 0 [_] [_] _ _ 73 mo_X0_room np_X0_room ml_RX6_92 im_X0_room se_X0_room (by decide +kernel) (by decide +kernel) rfl rfl rfl (Nat.le_of_ble_eq_true rfl) (E_ln (W_ln ha0).1 (vp_in_lt o4)) rfl (Nat.le_of_ble_eq_true rfl) _ (ent_pad 3 rfl) (l_X0_room g _ _ (E_ln (W_ln ha0).1 (vp_in_lt o4)) _ _ H) (fun v8 h7 H hzv8 => ?_)
          refine wm_i2l 74 (by decide +kernel) rfl ?_
          refine wm_lcmp 75 (by decide +kernel) rfl ?_
          refine wm_if_le 78 80 (by decide +kernel : decode cX6_dispatch 75 = .ok (.ifCond .le 5, 3)) (by decide) rfl (fun c9 => ?_) (fun c9 => ?_)
          · replace H := H.1 c9
            refine wm_aload 6 82 (by decide +kernel) rfl rfl ?_
            refine wm_dup 83 (by decide +kernel) rfl rfl ?_
            refine wm_geti 3 1 86 fl_RX6_56 (by decide +kernel) rfl (E_st (W_st ha0).1 (vp_in_lt o5)) rfl ?_
            refine wm_lload_n 3 87 (by decide +kernel) rfl rfl ?_
            refine wm_l2i 88 (by decide +kernel) rfl ?_
            refine wm_isub 89 (by decide +kernel) rfl ?_
            replace H := H _ rfl
            refine wm_puti 3 1 92 fl_RX6_56 (by decide +kernel) rfl (E_st (W_st ha0).1 (vp_in_lt o5)) rfl rfl ⟨rfl, rfl⟩ ?_
            refine wm_aload 5 94 (by decide +kernel) rfl rfl ?_
            refine wm_dup 95 (by decide +kernel) rfl rfl ?_
            refine wm_geti 0 8 98 fl_RX6_79 (by decide +kernel) rfl (E_ln (W_ln ha0).1 (vp_in_lt o4)) rfl ?_
            refine wm_lload_n 3 99 (by decide +kernel) rfl rfl ?_
            refine wm_l2i 100 (by decide +kernel) rfl ?_
            refine wm_iadd 101 (by decide +kernel) rfl ?_
            replace H := H _ rfl
            refine wm_puti 0 8 104 fl_RX6_79 (by decide +kernel) rfl (E_ln (W_ln ha0).1 (vp_in_lt o4)) rfl rfl ⟨rfl, rfl⟩ ?_
            refine wm_aload 5 106 (by decide +kernel) rfl rfl ?_
            refine wm_getr 0 9 1 _ 109 fl_RX6_82 (by decide +kernel) rfl (E_ln (W_ln ha0).1 (vp_in_lt o4)) rfl rfl (by decide) ?_
            refine wm_aload_n 0 110 (by decide +kernel) rfl rfl ?_
            refine wm_geti 6 0 113 fl_RX6_25 (by decide +kernel) rfl ha0 rfl ?_
            refine wm_aload 5 115 (by decide +kernel) rfl rfl ?_
            refine wm_callVi mX0_takes 0 0 [] [_, _] _ _ 118 mo_X0_takes np_X0_takes ml_RX6_96 im_X0_takes se_X0_takes (by decide +kernel) (by decide +kernel) rfl rfl rfl (Nat.le_of_ble_eq_true rfl) (E_ln (W_ln ha0).1 (vp_in_lt o4)) rfl (Nat.le_of_ble_eq_true rfl) _ (ent_pad 0 rfl) (l_X0_takes g _ (E_ln (W_ln ha0).1 (vp_in_lt o4)) _ _ H) (fun v13 h12 H hzv13 => ?_)
            refine wm_iadd 119 (by decide +kernel) rfl ?_
            refine wm_bipush 16 121 (by decide +kernel : decode cX6_dispatch 119 = .ok (.bipush 16, 2)) rfl (by decide +kernel) ?_
            refine wm_irem 122 (by decide +kernel) rfl (by decide +kernel) ?_
            refine wm_dup2 123 (by decide +kernel) rfl rfl rfl ?_
            obtain ⟨o14, H⟩ := H
            refine wm_iald 16 124 (by decide +kernel) rfl (L_way (E_ln (W_ln ha0).1 (vp_in_lt o4))).1 (L_way (E_ln (W_ln ha0).1 (vp_in_lt o4))).2 o14 ?_
            refine wm_lload_n 3 125 (by decide +kernel) rfl rfl ?_
            refine wm_l2i 126 (by decide +kernel) rfl ?_
            refine wm_iadd 127 (by decide +kernel) rfl ?_
            obtain ⟨o15, H⟩ := H
            replace H := H _ rfl
            refine wm_iast 16 128 (by decide +kernel) rfl (L_way (E_ln (W_ln ha0).1 (vp_in_lt o4))).1 (L_way (E_ln (W_ln ha0).1 (vp_in_lt o4))).2 o15 ?_
            refine wm_iconst 1 129 (by decide +kernel : decode cX6_dispatch 128 = .ok (.iconst 1, 1)) rfl (by decide +kernel) ?_
            exact wm_iret (by decide +kernel) ⟨.boolean, rfl, (by decide +kernel)⟩ H
          · replace H := H.2 c9
            refine wm_iconst 0 79 (by decide +kernel : decode cX6_dispatch 78 = .ok (.iconst 0, 1)) rfl (by decide +kernel) ?_
            exact wm_iret (by decide +kernel) ⟨.boolean, rfl, (by decide +kernel)⟩ H
      · replace H := H.2 c3
        refine wm_iconst 0 23 (by decide +kernel : decode cX6_dispatch 22 = .ok (.iconst 0, 1)) rfl (by decide +kernel) ?_
        exact wm_iret (by decide +kernel) ⟨.boolean, rfl, (by decide +kernel)⟩ H
def f_X6_passTick_L2 (a0 : Nat) (k69 : HP → Prop) (Q : HP → Prop) : Nat → Int32 → HP → Prop
  | 0, _, _ => False
  | n + 1, x1, h =>
    ((((gi h a0 2) ≤ x1) →
      k69 h) ∧
     (¬ ((gi h a0 2) ≤ x1) →
      vp_in x1 6 ∧
      vp_in x1 6 ∧
      f_X3_holds ((a0 + 1) + 2 + ix x1) (gi h a0 0) h (fun v5 h4 =>
      ∀ x2_6 : Int32, x2_6 = ((gi h ((a0 + 1) + 2 + ix x1) 1) - v5) →
      (((x2_6 ≤ 0) →
        ∀ x1_8 : Int32, x1_8 = (x1 + 1) →
        f_X6_passTick_L2 a0 k69 Q n x1_8 h4) ∧
       (¬ (x2_6 ≤ 0) →
        ∀ h9 : HP, h9 = si h4 a0 1 ((gi h4 a0 1) + x2_6) →
        vp_in x1 6 ∧
        ∀ h11 : HP, h11 = si h9 ((a0 + 1) + 2 + ix x1) 1 ((gi h9 ((a0 + 1) + 2 + ix x1) 1) - x2_6) →
        ∀ x1_12 : Int32, x1_12 = (x1 + 1) →
        f_X6_passTick_L2 a0 k69 Q n x1_12 h11)))))
def f_X6_passTick_L89 (a0 : Nat) (x1 : Int32)  (Q : HP → Prop) : Nat → Int32 → HP → Prop
  | 0, _, _ => False
  | n + 1, x2, h =>
    ((((gi h a0 3) ≤ x2) →
      Q h) ∧
     (¬ ((gi h a0 3) ≤ x2) →
      vp_in x2 10 ∧
      ∀ h18 : HP, h18 = si h ((a0 + 2) + 7 + 2 * ix x2) 8 0 →
      vp_in (gi h18 ((a0 + 2) + 7 + 2 * ix x2) 2) 6 ∧
      vp_in x1 16 ∧
      ∀ h21 : HP, h21 = si h18 ((a0 + 1) + 2 + ix (gi h18 ((a0 + 2) + 7 + 2 * ix x2) 2)) 1 ((gi h18 ((a0 + 1) + 2 + ix (gi h18 ((a0 + 2) + 7 + 2 * ix x2) 2)) 1) + (gi h18 (((a0 + 2) + 7 + 2 * ix x2) + 1) (ix x1))) →
      vp_in x1 16 ∧
      ∀ h23 : HP, h23 = si h21 (((a0 + 2) + 7 + 2 * ix x2) + 1) (ix x1) 0 →
      ∀ x2_24 : Int32, x2_24 = (x2 + 1) →
      f_X6_passTick_L89 a0 x1 Q n x2_24 h23))
def f_X6_passTick (a0 : Nat) (h : HP) (Q : HP → Prop) : Prop :=
  ∃ n26, f_X6_passTick_L2 a0
    (fun h13 =>
      ∀ h14 : HP, h14 = si h13 a0 0 ((gi h13 a0 0) + 1) →
      ∀ x1_15 : Int32, x1_15 = ((gi h14 a0 0) - (gi h14 a0 0) / 16 * 16) →
      ∃ n25, f_X6_passTick_L89 a0 x1_15
        Q n25 0 h14)
    Q n26 0 h
set_option maxRecDepth 20000 in
theorem l_X6_passTick_L2 (g : GE) (a0 : Nat) (ha0 : kd a0 = 6) (k69 : HP → Prop) (Q : HP → Prop) (hk69 : ∀  (h : HP), k69  h → Wm g mX6_passTick 69 [some (.ref a0), none, none, none] [] h (qv Q)) : ∀ (n : Nat) (x1 : Int32) (h : HP), f_X6_passTick_L2 a0 k69 Q n x1 h → Wm g mX6_passTick 2 [some (.ref a0), some (.int x1), none, none] [] h (qv Q) := by
  intro n
  induction n with
  | zero => intro x1 h H; exact H.elim
  | succ n ih =>
    intro x1 h H
    unfold f_X6_passTick_L2 at H
    refine wm_iload_n 1 3 (by decide +kernel) rfl rfl ?_
    refine wm_aload_n 0 4 (by decide +kernel) rfl rfl ?_
    refine wm_geti 6 2 7 fl_RX6_32 (by decide +kernel) rfl ha0 rfl ?_
    refine wm_icmp_ge 10 69 (by decide +kernel : decode cX6_passTick 7 = .ok (.if_icmp .ge 62, 3)) (by decide) rfl (fun c1 => ?_) (fun c1 => ?_)
    · replace H := H.1 c1
      refine wm_mask [true, false, false, false] [some _, none, none, none] rfl ?_
      exact hk69 _ H
    · replace H := H.2 c1
      refine wm_aload_n 0 11 (by decide +kernel) rfl rfl ?_
      refine wm_getr 6 4 1 _ 14 fl_RX6_11 (by decide +kernel) rfl ha0 rfl rfl (by decide) ?_
      refine wm_iload_n 1 15 (by decide +kernel) rfl rfl ?_
      obtain ⟨o2, H⟩ := H
      refine wm_aald 6 _ 16 (by decide +kernel) rfl (Or.inl ⟨(W_st ha0).1, rfl⟩) (W_st ha0).2 o2 ?_
      refine wm_geti 3 1 19 fl_RX6_56 (by decide +kernel) rfl (E_st (W_st ha0).1 (vp_in_lt o2)) rfl ?_
      refine wm_aload_n 0 20 (by decide +kernel) rfl rfl ?_
      refine wm_getr 6 4 1 _ 23 fl_RX6_11 (by decide +kernel) rfl ha0 rfl rfl (by decide) ?_
      refine wm_iload_n 1 24 (by decide +kernel) rfl rfl ?_
      obtain ⟨o3, H⟩ := H
      refine wm_aald 6 _ 25 (by decide +kernel) rfl (Or.inl ⟨(W_st ha0).1, rfl⟩) (W_st ha0).2 o3 ?_
      refine wm_aload_n 0 26 (by decide +kernel) rfl rfl ?_
      refine wm_geti 6 0 29 fl_RX6_25 (by decide +kernel) rfl ha0 rfl ?_
      refine wm_callVi mX3_holds 1 3 [_] [_] _ _ 32 mo_X3_holds np_X3_holds ml_RX6_100 im_X3_holds se_X3_holds (by decide +kernel) (by decide +kernel) rfl rfl rfl (Nat.le_of_ble_eq_true rfl) (E_st (W_st ha0).1 (vp_in_lt o3)) rfl (Nat.le_of_ble_eq_true rfl) _ (ent_pad 0 rfl) (l_X3_holds g _ _ (E_st (W_st ha0).1 (vp_in_lt o3)) _ _ H) (fun v5 h4 H hzv5 => ?_)
      refine wm_isub 33 (by decide +kernel) rfl ?_
      replace H := H _ rfl
      refine wm_istore_n 2 34 [some _, some _, some _, none] (by decide +kernel) rfl (by decide +kernel) (okS_spec rfl) rfl ?_
      refine wm_iload_n 2 35 (by decide +kernel) rfl rfl ?_
      refine wm_if_le 38 63 (by decide +kernel : decode cX6_passTick 35 = .ok (.ifCond .le 28, 3)) (by decide) rfl (fun c7 => ?_) (fun c7 => ?_)
      · replace H := H.1 c7
        replace H := H _ rfl
        refine wm_iinc 1 (_ + 1) 66 [some _, some _, some _, none] (by decide +kernel : decode cX6_passTick 63 = .ok (.iinc 1 1, 3)) rfl (by decide +kernel) rfl (ofI_eq (by decide +kernel)) (okS_spec rfl) rfl ?_
        refine wm_goto 2 (by decide +kernel : decode cX6_passTick 66 = .ok (.goto (-64), 3)) (by decide) ?_
        refine wm_mask [true, true, false, false] [some _, some _, none, none] rfl ?_
        exact ih _ _ H
      · replace H := H.2 c7
        refine wm_aload_n 0 39 (by decide +kernel) rfl rfl ?_
        refine wm_dup 40 (by decide +kernel) rfl rfl ?_
        refine wm_geti 6 1 43 fl_RX6_29 (by decide +kernel) rfl ha0 rfl ?_
        refine wm_iload_n 2 44 (by decide +kernel) rfl rfl ?_
        refine wm_iadd 45 (by decide +kernel) rfl ?_
        replace H := H _ rfl
        refine wm_puti 6 1 48 fl_RX6_29 (by decide +kernel) rfl ha0 rfl rfl ⟨rfl, rfl⟩ ?_
        refine wm_aload_n 0 49 (by decide +kernel) rfl rfl ?_
        refine wm_getr 6 4 1 _ 52 fl_RX6_11 (by decide +kernel) rfl ha0 rfl rfl (by decide) ?_
        refine wm_iload_n 1 53 (by decide +kernel) rfl rfl ?_
        obtain ⟨o10, H⟩ := H
        refine wm_aald 6 _ 54 (by decide +kernel) rfl (Or.inl ⟨(W_st ha0).1, rfl⟩) (W_st ha0).2 o10 ?_
        refine wm_dup 55 (by decide +kernel) rfl rfl ?_
        refine wm_geti 3 1 58 fl_RX6_56 (by decide +kernel) rfl (E_st (W_st ha0).1 (vp_in_lt o10)) rfl ?_
        refine wm_iload_n 2 59 (by decide +kernel) rfl rfl ?_
        refine wm_isub 60 (by decide +kernel) rfl ?_
        replace H := H _ rfl
        refine wm_puti 3 1 63 fl_RX6_56 (by decide +kernel) rfl (E_st (W_st ha0).1 (vp_in_lt o10)) rfl rfl ⟨rfl, rfl⟩ ?_
        replace H := H _ rfl
        refine wm_iinc 1 (_ + 1) 66 [some _, some _, some _, none] (by decide +kernel : decode cX6_passTick 63 = .ok (.iinc 1 1, 3)) rfl (by decide +kernel) rfl (ofI_eq (by decide +kernel)) (okS_spec rfl) rfl ?_
        refine wm_goto 2 (by decide +kernel : decode cX6_passTick 66 = .ok (.goto (-64), 3)) (by decide) ?_
        refine wm_mask [true, true, false, false] [some _, some _, none, none] rfl ?_
        exact ih _ _ H
set_option maxRecDepth 20000 in
theorem l_X6_passTick_L89 (g : GE) (a0 : Nat) (x1 : Int32) (ha0 : kd a0 = 6)  (Q : HP → Prop)  : ∀ (n : Nat) (x2 : Int32) (h : HP), f_X6_passTick_L89 a0 x1 Q n x2 h → Wm g mX6_passTick 89 [some (.ref a0), some (.int x1), some (.int x2), none] [] h (qv Q) := by
  intro n
  induction n with
  | zero => intro x2 h H; exact H.elim
  | succ n ih =>
    intro x2 h H
    unfold f_X6_passTick_L89 at H
    refine wm_iload_n 2 90 (by decide +kernel) rfl rfl ?_
    refine wm_aload_n 0 91 (by decide +kernel) rfl rfl ?_
    refine wm_geti 6 3 94 fl_RX6_35 (by decide +kernel) rfl ha0 rfl ?_
    refine wm_icmp_ge 97 145 (by decide +kernel : decode cX6_passTick 94 = .ok (.if_icmp .ge 51, 3)) (by decide) rfl (fun c16 => ?_) (fun c16 => ?_)
    · replace H := H.1 c16
      exact wm_vret (by decide +kernel) rfl H
    · replace H := H.2 c16
      refine wm_aload_n 0 98 (by decide +kernel) rfl rfl ?_
      refine wm_getr 6 5 2 _ 101 fl_RX6_19 (by decide +kernel) rfl ha0 rfl rfl (by decide) ?_
      refine wm_iload_n 2 102 (by decide +kernel) rfl rfl ?_
      obtain ⟨o17, H⟩ := H
      refine wm_aald 10 _ 103 (by decide +kernel) rfl (Or.inr (Or.inl ⟨(W_ln ha0).1, rfl⟩)) (W_ln ha0).2 o17 ?_
      refine wm_astore_n 3 104 [some _, some _, some _, some _] (by decide +kernel) rfl (by decide +kernel) (okS_spec rfl) rfl ?_
      refine wm_aload_n 3 105 (by decide +kernel) rfl rfl ?_
      refine wm_iconst 0 106 (by decide +kernel : decode cX6_passTick 105 = .ok (.iconst 0, 1)) rfl (by decide +kernel) ?_
      replace H := H _ rfl
      refine wm_puti 0 8 109 fl_RX6_79 (by decide +kernel) rfl (E_ln (W_ln ha0).1 (vp_in_lt o17)) rfl rfl ⟨rfl, rfl⟩ ?_
      refine wm_aload_n 0 110 (by decide +kernel) rfl rfl ?_
      refine wm_getr 6 4 1 _ 113 fl_RX6_11 (by decide +kernel) rfl ha0 rfl rfl (by decide) ?_
      refine wm_aload_n 3 114 (by decide +kernel) rfl rfl ?_
      refine wm_geti 0 2 117 fl_RX6_66 (by decide +kernel) rfl (E_ln (W_ln ha0).1 (vp_in_lt o17)) rfl ?_
      obtain ⟨o19, H⟩ := H
      refine wm_aald 6 _ 118 (by decide +kernel) rfl (Or.inl ⟨(W_st ha0).1, rfl⟩) (W_st ha0).2 o19 ?_
      refine wm_dup 119 (by decide +kernel) rfl rfl ?_
      refine wm_geti 3 1 122 fl_RX6_56 (by decide +kernel) rfl (E_st (W_st ha0).1 (vp_in_lt o19)) rfl ?_
      refine wm_aload_n 3 123 (by decide +kernel) rfl rfl ?_
      refine wm_getr 0 9 1 _ 126 fl_RX6_82 (by decide +kernel) rfl (E_ln (W_ln ha0).1 (vp_in_lt o17)) rfl rfl (by decide) ?_
      refine wm_iload_n 1 127 (by decide +kernel) rfl rfl ?_
      obtain ⟨o20, H⟩ := H
      refine wm_iald 16 128 (by decide +kernel) rfl (L_way (E_ln (W_ln ha0).1 (vp_in_lt o17))).1 (L_way (E_ln (W_ln ha0).1 (vp_in_lt o17))).2 o20 ?_
      refine wm_iadd 129 (by decide +kernel) rfl ?_
      replace H := H _ rfl
      refine wm_puti 3 1 132 fl_RX6_56 (by decide +kernel) rfl (E_st (W_st ha0).1 (vp_in_lt o19)) rfl rfl ⟨rfl, rfl⟩ ?_
      refine wm_aload_n 3 133 (by decide +kernel) rfl rfl ?_
      refine wm_getr 0 9 1 _ 136 fl_RX6_82 (by decide +kernel) rfl (E_ln (W_ln ha0).1 (vp_in_lt o17)) rfl rfl (by decide) ?_
      refine wm_iload_n 1 137 (by decide +kernel) rfl rfl ?_
      refine wm_iconst 0 138 (by decide +kernel : decode cX6_passTick 137 = .ok (.iconst 0, 1)) rfl (by decide +kernel) ?_
      obtain ⟨o22, H⟩ := H
      replace H := H _ rfl
      refine wm_iast 16 139 (by decide +kernel) rfl (L_way (E_ln (W_ln ha0).1 (vp_in_lt o17))).1 (L_way (E_ln (W_ln ha0).1 (vp_in_lt o17))).2 o22 ?_
      replace H := H _ rfl
      refine wm_iinc 2 (_ + 1) 142 [some _, some _, some _, some _] (by decide +kernel : decode cX6_passTick 139 = .ok (.iinc 2 1, 3)) rfl (by decide +kernel) rfl (ofI_eq (by decide +kernel)) (okS_spec rfl) rfl ?_
      refine wm_goto 89 (by decide +kernel : decode cX6_passTick 142 = .ok (.goto (-53), 3)) (by decide) ?_
      refine wm_mask [true, true, true, false] [some _, some _, some _, none] rfl ?_
      exact ih _ _ H
set_option maxRecDepth 20000 in
theorem l_X6_passTick (g : GE) (a0 : Nat) (ha0 : kd a0 = 6) (h : HP) (Q : HP → Prop) (H : f_X6_passTick a0 h Q) : Wm g mX6_passTick 0 [some (.ref a0), none, none, none] [] h (qv Q) := by
  unfold f_X6_passTick at H
  refine wm_iconst 0 1 (by decide +kernel : decode cX6_passTick 0 = .ok (.iconst 0, 1)) rfl (by decide +kernel) ?_
  refine wm_istore_n 1 2 [some _, some _, none, none] (by decide +kernel) rfl (by decide +kernel) (okS_spec rfl) rfl ?_
  obtain ⟨n26, H⟩ := H
  refine l_X6_passTick_L2 g _ ha0 _ _ (fun h13 H => ?_) _ _ _ H
  · skip
    refine wm_aload_n 0 70 (by decide +kernel) rfl rfl ?_
    refine wm_dup 71 (by decide +kernel) rfl rfl ?_
    refine wm_geti 6 0 74 fl_RX6_25 (by decide +kernel) rfl ha0 rfl ?_
    refine wm_iconst 1 75 (by decide +kernel : decode cX6_passTick 74 = .ok (.iconst 1, 1)) rfl (by decide +kernel) ?_
    refine wm_iadd 76 (by decide +kernel) rfl ?_
    replace H := H _ rfl
    refine wm_puti 6 0 79 fl_RX6_25 (by decide +kernel) rfl ha0 rfl rfl ⟨rfl, rfl⟩ ?_
    refine wm_aload_n 0 80 (by decide +kernel) rfl rfl ?_
    refine wm_geti 6 0 83 fl_RX6_25 (by decide +kernel) rfl ha0 rfl ?_
    refine wm_bipush 16 85 (by decide +kernel : decode cX6_passTick 83 = .ok (.bipush 16, 2)) rfl (by decide +kernel) ?_
    refine wm_irem 86 (by decide +kernel) rfl (by decide +kernel) ?_
    replace H := H _ rfl
    refine wm_istore_n 1 87 [some _, some _, none, none] (by decide +kernel) rfl (by decide +kernel) (okS_spec rfl) rfl ?_
    refine wm_iconst 0 88 (by decide +kernel : decode cX6_passTick 87 = .ok (.iconst 0, 1)) rfl (by decide +kernel) ?_
    refine wm_istore_n 2 89 [some _, some _, some _, none] (by decide +kernel) rfl (by decide +kernel) (okS_spec rfl) rfl ?_
    obtain ⟨n25, H⟩ := H
    refine l_X6_passTick_L89 g _ _ ha0 _  _ _ _ H
def f_X6_follow_L19 (a0 : Nat) (a1 : Nat) (x2 : Int32) (x3 : Int32) (x4 : Int32) (k91 : HP → Prop) (Q : Int32 → HP → Prop) : Nat → Int32 → HP → Prop
  | 0, _, _ => False
  | n + 1, x5, h =>
    (((x3 ≤ x5) →
      k91 h) ∧
     (¬ (x3 ≤ x5) →
      vp_in ((3 * x5) + 1) 40 ∧
      ∀ x6_7 : Int32, x6_7 = (if (lg_cmp (gl h (a1 + 1) (ix ((3 * x5) + 1))) (x4 : Int32).toInt64) = 0 then (1 : Int32) else 0) →
      (((x6_7 = 0) →
        ∀ x5_9 : Int32, x5_9 = (x5 + 1) →
        f_X6_follow_L19 a0 a1 x2 x3 x4 k91 Q n x5_9 h) ∧
       (¬ (x6_7 = 0) →
        vp_in (3 * x5) 40 ∧
        vp_in ((3 * x5) + 2) 40 ∧
        f_X6_dispatch a0 (gl h (a1 + 1) (ix (3 * x5))) (gl h (a1 + 1) (ix ((3 * x5) + 2))) h (fun v13 h12 =>
        (((v13 = 0) →
          Q x5 h12) ∧
         (¬ (v13 = 0) →
          ∀ x5_15 : Int32, x5_15 = (x5 + 1) →
          f_X6_follow_L19 a0 a1 x2 x3 x4 k91 Q n x5_15 h12)))))))
def f_X6_follow_L10 (a0 : Nat) (a1 : Nat) (x2 : Int32) (x3 : Int32)  (Q : Int32 → HP → Prop) : Nat → Int32 → HP → Prop
  | 0, _, _ => False
  | n + 1, x4, h =>
    (((x2 ≤ x4) →
      Q (-1 : Int32) h) ∧
     (¬ (x2 ≤ x4) →
      ∃ n19, f_X6_follow_L19 a0 a1 x2 x3 x4
        (fun h16 =>
          f_X6_passTick a0 h16 (fun h17 =>
          ∀ x4_18 : Int32, x4_18 = (x4 + 1) →
          f_X6_follow_L10 a0 a1 x2 x3 Q n x4_18 h17))
        Q n19 0 h))
def f_X6_follow (a0 : Nat) (a1 : Nat) (x2 : Int32) (h : HP) (Q : Int32 → HP → Prop) : Prop :=
  ∀ x3_1 : Int32, x3_1 = ((gi h a1 2) / 3) →
  ∃ n20, f_X6_follow_L10 a0 a1 x2 x3_1
    Q n20 0 h
set_option maxRecDepth 20000 in
theorem l_X6_follow_L19 (g : GE) (a0 : Nat) (a1 : Nat) (x2 : Int32) (x3 : Int32) (x4 : Int32) (ha0 : kd a0 = 6) (ha1 : kd a1 = 2) (k91 : HP → Prop) (Q : Int32 → HP → Prop) (hk91 : ∀  (h : HP), k91  h → Wm g mX6_follow 91 [some (.ref a0), some (.ref a1), some (.int x2), some (.int x3), some (.int x4), none, none] [] h (qi Q)) : ∀ (n : Nat) (x5 : Int32) (h : HP), f_X6_follow_L19 a0 a1 x2 x3 x4 k91 Q n x5 h → Wm g mX6_follow 19 [some (.ref a0), some (.ref a1), some (.int x2), some (.int x3), some (.int x4), some (.int x5), none] [] h (qi Q) := by
  intro n
  induction n with
  | zero => intro x5 h H; exact H.elim
  | succ n ih =>
    intro x5 h H
    unfold f_X6_follow_L19 at H
    refine wm_iload 5 21 (by decide +kernel) rfl rfl ?_
    refine wm_iload_n 3 22 (by decide +kernel) rfl rfl ?_
    refine wm_icmp_ge 25 91 (by decide +kernel : decode cX6_follow 22 = .ok (.if_icmp .ge 69, 3)) (by decide) rfl (fun c3 => ?_) (fun c3 => ?_)
    · replace H := H.1 c3
      refine wm_mask [true, true, true, true, true, false, false] [some _, some _, some _, some _, some _, none, none] rfl ?_
      exact hk91 _ H
    · replace H := H.2 c3
      refine wm_aload_n 1 26 (by decide +kernel) rfl rfl ?_
      refine wm_getr 2 0 1 _ 29 fl_RX6_108 (by decide +kernel) rfl ha1 rfl rfl (by decide) ?_
      refine wm_iconst 3 30 (by decide +kernel : decode cX6_follow 29 = .ok (.iconst 3, 1)) rfl (by decide +kernel) ?_
      refine wm_iload 5 32 (by decide +kernel) rfl rfl ?_
      refine wm_imul 33 (by decide +kernel) rfl ?_
      refine wm_iconst 1 34 (by decide +kernel : decode cX6_follow 33 = .ok (.iconst 1, 1)) rfl (by decide +kernel) ?_
      refine wm_iadd 35 (by decide +kernel) rfl ?_
      obtain ⟨o4, H⟩ := H
      refine wm_lald 40 36 (by decide +kernel) rfl (S_row ha1).1 (S_row ha1).2 o4 ?_
      refine wm_iload 4 38 (by decide +kernel) rfl rfl ?_
      refine wm_i2l 39 (by decide +kernel) rfl ?_
      refine wm_lcmp 40 (by decide +kernel) rfl ?_
      refine' wm_dia (pcJ := 48) (fun kt kf => wm_if_ne 43 47 (by decide +kernel : decode cX6_follow 40 = .ok (.ifCond .ne 7, 3)) (by decide) rfl kf kt) ?D6k (fun kj c1 => ?D6t) (fun kj c1 => ?D6f)
      case D6t =>
        refine wm_iconst 1 44 (by decide +kernel : decode cX6_follow 43 = .ok (.iconst 1, 1)) rfl (by decide +kernel) ?_
        refine wm_goto 48 (by decide +kernel : decode cX6_follow 44 = .ok (.goto 4, 3)) (by decide) ?_
        exact kj
      case D6f =>
        refine wm_iconst 0 48 (by decide +kernel : decode cX6_follow 47 = .ok (.iconst 0, 1)) rfl (by decide +kernel) ?_
        exact kj
      case D6k =>
        replace H := H _ rfl
        refine wm_istore 6 50 [some _, some _, some _, some _, some _, some _, some _] (by decide +kernel) rfl (by decide +kernel) (okS_spec rfl) rfl ?_
        refine wm_iload 6 52 (by decide +kernel) rfl rfl ?_
        refine wm_if_eq 55 85 (by decide +kernel : decode cX6_follow 52 = .ok (.ifCond .eq 33, 3)) (by decide) rfl (fun c8 => ?_) (fun c8 => ?_)
        · replace H := H.1 c8
          replace H := H _ rfl
          refine wm_iinc 5 (_ + 1) 88 [some _, some _, some _, some _, some _, some _, some _] (by decide +kernel : decode cX6_follow 85 = .ok (.iinc 5 1, 3)) rfl (by decide +kernel) rfl (ofI_eq (by decide +kernel)) (okS_spec rfl) rfl ?_
          refine wm_goto 19 (by decide +kernel : decode cX6_follow 88 = .ok (.goto (-69), 3)) (by decide) ?_
          refine wm_mask [true, true, true, true, true, true, false] [some _, some _, some _, some _, some _, some _, none] rfl ?_
          exact ih _ _ H
        · replace H := H.2 c8
          refine wm_aload_n 0 56 (by decide +kernel) rfl rfl ?_
          refine wm_aload_n 1 57 (by decide +kernel) rfl rfl ?_
          refine wm_getr 2 0 1 _ 60 fl_RX6_108 (by decide +kernel) rfl ha1 rfl rfl (by decide) ?_
          refine wm_iconst 3 61 (by decide +kernel : decode cX6_follow 60 = .ok (.iconst 3, 1)) rfl (by decide +kernel) ?_
          refine wm_iload 5 63 (by decide +kernel) rfl rfl ?_
          refine wm_imul 64 (by decide +kernel) rfl ?_
          obtain ⟨o10, H⟩ := H
          refine wm_lald 40 65 (by decide +kernel) rfl (S_row ha1).1 (S_row ha1).2 o10 ?_
          refine wm_aload_n 1 66 (by decide +kernel) rfl rfl ?_
          refine wm_getr 2 0 1 _ 69 fl_RX6_108 (by decide +kernel) rfl ha1 rfl rfl (by decide) ?_
          refine wm_iconst 3 70 (by decide +kernel : decode cX6_follow 69 = .ok (.iconst 3, 1)) rfl (by decide +kernel) ?_
          refine wm_iload 5 72 (by decide +kernel) rfl rfl ?_
          refine wm_imul 73 (by decide +kernel) rfl ?_
          refine wm_iconst 2 74 (by decide +kernel : decode cX6_follow 73 = .ok (.iconst 2, 1)) rfl (by decide +kernel) ?_
          refine wm_iadd 75 (by decide +kernel) rfl ?_
          obtain ⟨o11, H⟩ := H
          refine wm_lald 40 76 (by decide +kernel) rfl (S_row ha1).1 (S_row ha1).2 o11 ?_
          refine wm_callVi mX6_dispatch 2 6 [_, _] [] _ _ 79 mo_X6_dispatch np_X6_dispatch ml_RX6_112 im_X6_dispatch se_X6_dispatch (by decide +kernel) (by decide +kernel) rfl rfl rfl (Nat.le_of_ble_eq_true rfl) ha0 rfl (Nat.le_of_ble_eq_true rfl) _ (ent_pad 2 rfl) (l_X6_dispatch g _ _ _ ha0 _ _ H) (fun v13 h12 H hzv13 => ?_)
          refine wm_if_ne 82 85 (by decide +kernel : decode cX6_follow 79 = .ok (.ifCond .ne 6, 3)) (by decide) rfl (fun c14 => ?_) (fun c14 => ?_)
          · replace H := H.2 c14
            replace H := H _ rfl
            refine wm_iinc 5 (_ + 1) 88 [some _, some _, some _, some _, some _, some _, some _] (by decide +kernel : decode cX6_follow 85 = .ok (.iinc 5 1, 3)) rfl (by decide +kernel) rfl (ofI_eq (by decide +kernel)) (okS_spec rfl) rfl ?_
            refine wm_goto 19 (by decide +kernel : decode cX6_follow 88 = .ok (.goto (-69), 3)) (by decide) ?_
            refine wm_mask [true, true, true, true, true, true, false] [some _, some _, some _, some _, some _, some _, none] rfl ?_
            exact ih _ _ H
          · replace H := H.1 c14
            refine wm_iload 5 84 (by decide +kernel) rfl rfl ?_
            exact wm_iret (by decide +kernel) ⟨.int, rfl, rfl⟩ H
set_option maxRecDepth 20000 in
theorem l_X6_follow_L10 (g : GE) (a0 : Nat) (a1 : Nat) (x2 : Int32) (x3 : Int32) (ha0 : kd a0 = 6) (ha1 : kd a1 = 2)  (Q : Int32 → HP → Prop)  : ∀ (n : Nat) (x4 : Int32) (h : HP), f_X6_follow_L10 a0 a1 x2 x3 Q n x4 h → Wm g mX6_follow 10 [some (.ref a0), some (.ref a1), some (.int x2), some (.int x3), some (.int x4), none, none] [] h (qi Q) := by
  intro n
  induction n with
  | zero => intro x4 h H; exact H.elim
  | succ n ih =>
    intro x4 h H
    unfold f_X6_follow_L10 at H
    refine wm_iload 4 12 (by decide +kernel) rfl rfl ?_
    refine wm_iload_n 2 13 (by decide +kernel) rfl rfl ?_
    refine wm_icmp_ge 16 101 (by decide +kernel : decode cX6_follow 13 = .ok (.if_icmp .ge 88, 3)) (by decide) rfl (fun c2 => ?_) (fun c2 => ?_)
    · replace H := H.1 c2
      refine wm_iconst (-1) 102 (by decide +kernel : decode cX6_follow 101 = .ok (.iconst (-1), 1)) rfl (by decide +kernel) ?_
      exact wm_iret (by decide +kernel) ⟨.int, rfl, rfl⟩ H
    · replace H := H.2 c2
      refine wm_iconst 0 17 (by decide +kernel : decode cX6_follow 16 = .ok (.iconst 0, 1)) rfl (by decide +kernel) ?_
      refine wm_istore 5 19 [some _, some _, some _, some _, some _, some _, none] (by decide +kernel) rfl (by decide +kernel) (okS_spec rfl) rfl ?_
      obtain ⟨n19, H⟩ := H
      refine l_X6_follow_L19 g _ _ _ _ _ ha0 ha1 _ _ (fun h16 H => ?_) _ _ _ H
      · skip
        refine wm_aload_n 0 92 (by decide +kernel) rfl rfl ?_
        refine wm_callVv mX6_passTick 0 6 [] [] _ _ 95 mo_X6_passTick np_X6_passTick ml_RX6_116 im_X6_passTick se_X6_passTick (by decide +kernel) (by decide +kernel) rfl rfl rfl (Nat.le_of_ble_eq_true rfl) ha0 rfl (Nat.le_of_ble_eq_true rfl) _ (ent_pad 3 rfl) (l_X6_passTick g _ ha0 _ _ H) (fun h17 H => ?_)
        replace H := H _ rfl
        refine wm_iinc 4 (_ + 1) 98 [some _, some _, some _, some _, some _, none, none] (by decide +kernel : decode cX6_follow 95 = .ok (.iinc 4 1, 3)) rfl (by decide +kernel) rfl (ofI_eq (by decide +kernel)) (okS_spec rfl) rfl ?_
        refine wm_goto 10 (by decide +kernel : decode cX6_follow 98 = .ok (.goto (-88), 3)) (by decide) ?_
        exact ih _ _ H
set_option maxRecDepth 20000 in
theorem l_X6_follow (g : GE) (a0 : Nat) (a1 : Nat) (x2 : Int32) (ha0 : kd a0 = 6) (ha1 : kd a1 = 2) (h : HP) (Q : Int32 → HP → Prop) (H : f_X6_follow a0 a1 x2 h Q) : Wm g mX6_follow 0 [some (.ref a0), some (.ref a1), some (.int x2), none, none, none, none] [] h (qi Q) := by
  unfold f_X6_follow at H
  refine wm_aload_n 1 1 (by decide +kernel) rfl rfl ?_
  refine wm_geti 2 2 4 fl_RX6_103 (by decide +kernel) rfl ha1 rfl ?_
  refine wm_iconst 3 5 (by decide +kernel : decode cX6_follow 4 = .ok (.iconst 3, 1)) rfl (by decide +kernel) ?_
  refine wm_idiv 6 (by decide +kernel) rfl (by decide +kernel) ?_
  replace H := H _ rfl
  refine wm_istore_n 3 7 [some _, some _, some _, some _, none, none, none] (by decide +kernel) rfl (by decide +kernel) (okS_spec rfl) rfl ?_
  refine wm_iconst 0 8 (by decide +kernel : decode cX6_follow 7 = .ok (.iconst 0, 1)) rfl (by decide +kernel) ?_
  refine wm_istore 4 10 [some _, some _, some _, some _, some _, none, none] (by decide +kernel) rfl (by decide +kernel) (okS_spec rfl) rfl ?_
  obtain ⟨n20, H⟩ := H
  refine l_X6_follow_L10 g _ _ _ _ ha0 ha1 _  _ _ _ H
def f_X6_allStock_L4 (a0 : Nat)  (Q : Int32 → HP → Prop) : Nat → Int32 → Int32 → HP → Prop
  | 0, _, _, _ => False
  | n + 1, x1, x2, h =>
    ((((gi h a0 2) ≤ x2) →
      Q x1 h) ∧
     (¬ ((gi h a0 2) ≤ x2) →
      vp_in x2 6 ∧
      ∀ x1_3 : Int32, x1_3 = (x1 + (gi h ((a0 + 1) + 2 + ix x2) 1)) →
      ∀ x2_4 : Int32, x2_4 = (x2 + 1) →
      f_X6_allStock_L4 a0 Q n x1_3 x2_4 h))
def f_X6_allStock (a0 : Nat) (h : HP) (Q : Int32 → HP → Prop) : Prop :=
  ∃ n5, f_X6_allStock_L4 a0
    Q n5 0 0 h
set_option maxRecDepth 20000 in
theorem l_X6_allStock_L4 (g : GE) (a0 : Nat) (ha0 : kd a0 = 6)  (Q : Int32 → HP → Prop)  : ∀ (n : Nat) (x1 : Int32) (x2 : Int32) (h : HP), f_X6_allStock_L4 a0 Q n x1 x2 h → Wm g mX6_allStock 4 [some (.ref a0), some (.int x1), some (.int x2)] [] h (qi Q) := by
  intro n
  induction n with
  | zero => intro x1 x2 h H; exact H.elim
  | succ n ih =>
    intro x1 x2 h H
    unfold f_X6_allStock_L4 at H
    refine wm_iload_n 2 5 (by decide +kernel) rfl rfl ?_
    refine wm_aload_n 0 6 (by decide +kernel) rfl rfl ?_
    refine wm_geti 6 2 9 fl_RX6_32 (by decide +kernel) rfl ha0 rfl ?_
    refine wm_icmp_ge 12 30 (by decide +kernel : decode cX6_allStock 9 = .ok (.if_icmp .ge 21, 3)) (by decide) rfl (fun c1 => ?_) (fun c1 => ?_)
    · replace H := H.1 c1
      refine wm_iload_n 1 31 (by decide +kernel) rfl rfl ?_
      exact wm_iret (by decide +kernel) ⟨.int, rfl, rfl⟩ H
    · replace H := H.2 c1
      refine wm_iload_n 1 13 (by decide +kernel) rfl rfl ?_
      refine wm_aload_n 0 14 (by decide +kernel) rfl rfl ?_
      refine wm_getr 6 4 1 _ 17 fl_RX6_11 (by decide +kernel) rfl ha0 rfl rfl (by decide) ?_
      refine wm_iload_n 2 18 (by decide +kernel) rfl rfl ?_
      obtain ⟨o2, H⟩ := H
      refine wm_aald 6 _ 19 (by decide +kernel) rfl (Or.inl ⟨(W_st ha0).1, rfl⟩) (W_st ha0).2 o2 ?_
      refine wm_geti 3 1 22 fl_RX6_56 (by decide +kernel) rfl (E_st (W_st ha0).1 (vp_in_lt o2)) rfl ?_
      refine wm_iadd 23 (by decide +kernel) rfl ?_
      replace H := H _ rfl
      refine wm_istore_n 1 24 [some _, some _, some _] (by decide +kernel) rfl (by decide +kernel) (okS_spec rfl) rfl ?_
      replace H := H _ rfl
      refine wm_iinc 2 (_ + 1) 27 [some _, some _, some _] (by decide +kernel : decode cX6_allStock 24 = .ok (.iinc 2 1, 3)) rfl (by decide +kernel) rfl (ofI_eq (by decide +kernel)) (okS_spec rfl) rfl ?_
      refine wm_goto 4 (by decide +kernel : decode cX6_allStock 27 = .ok (.goto (-23), 3)) (by decide) ?_
      exact ih _ _ _ H
set_option maxRecDepth 20000 in
theorem l_X6_allStock (g : GE) (a0 : Nat) (ha0 : kd a0 = 6) (h : HP) (Q : Int32 → HP → Prop) (H : f_X6_allStock a0 h Q) : Wm g mX6_allStock 0 [some (.ref a0), none, none] [] h (qi Q) := by
  unfold f_X6_allStock at H
  refine wm_iconst 0 1 (by decide +kernel : decode cX6_allStock 0 = .ok (.iconst 0, 1)) rfl (by decide +kernel) ?_
  refine wm_istore_n 1 2 [some _, some _, none] (by decide +kernel) rfl (by decide +kernel) (okS_spec rfl) rfl ?_
  refine wm_iconst 0 3 (by decide +kernel : decode cX6_allStock 2 = .ok (.iconst 0, 1)) rfl (by decide +kernel) ?_
  refine wm_istore_n 2 4 [some _, some _, some _] (by decide +kernel) rfl (by decide +kernel) (okS_spec rfl) rfl ?_
  obtain ⟨n5, H⟩ := H
  refine l_X6_allStock_L4 g _ ha0 _  _ _ _ _ H
def f_X6_allUnderWay_L4 (a0 : Nat)  (Q : Int32 → HP → Prop) : Nat → Int32 → Int32 → HP → Prop
  | 0, _, _, _ => False
  | n + 1, x1, x2, h =>
    ((((gi h a0 3) ≤ x2) →
      Q x1 h) ∧
     (¬ ((gi h a0 3) ≤ x2) →
      vp_in x2 10 ∧
      f_X0_underWay ((a0 + 2) + 7 + 2 * ix x2) h (fun v4 h3 =>
      ∀ x1_5 : Int32, x1_5 = (x1 + v4) →
      ∀ x2_6 : Int32, x2_6 = (x2 + 1) →
      f_X6_allUnderWay_L4 a0 Q n x1_5 x2_6 h3)))
def f_X6_allUnderWay (a0 : Nat) (h : HP) (Q : Int32 → HP → Prop) : Prop :=
  ∃ n7, f_X6_allUnderWay_L4 a0
    Q n7 0 0 h
set_option maxRecDepth 20000 in
theorem l_X6_allUnderWay_L4 (g : GE) (a0 : Nat) (ha0 : kd a0 = 6)  (Q : Int32 → HP → Prop)  : ∀ (n : Nat) (x1 : Int32) (x2 : Int32) (h : HP), f_X6_allUnderWay_L4 a0 Q n x1 x2 h → Wm g mX6_allUnderWay 4 [some (.ref a0), some (.int x1), some (.int x2)] [] h (qi Q) := by
  intro n
  induction n with
  | zero => intro x1 x2 h H; exact H.elim
  | succ n ih =>
    intro x1 x2 h H
    unfold f_X6_allUnderWay_L4 at H
    refine wm_iload_n 2 5 (by decide +kernel) rfl rfl ?_
    refine wm_aload_n 0 6 (by decide +kernel) rfl rfl ?_
    refine wm_geti 6 3 9 fl_RX6_35 (by decide +kernel) rfl ha0 rfl ?_
    refine wm_icmp_ge 12 30 (by decide +kernel : decode cX6_allUnderWay 9 = .ok (.if_icmp .ge 21, 3)) (by decide) rfl (fun c1 => ?_) (fun c1 => ?_)
    · replace H := H.1 c1
      refine wm_iload_n 1 31 (by decide +kernel) rfl rfl ?_
      exact wm_iret (by decide +kernel) ⟨.int, rfl, rfl⟩ H
    · replace H := H.2 c1
      refine wm_iload_n 1 13 (by decide +kernel) rfl rfl ?_
      refine wm_aload_n 0 14 (by decide +kernel) rfl rfl ?_
      refine wm_getr 6 5 2 _ 17 fl_RX6_19 (by decide +kernel) rfl ha0 rfl rfl (by decide) ?_
      refine wm_iload_n 2 18 (by decide +kernel) rfl rfl ?_
      obtain ⟨o2, H⟩ := H
      refine wm_aald 10 _ 19 (by decide +kernel) rfl (Or.inr (Or.inl ⟨(W_ln ha0).1, rfl⟩)) (W_ln ha0).2 o2 ?_
      refine wm_callVi mX0_underWay 0 0 [] [_] _ _ 22 mo_X0_underWay np_X0_underWay ml_RX6_119 im_X0_underWay se_X0_underWay (by decide +kernel) (by decide +kernel) rfl rfl rfl (Nat.le_of_ble_eq_true rfl) (E_ln (W_ln ha0).1 (vp_in_lt o2)) rfl (Nat.le_of_ble_eq_true rfl) _ (ent_pad 2 rfl) (l_X0_underWay g _ (E_ln (W_ln ha0).1 (vp_in_lt o2)) _ _ H) (fun v4 h3 H hzv4 => ?_)
      refine wm_iadd 23 (by decide +kernel) rfl ?_
      replace H := H _ rfl
      refine wm_istore_n 1 24 [some _, some _, some _] (by decide +kernel) rfl (by decide +kernel) (okS_spec rfl) rfl ?_
      replace H := H _ rfl
      refine wm_iinc 2 (_ + 1) 27 [some _, some _, some _] (by decide +kernel : decode cX6_allUnderWay 24 = .ok (.iinc 2 1, 3)) rfl (by decide +kernel) rfl (ofI_eq (by decide +kernel)) (okS_spec rfl) rfl ?_
      refine wm_goto 4 (by decide +kernel : decode cX6_allUnderWay 27 = .ok (.goto (-23), 3)) (by decide) ?_
      exact ih _ _ _ H
set_option maxRecDepth 20000 in
theorem l_X6_allUnderWay (g : GE) (a0 : Nat) (ha0 : kd a0 = 6) (h : HP) (Q : Int32 → HP → Prop) (H : f_X6_allUnderWay a0 h Q) : Wm g mX6_allUnderWay 0 [some (.ref a0), none, none] [] h (qi Q) := by
  unfold f_X6_allUnderWay at H
  refine wm_iconst 0 1 (by decide +kernel : decode cX6_allUnderWay 0 = .ok (.iconst 0, 1)) rfl (by decide +kernel) ?_
  refine wm_istore_n 1 2 [some _, some _, none] (by decide +kernel) rfl (by decide +kernel) (okS_spec rfl) rfl ?_
  refine wm_iconst 0 3 (by decide +kernel : decode cX6_allUnderWay 2 = .ok (.iconst 0, 1)) rfl (by decide +kernel) ?_
  refine wm_istore_n 2 4 [some _, some _, some _] (by decide +kernel) rfl (by decide +kernel) (okS_spec rfl) rfl ?_
  obtain ⟨n7, H⟩ := H
  refine l_X6_allUnderWay_L4 g _ ha0 _  _ _ _ _ H
def f_X6_allGoods (a0 : Nat) (h : HP) (Q : Int32 → HP → Prop) : Prop :=
  f_X6_allStock a0 h (fun v2 h1 =>
  f_X6_allUnderWay a0 h1 (fun v4 h3 =>
  Q (v2 + v4) h3))
set_option maxRecDepth 20000 in
theorem l_X6_allGoods (g : GE) (a0 : Nat) (ha0 : kd a0 = 6) (h : HP) (Q : Int32 → HP → Prop) (H : f_X6_allGoods a0 h Q) : Wm g mX6_allGoods 0 [some (.ref a0)] [] h (qi Q) := by
  unfold f_X6_allGoods at H
  refine wm_aload_n 0 1 (by decide +kernel) rfl rfl ?_
  refine wm_callVi mX6_allStock 0 6 [] [] _ _ 4 mo_X6_allStock np_X6_allStock ml_RX6_122 im_X6_allStock se_X6_allStock (by decide +kernel) (by decide +kernel) rfl rfl rfl (Nat.le_of_ble_eq_true rfl) ha0 rfl (Nat.le_of_ble_eq_true rfl) _ (ent_pad 2 rfl) (l_X6_allStock g _ ha0 _ _ H) (fun v2 h1 H hzv2 => ?_)
  refine wm_aload_n 0 5 (by decide +kernel) rfl rfl ?_
  refine wm_callVi mX6_allUnderWay 0 6 [] [_] _ _ 8 mo_X6_allUnderWay np_X6_allUnderWay ml_RX6_125 im_X6_allUnderWay se_X6_allUnderWay (by decide +kernel) (by decide +kernel) rfl rfl rfl (Nat.le_of_ble_eq_true rfl) ha0 rfl (Nat.le_of_ble_eq_true rfl) _ (ent_pad 2 rfl) (l_X6_allUnderWay g _ ha0 _ _ H) (fun v4 h3 H hzv4 => ?_)
  refine wm_iadd 9 (by decide +kernel) rfl ?_
  exact wm_iret (by decide +kernel) ⟨.int, rfl, rfl⟩ H
def f_X6_allSent_L4 (a0 : Nat)  (Q : Int32 → HP → Prop) : Nat → Int32 → Int32 → HP → Prop
  | 0, _, _, _ => False
  | n + 1, x1, x2, h =>
    ((((gi h a0 3) ≤ x2) →
      Q x1 h) ∧
     (¬ ((gi h a0 3) ≤ x2) →
      vp_in x2 10 ∧
      ∀ x1_3 : Int32, x1_3 = (x1 + (gi h ((a0 + 2) + 7 + 2 * ix x2) 8)) →
      ∀ x2_4 : Int32, x2_4 = (x2 + 1) →
      f_X6_allSent_L4 a0 Q n x1_3 x2_4 h))
def f_X6_allSent (a0 : Nat) (h : HP) (Q : Int32 → HP → Prop) : Prop :=
  ∃ n5, f_X6_allSent_L4 a0
    Q n5 0 0 h
set_option maxRecDepth 20000 in
theorem l_X6_allSent_L4 (g : GE) (a0 : Nat) (ha0 : kd a0 = 6)  (Q : Int32 → HP → Prop)  : ∀ (n : Nat) (x1 : Int32) (x2 : Int32) (h : HP), f_X6_allSent_L4 a0 Q n x1 x2 h → Wm g mX6_allSent 4 [some (.ref a0), some (.int x1), some (.int x2)] [] h (qi Q) := by
  intro n
  induction n with
  | zero => intro x1 x2 h H; exact H.elim
  | succ n ih =>
    intro x1 x2 h H
    unfold f_X6_allSent_L4 at H
    refine wm_iload_n 2 5 (by decide +kernel) rfl rfl ?_
    refine wm_aload_n 0 6 (by decide +kernel) rfl rfl ?_
    refine wm_geti 6 3 9 fl_RX6_35 (by decide +kernel) rfl ha0 rfl ?_
    refine wm_icmp_ge 12 30 (by decide +kernel : decode cX6_allSent 9 = .ok (.if_icmp .ge 21, 3)) (by decide) rfl (fun c1 => ?_) (fun c1 => ?_)
    · replace H := H.1 c1
      refine wm_iload_n 1 31 (by decide +kernel) rfl rfl ?_
      exact wm_iret (by decide +kernel) ⟨.int, rfl, rfl⟩ H
    · replace H := H.2 c1
      refine wm_iload_n 1 13 (by decide +kernel) rfl rfl ?_
      refine wm_aload_n 0 14 (by decide +kernel) rfl rfl ?_
      refine wm_getr 6 5 2 _ 17 fl_RX6_19 (by decide +kernel) rfl ha0 rfl rfl (by decide) ?_
      refine wm_iload_n 2 18 (by decide +kernel) rfl rfl ?_
      obtain ⟨o2, H⟩ := H
      refine wm_aald 10 _ 19 (by decide +kernel) rfl (Or.inr (Or.inl ⟨(W_ln ha0).1, rfl⟩)) (W_ln ha0).2 o2 ?_
      refine wm_geti 0 8 22 fl_RX6_79 (by decide +kernel) rfl (E_ln (W_ln ha0).1 (vp_in_lt o2)) rfl ?_
      refine wm_iadd 23 (by decide +kernel) rfl ?_
      replace H := H _ rfl
      refine wm_istore_n 1 24 [some _, some _, some _] (by decide +kernel) rfl (by decide +kernel) (okS_spec rfl) rfl ?_
      replace H := H _ rfl
      refine wm_iinc 2 (_ + 1) 27 [some _, some _, some _] (by decide +kernel : decode cX6_allSent 24 = .ok (.iinc 2 1, 3)) rfl (by decide +kernel) rfl (ofI_eq (by decide +kernel)) (okS_spec rfl) rfl ?_
      refine wm_goto 4 (by decide +kernel : decode cX6_allSent 27 = .ok (.goto (-23), 3)) (by decide) ?_
      exact ih _ _ _ H
set_option maxRecDepth 20000 in
theorem l_X6_allSent (g : GE) (a0 : Nat) (ha0 : kd a0 = 6) (h : HP) (Q : Int32 → HP → Prop) (H : f_X6_allSent a0 h Q) : Wm g mX6_allSent 0 [some (.ref a0), none, none] [] h (qi Q) := by
  unfold f_X6_allSent at H
  refine wm_iconst 0 1 (by decide +kernel : decode cX6_allSent 0 = .ok (.iconst 0, 1)) rfl (by decide +kernel) ?_
  refine wm_istore_n 1 2 [some _, some _, none] (by decide +kernel) rfl (by decide +kernel) (okS_spec rfl) rfl ?_
  refine wm_iconst 0 3 (by decide +kernel : decode cX6_allSent 2 = .ok (.iconst 0, 1)) rfl (by decide +kernel) ?_
  refine wm_istore_n 2 4 [some _, some _, some _] (by decide +kernel) rfl (by decide +kernel) (okS_spec rfl) rfl ?_
  obtain ⟨n5, H⟩ := H
  refine l_X6_allSent_L4 g _ ha0 _  _ _ _ _ H
def f_X6_allRoom_L4 (a0 : Nat)  (Q : Int32 → HP → Prop) : Nat → Int32 → Int32 → HP → Prop
  | 0, _, _, _ => False
  | n + 1, x1, x2, h =>
    ((((gi h a0 3) ≤ x2) →
      Q x1 h) ∧
     (¬ ((gi h a0 3) ≤ x2) →
      vp_in x2 10 ∧
      f_X0_room ((a0 + 2) + 7 + 2 * ix x2) (gi h a0 0) h (fun v4 h3 =>
      ∀ x1_5 : Int32, x1_5 = (x1 + v4) →
      ∀ x2_6 : Int32, x2_6 = (x2 + 1) →
      f_X6_allRoom_L4 a0 Q n x1_5 x2_6 h3)))
def f_X6_allRoom (a0 : Nat) (h : HP) (Q : Int32 → HP → Prop) : Prop :=
  ∃ n7, f_X6_allRoom_L4 a0
    Q n7 0 0 h
set_option maxRecDepth 20000 in
theorem l_X6_allRoom_L4 (g : GE) (a0 : Nat) (ha0 : kd a0 = 6)  (Q : Int32 → HP → Prop)  : ∀ (n : Nat) (x1 : Int32) (x2 : Int32) (h : HP), f_X6_allRoom_L4 a0 Q n x1 x2 h → Wm g mX6_allRoom 4 [some (.ref a0), some (.int x1), some (.int x2)] [] h (qi Q) := by
  intro n
  induction n with
  | zero => intro x1 x2 h H; exact H.elim
  | succ n ih =>
    intro x1 x2 h H
    unfold f_X6_allRoom_L4 at H
    refine wm_iload_n 2 5 (by decide +kernel) rfl rfl ?_
    refine wm_aload_n 0 6 (by decide +kernel) rfl rfl ?_
    refine wm_geti 6 3 9 fl_RX6_35 (by decide +kernel) rfl ha0 rfl ?_
    refine wm_icmp_ge 12 34 (by decide +kernel : decode cX6_allRoom 9 = .ok (.if_icmp .ge 25, 3)) (by decide) rfl (fun c1 => ?_) (fun c1 => ?_)
    · replace H := H.1 c1
      refine wm_iload_n 1 35 (by decide +kernel) rfl rfl ?_
      exact wm_iret (by decide +kernel) ⟨.int, rfl, rfl⟩ H
    · replace H := H.2 c1
      refine wm_iload_n 1 13 (by decide +kernel) rfl rfl ?_
      refine wm_aload_n 0 14 (by decide +kernel) rfl rfl ?_
      refine wm_getr 6 5 2 _ 17 fl_RX6_19 (by decide +kernel) rfl ha0 rfl rfl (by decide) ?_
      refine wm_iload_n 2 18 (by decide +kernel) rfl rfl ?_
      obtain ⟨o2, H⟩ := H
      refine wm_aald 10 _ 19 (by decide +kernel) rfl (Or.inr (Or.inl ⟨(W_ln ha0).1, rfl⟩)) (W_ln ha0).2 o2 ?_
      refine wm_aload_n 0 20 (by decide +kernel) rfl rfl ?_
      refine wm_geti 6 0 23 fl_RX6_25 (by decide +kernel) rfl ha0 rfl ?_
      refine wm_callVi mX0_room 1 0 [_] [_] _ _ 26 mo_X0_room np_X0_room ml_RX6_92 im_X0_room se_X0_room (by decide +kernel) (by decide +kernel) rfl rfl rfl (Nat.le_of_ble_eq_true rfl) (E_ln (W_ln ha0).1 (vp_in_lt o2)) rfl (Nat.le_of_ble_eq_true rfl) _ (ent_pad 3 rfl) (l_X0_room g _ _ (E_ln (W_ln ha0).1 (vp_in_lt o2)) _ _ H) (fun v4 h3 H hzv4 => ?_)
      refine wm_iadd 27 (by decide +kernel) rfl ?_
      replace H := H _ rfl
      refine wm_istore_n 1 28 [some _, some _, some _] (by decide +kernel) rfl (by decide +kernel) (okS_spec rfl) rfl ?_
      replace H := H _ rfl
      refine wm_iinc 2 (_ + 1) 31 [some _, some _, some _] (by decide +kernel : decode cX6_allRoom 28 = .ok (.iinc 2 1, 3)) rfl (by decide +kernel) rfl (ofI_eq (by decide +kernel)) (okS_spec rfl) rfl ?_
      refine wm_goto 4 (by decide +kernel : decode cX6_allRoom 31 = .ok (.goto (-27), 3)) (by decide) ?_
      exact ih _ _ _ H
set_option maxRecDepth 20000 in
theorem l_X6_allRoom (g : GE) (a0 : Nat) (ha0 : kd a0 = 6) (h : HP) (Q : Int32 → HP → Prop) (H : f_X6_allRoom a0 h Q) : Wm g mX6_allRoom 0 [some (.ref a0), none, none] [] h (qi Q) := by
  unfold f_X6_allRoom at H
  refine wm_iconst 0 1 (by decide +kernel : decode cX6_allRoom 0 = .ok (.iconst 0, 1)) rfl (by decide +kernel) ?_
  refine wm_istore_n 1 2 [some _, some _, none] (by decide +kernel) rfl (by decide +kernel) (okS_spec rfl) rfl ?_
  refine wm_iconst 0 3 (by decide +kernel : decode cX6_allRoom 2 = .ok (.iconst 0, 1)) rfl (by decide +kernel) ?_
  refine wm_istore_n 2 4 [some _, some _, some _] (by decide +kernel) rfl (by decide +kernel) (okS_spec rfl) rfl ?_
  obtain ⟨n7, H⟩ := H
  refine l_X6_allRoom_L4 g _ ha0 _  _ _ _ _ H
def f_X6_losingStations_L4 (a0 : Nat)  (Q : Int32 → HP → Prop) : Nat → Int32 → Int32 → HP → Prop
  | 0, _, _, _ => False
  | n + 1, x1, x2, h =>
    ((((gi h a0 2) ≤ x2) →
      Q x1 h) ∧
     (¬ ((gi h a0 2) ≤ x2) →
      vp_in x2 6 ∧
      vp_in x2 6 ∧
      f_X3_holds ((a0 + 1) + 2 + ix x2) (gi h a0 0) h (fun v5 h4 =>
      ((((gi h ((a0 + 1) + 2 + ix x2) 1) ≤ v5) →
        ∀ x2_7 : Int32, x2_7 = (x2 + 1) →
        f_X6_losingStations_L4 a0 Q n x1 x2_7 h4) ∧
       (¬ ((gi h ((a0 + 1) + 2 + ix x2) 1) ≤ v5) →
        ∀ x1_8 : Int32, x1_8 = (x1 ||| (1 <<< (x2 &&& 31))) →
        ∀ x2_9 : Int32, x2_9 = (x2 + 1) →
        f_X6_losingStations_L4 a0 Q n x1_8 x2_9 h4)))))
def f_X6_losingStations (a0 : Nat) (h : HP) (Q : Int32 → HP → Prop) : Prop :=
  ∃ n10, f_X6_losingStations_L4 a0
    Q n10 0 0 h
set_option maxRecDepth 20000 in
theorem l_X6_losingStations_L4 (g : GE) (a0 : Nat) (ha0 : kd a0 = 6)  (Q : Int32 → HP → Prop)  : ∀ (n : Nat) (x1 : Int32) (x2 : Int32) (h : HP), f_X6_losingStations_L4 a0 Q n x1 x2 h → Wm g mX6_losingStations 4 [some (.ref a0), some (.int x1), some (.int x2)] [] h (qi Q) := by
  intro n
  induction n with
  | zero => intro x1 x2 h H; exact H.elim
  | succ n ih =>
    intro x1 x2 h H
    unfold f_X6_losingStations_L4 at H
    refine wm_iload_n 2 5 (by decide +kernel) rfl rfl ?_
    refine wm_aload_n 0 6 (by decide +kernel) rfl rfl ?_
    refine wm_geti 6 2 9 fl_RX6_32 (by decide +kernel) rfl ha0 rfl ?_
    refine wm_icmp_ge 12 49 (by decide +kernel : decode cX6_losingStations 9 = .ok (.if_icmp .ge 40, 3)) (by decide) rfl (fun c1 => ?_) (fun c1 => ?_)
    · replace H := H.1 c1
      refine wm_iload_n 1 50 (by decide +kernel) rfl rfl ?_
      exact wm_iret (by decide +kernel) ⟨.int, rfl, rfl⟩ H
    · replace H := H.2 c1
      refine wm_aload_n 0 13 (by decide +kernel) rfl rfl ?_
      refine wm_getr 6 4 1 _ 16 fl_RX6_11 (by decide +kernel) rfl ha0 rfl rfl (by decide) ?_
      refine wm_iload_n 2 17 (by decide +kernel) rfl rfl ?_
      obtain ⟨o2, H⟩ := H
      refine wm_aald 6 _ 18 (by decide +kernel) rfl (Or.inl ⟨(W_st ha0).1, rfl⟩) (W_st ha0).2 o2 ?_
      refine wm_geti 3 1 21 fl_RX6_56 (by decide +kernel) rfl (E_st (W_st ha0).1 (vp_in_lt o2)) rfl ?_
      refine wm_aload_n 0 22 (by decide +kernel) rfl rfl ?_
      refine wm_getr 6 4 1 _ 25 fl_RX6_11 (by decide +kernel) rfl ha0 rfl rfl (by decide) ?_
      refine wm_iload_n 2 26 (by decide +kernel) rfl rfl ?_
      obtain ⟨o3, H⟩ := H
      refine wm_aald 6 _ 27 (by decide +kernel) rfl (Or.inl ⟨(W_st ha0).1, rfl⟩) (W_st ha0).2 o3 ?_
      refine wm_aload_n 0 28 (by decide +kernel) rfl rfl ?_
      refine wm_geti 6 0 31 fl_RX6_25 (by decide +kernel) rfl ha0 rfl ?_
      refine wm_callVi mX3_holds 1 3 [_] [_] _ _ 34 mo_X3_holds np_X3_holds ml_RX6_100 im_X3_holds se_X3_holds (by decide +kernel) (by decide +kernel) rfl rfl rfl (Nat.le_of_ble_eq_true rfl) (E_st (W_st ha0).1 (vp_in_lt o3)) rfl (Nat.le_of_ble_eq_true rfl) _ (ent_pad 0 rfl) (l_X3_holds g _ _ (E_st (W_st ha0).1 (vp_in_lt o3)) _ _ H) (fun v5 h4 H hzv5 => ?_)
      refine wm_icmp_le 37 43 (by decide +kernel : decode cX6_losingStations 34 = .ok (.if_icmp .le 9, 3)) (by decide) rfl (fun c6 => ?_) (fun c6 => ?_)
      · replace H := H.1 c6
        replace H := H _ rfl
        refine wm_iinc 2 (_ + 1) 46 [some _, some _, some _] (by decide +kernel : decode cX6_losingStations 43 = .ok (.iinc 2 1, 3)) rfl (by decide +kernel) rfl (ofI_eq (by decide +kernel)) (okS_spec rfl) rfl ?_
        refine wm_goto 4 (by decide +kernel : decode cX6_losingStations 46 = .ok (.goto (-42), 3)) (by decide) ?_
        exact ih _ _ _ H
      · replace H := H.2 c6
        refine wm_iload_n 1 38 (by decide +kernel) rfl rfl ?_
        refine wm_iconst 1 39 (by decide +kernel : decode cX6_losingStations 38 = .ok (.iconst 1, 1)) rfl (by decide +kernel) ?_
        refine wm_iload_n 2 40 (by decide +kernel) rfl rfl ?_
        refine wm_ishl 41 (by decide +kernel) rfl ?_
        refine wm_ior 42 (by decide +kernel) rfl ?_
        replace H := H _ rfl
        refine wm_istore_n 1 43 [some _, some _, some _] (by decide +kernel) rfl (by decide +kernel) (okS_spec rfl) rfl ?_
        replace H := H _ rfl
        refine wm_iinc 2 (_ + 1) 46 [some _, some _, some _] (by decide +kernel : decode cX6_losingStations 43 = .ok (.iinc 2 1, 3)) rfl (by decide +kernel) rfl (ofI_eq (by decide +kernel)) (okS_spec rfl) rfl ?_
        refine wm_goto 4 (by decide +kernel : decode cX6_losingStations 46 = .ok (.goto (-42), 3)) (by decide) ?_
        exact ih _ _ _ H
set_option maxRecDepth 20000 in
theorem l_X6_losingStations (g : GE) (a0 : Nat) (ha0 : kd a0 = 6) (h : HP) (Q : Int32 → HP → Prop) (H : f_X6_losingStations a0 h Q) : Wm g mX6_losingStations 0 [some (.ref a0), none, none] [] h (qi Q) := by
  unfold f_X6_losingStations at H
  refine wm_iconst 0 1 (by decide +kernel : decode cX6_losingStations 0 = .ok (.iconst 0, 1)) rfl (by decide +kernel) ?_
  refine wm_istore_n 1 2 [some _, some _, none] (by decide +kernel) rfl (by decide +kernel) (okS_spec rfl) rfl ?_
  refine wm_iconst 0 3 (by decide +kernel : decode cX6_losingStations 2 = .ok (.iconst 0, 1)) rfl (by decide +kernel) ?_
  refine wm_istore_n 2 4 [some _, some _, some _] (by decide +kernel) rfl (by decide +kernel) (okS_spec rfl) rfl ?_
  obtain ⟨n10, H⟩ := H
  refine l_X6_losingStations_L4 g _ ha0 _  _ _ _ _ H
def f_X6_openLines_L4 (a0 : Nat)  (Q : Int32 → HP → Prop) : Nat → Int32 → Int32 → HP → Prop
  | 0, _, _, _ => False
  | n + 1, x1, x2, h =>
    ((((gi h a0 3) ≤ x2) →
      Q x1 h) ∧
     (¬ ((gi h a0 3) ≤ x2) →
      vp_in x2 10 ∧
      vp_in (gi h ((a0 + 2) + 7 + 2 * ix x2) 1) 6 ∧
      ((((gi h ((a0 + 1) + 2 + ix (gi h ((a0 + 2) + 7 + 2 * ix x2) 1)) 1) < 1) →
        ∀ x2_5 : Int32, x2_5 = (x2 + 1) →
        f_X6_openLines_L4 a0 Q n x1 x2_5 h) ∧
       (¬ ((gi h ((a0 + 1) + 2 + ix (gi h ((a0 + 2) + 7 + 2 * ix x2) 1)) 1) < 1) →
        f_X0_room ((a0 + 2) + 7 + 2 * ix x2) (gi h a0 0) h (fun v7 h6 =>
        (((v7 < ((gi h ((a0 + 2) + 7 + 2 * ix x2) 8) + 1)) →
          ∀ x2_9 : Int32, x2_9 = (x2 + 1) →
          f_X6_openLines_L4 a0 Q n x1 x2_9 h6) ∧
         (¬ (v7 < ((gi h ((a0 + 2) + 7 + 2 * ix x2) 8) + 1)) →
          ∀ x1_10 : Int32, x1_10 = (x1 ||| (1 <<< (x2 &&& 31))) →
          ∀ x2_11 : Int32, x2_11 = (x2 + 1) →
          f_X6_openLines_L4 a0 Q n x1_10 x2_11 h6)))))))
def f_X6_openLines (a0 : Nat) (h : HP) (Q : Int32 → HP → Prop) : Prop :=
  ∃ n12, f_X6_openLines_L4 a0
    Q n12 0 0 h
set_option maxRecDepth 20000 in
theorem l_X6_openLines_L4 (g : GE) (a0 : Nat) (ha0 : kd a0 = 6)  (Q : Int32 → HP → Prop)  : ∀ (n : Nat) (x1 : Int32) (x2 : Int32) (h : HP), f_X6_openLines_L4 a0 Q n x1 x2 h → Wm g mX6_openLines 4 [some (.ref a0), some (.int x1), some (.int x2), none] [] h (qi Q) := by
  intro n
  induction n with
  | zero => intro x1 x2 h H; exact H.elim
  | succ n ih =>
    intro x1 x2 h H
    unfold f_X6_openLines_L4 at H
    refine wm_iload_n 2 5 (by decide +kernel) rfl rfl ?_
    refine wm_aload_n 0 6 (by decide +kernel) rfl rfl ?_
    refine wm_geti 6 3 9 fl_RX6_35 (by decide +kernel) rfl ha0 rfl ?_
    refine wm_icmp_ge 12 64 (by decide +kernel : decode cX6_openLines 9 = .ok (.if_icmp .ge 55, 3)) (by decide) rfl (fun c1 => ?_) (fun c1 => ?_)
    · replace H := H.1 c1
      refine wm_iload_n 1 65 (by decide +kernel) rfl rfl ?_
      exact wm_iret (by decide +kernel) ⟨.int, rfl, rfl⟩ H
    · replace H := H.2 c1
      refine wm_aload_n 0 13 (by decide +kernel) rfl rfl ?_
      refine wm_getr 6 5 2 _ 16 fl_RX6_19 (by decide +kernel) rfl ha0 rfl rfl (by decide) ?_
      refine wm_iload_n 2 17 (by decide +kernel) rfl rfl ?_
      obtain ⟨o2, H⟩ := H
      refine wm_aald 10 _ 18 (by decide +kernel) rfl (Or.inr (Or.inl ⟨(W_ln ha0).1, rfl⟩)) (W_ln ha0).2 o2 ?_
      refine wm_astore_n 3 19 [some _, some _, some _, some _] (by decide +kernel) rfl (by decide +kernel) (okS_spec rfl) rfl ?_
      refine wm_aload_n 0 20 (by decide +kernel) rfl rfl ?_
      refine wm_getr 6 4 1 _ 23 fl_RX6_11 (by decide +kernel) rfl ha0 rfl rfl (by decide) ?_
      refine wm_aload_n 3 24 (by decide +kernel) rfl rfl ?_
      refine wm_geti 0 1 27 fl_RX6_63 (by decide +kernel) rfl (E_ln (W_ln ha0).1 (vp_in_lt o2)) rfl ?_
      obtain ⟨o3, H⟩ := H
      refine wm_aald 6 _ 28 (by decide +kernel) rfl (Or.inl ⟨(W_st ha0).1, rfl⟩) (W_st ha0).2 o3 ?_
      refine wm_geti 3 1 31 fl_RX6_56 (by decide +kernel) rfl (E_st (W_st ha0).1 (vp_in_lt o3)) rfl ?_
      refine wm_iconst 1 32 (by decide +kernel : decode cX6_openLines 31 = .ok (.iconst 1, 1)) rfl (by decide +kernel) ?_
      refine wm_icmp_lt 35 58 (by decide +kernel : decode cX6_openLines 32 = .ok (.if_icmp .lt 26, 3)) (by decide) rfl (fun c4 => ?_) (fun c4 => ?_)
      · replace H := H.1 c4
        replace H := H _ rfl
        refine wm_iinc 2 (_ + 1) 61 [some _, some _, some _, some _] (by decide +kernel : decode cX6_openLines 58 = .ok (.iinc 2 1, 3)) rfl (by decide +kernel) rfl (ofI_eq (by decide +kernel)) (okS_spec rfl) rfl ?_
        refine wm_goto 4 (by decide +kernel : decode cX6_openLines 61 = .ok (.goto (-57), 3)) (by decide) ?_
        refine wm_mask [true, true, true, false] [some _, some _, some _, none] rfl ?_
        exact ih _ _ _ H
      · replace H := H.2 c4
        refine wm_aload_n 3 36 (by decide +kernel) rfl rfl ?_
        refine wm_geti 0 8 39 fl_RX6_79 (by decide +kernel) rfl (E_ln (W_ln ha0).1 (vp_in_lt o2)) rfl ?_
        refine wm_iconst 1 40 (by decide +kernel : decode cX6_openLines 39 = .ok (.iconst 1, 1)) rfl (by decide +kernel) ?_
        refine wm_iadd 41 (by decide +kernel) rfl ?_
        refine wm_aload_n 3 42 (by decide +kernel) rfl rfl ?_
        refine wm_aload_n 0 43 (by decide +kernel) rfl rfl ?_
        refine wm_geti 6 0 46 fl_RX6_25 (by decide +kernel) rfl ha0 rfl ?_
        refine wm_callVi mX0_room 1 0 [_] [_] _ _ 49 mo_X0_room np_X0_room ml_RX6_92 im_X0_room se_X0_room (by decide +kernel) (by decide +kernel) rfl rfl rfl (Nat.le_of_ble_eq_true rfl) (E_ln (W_ln ha0).1 (vp_in_lt o2)) rfl (Nat.le_of_ble_eq_true rfl) _ (ent_pad 3 rfl) (l_X0_room g _ _ (E_ln (W_ln ha0).1 (vp_in_lt o2)) _ _ H) (fun v7 h6 H hzv7 => ?_)
        refine wm_icmp_gt 52 58 (by decide +kernel : decode cX6_openLines 49 = .ok (.if_icmp .gt 9, 3)) (by decide) rfl (fun c8 => ?_) (fun c8 => ?_)
        · replace H := H.1 c8
          replace H := H _ rfl
          refine wm_iinc 2 (_ + 1) 61 [some _, some _, some _, some _] (by decide +kernel : decode cX6_openLines 58 = .ok (.iinc 2 1, 3)) rfl (by decide +kernel) rfl (ofI_eq (by decide +kernel)) (okS_spec rfl) rfl ?_
          refine wm_goto 4 (by decide +kernel : decode cX6_openLines 61 = .ok (.goto (-57), 3)) (by decide) ?_
          refine wm_mask [true, true, true, false] [some _, some _, some _, none] rfl ?_
          exact ih _ _ _ H
        · replace H := H.2 c8
          refine wm_iload_n 1 53 (by decide +kernel) rfl rfl ?_
          refine wm_iconst 1 54 (by decide +kernel : decode cX6_openLines 53 = .ok (.iconst 1, 1)) rfl (by decide +kernel) ?_
          refine wm_iload_n 2 55 (by decide +kernel) rfl rfl ?_
          refine wm_ishl 56 (by decide +kernel) rfl ?_
          refine wm_ior 57 (by decide +kernel) rfl ?_
          replace H := H _ rfl
          refine wm_istore_n 1 58 [some _, some _, some _, some _] (by decide +kernel) rfl (by decide +kernel) (okS_spec rfl) rfl ?_
          replace H := H _ rfl
          refine wm_iinc 2 (_ + 1) 61 [some _, some _, some _, some _] (by decide +kernel : decode cX6_openLines 58 = .ok (.iinc 2 1, 3)) rfl (by decide +kernel) rfl (ofI_eq (by decide +kernel)) (okS_spec rfl) rfl ?_
          refine wm_goto 4 (by decide +kernel : decode cX6_openLines 61 = .ok (.goto (-57), 3)) (by decide) ?_
          refine wm_mask [true, true, true, false] [some _, some _, some _, none] rfl ?_
          exact ih _ _ _ H
set_option maxRecDepth 20000 in
theorem l_X6_openLines (g : GE) (a0 : Nat) (ha0 : kd a0 = 6) (h : HP) (Q : Int32 → HP → Prop) (H : f_X6_openLines a0 h Q) : Wm g mX6_openLines 0 [some (.ref a0), none, none, none] [] h (qi Q) := by
  unfold f_X6_openLines at H
  refine wm_iconst 0 1 (by decide +kernel : decode cX6_openLines 0 = .ok (.iconst 0, 1)) rfl (by decide +kernel) ?_
  refine wm_istore_n 1 2 [some _, some _, none, none] (by decide +kernel) rfl (by decide +kernel) (okS_spec rfl) rfl ?_
  refine wm_iconst 0 3 (by decide +kernel : decode cX6_openLines 2 = .ok (.iconst 0, 1)) rfl (by decide +kernel) ?_
  refine wm_istore_n 2 4 [some _, some _, some _, none] (by decide +kernel) rfl (by decide +kernel) (okS_spec rfl) rfl ?_
  obtain ⟨n12, H⟩ := H
  refine l_X6_openLines_L4 g _ ha0 _  _ _ _ _ H
def f_X6_comingTo_L4 (a0 : Nat) (x1 : Int32)  (Q : Int32 → HP → Prop) : Nat → Int32 → Int32 → HP → Prop
  | 0, _, _, _ => False
  | n + 1, x2, x3, h =>
    ((((gi h a0 3) ≤ x3) →
      Q x2 h) ∧
     (¬ ((gi h a0 3) ≤ x3) →
      vp_in x3 10 ∧
      ((((gi h ((a0 + 2) + 7 + 2 * ix x3) 2) = x1) →
        vp_in x3 10 ∧
        f_X0_underWay ((a0 + 2) + 7 + 2 * ix x3) h (fun v7 h6 =>
        ∀ x2_8 : Int32, x2_8 = (x2 + v7) →
        ∀ x3_9 : Int32, x3_9 = (x3 + 1) →
        f_X6_comingTo_L4 a0 x1 Q n x2_8 x3_9 h6)) ∧
       (¬ ((gi h ((a0 + 2) + 7 + 2 * ix x3) 2) = x1) →
        ∀ x3_4 : Int32, x3_4 = (x3 + 1) →
        f_X6_comingTo_L4 a0 x1 Q n x2 x3_4 h))))
def f_X6_comingTo (a0 : Nat) (x1 : Int32) (h : HP) (Q : Int32 → HP → Prop) : Prop :=
  ∃ n10, f_X6_comingTo_L4 a0 x1
    Q n10 0 0 h
set_option maxRecDepth 20000 in
theorem l_X6_comingTo_L4 (g : GE) (a0 : Nat) (x1 : Int32) (ha0 : kd a0 = 6)  (Q : Int32 → HP → Prop)  : ∀ (n : Nat) (x2 : Int32) (x3 : Int32) (h : HP), f_X6_comingTo_L4 a0 x1 Q n x2 x3 h → Wm g mX6_comingTo 4 [some (.ref a0), some (.int x1), some (.int x2), some (.int x3)] [] h (qi Q) := by
  intro n
  induction n with
  | zero => intro x2 x3 h H; exact H.elim
  | succ n ih =>
    intro x2 x3 h H
    unfold f_X6_comingTo_L4 at H
    refine wm_iload_n 3 5 (by decide +kernel) rfl rfl ?_
    refine wm_aload_n 0 6 (by decide +kernel) rfl rfl ?_
    refine wm_geti 6 3 9 fl_RX6_35 (by decide +kernel) rfl ha0 rfl ?_
    refine wm_icmp_ge 12 43 (by decide +kernel : decode cX6_comingTo 9 = .ok (.if_icmp .ge 34, 3)) (by decide) rfl (fun c1 => ?_) (fun c1 => ?_)
    · replace H := H.1 c1
      refine wm_iload_n 2 44 (by decide +kernel) rfl rfl ?_
      exact wm_iret (by decide +kernel) ⟨.int, rfl, rfl⟩ H
    · replace H := H.2 c1
      refine wm_aload_n 0 13 (by decide +kernel) rfl rfl ?_
      refine wm_getr 6 5 2 _ 16 fl_RX6_19 (by decide +kernel) rfl ha0 rfl rfl (by decide) ?_
      refine wm_iload_n 3 17 (by decide +kernel) rfl rfl ?_
      obtain ⟨o2, H⟩ := H
      refine wm_aald 10 _ 18 (by decide +kernel) rfl (Or.inr (Or.inl ⟨(W_ln ha0).1, rfl⟩)) (W_ln ha0).2 o2 ?_
      refine wm_geti 0 2 21 fl_RX6_66 (by decide +kernel) rfl (E_ln (W_ln ha0).1 (vp_in_lt o2)) rfl ?_
      refine wm_iload_n 1 22 (by decide +kernel) rfl rfl ?_
      refine wm_icmp_ne 25 37 (by decide +kernel : decode cX6_comingTo 22 = .ok (.if_icmp .ne 15, 3)) (by decide) rfl (fun c3 => ?_) (fun c3 => ?_)
      · replace H := H.2 c3
        replace H := H _ rfl
        refine wm_iinc 3 (_ + 1) 40 [some _, some _, some _, some _] (by decide +kernel : decode cX6_comingTo 37 = .ok (.iinc 3 1, 3)) rfl (by decide +kernel) rfl (ofI_eq (by decide +kernel)) (okS_spec rfl) rfl ?_
        refine wm_goto 4 (by decide +kernel : decode cX6_comingTo 40 = .ok (.goto (-36), 3)) (by decide) ?_
        exact ih _ _ _ H
      · replace H := H.1 c3
        refine wm_iload_n 2 26 (by decide +kernel) rfl rfl ?_
        refine wm_aload_n 0 27 (by decide +kernel) rfl rfl ?_
        refine wm_getr 6 5 2 _ 30 fl_RX6_19 (by decide +kernel) rfl ha0 rfl rfl (by decide) ?_
        refine wm_iload_n 3 31 (by decide +kernel) rfl rfl ?_
        obtain ⟨o5, H⟩ := H
        refine wm_aald 10 _ 32 (by decide +kernel) rfl (Or.inr (Or.inl ⟨(W_ln ha0).1, rfl⟩)) (W_ln ha0).2 o5 ?_
        refine wm_callVi mX0_underWay 0 0 [] [_] _ _ 35 mo_X0_underWay np_X0_underWay ml_RX6_119 im_X0_underWay se_X0_underWay (by decide +kernel) (by decide +kernel) rfl rfl rfl (Nat.le_of_ble_eq_true rfl) (E_ln (W_ln ha0).1 (vp_in_lt o5)) rfl (Nat.le_of_ble_eq_true rfl) _ (ent_pad 2 rfl) (l_X0_underWay g _ (E_ln (W_ln ha0).1 (vp_in_lt o5)) _ _ H) (fun v7 h6 H hzv7 => ?_)
        refine wm_iadd 36 (by decide +kernel) rfl ?_
        replace H := H _ rfl
        refine wm_istore_n 2 37 [some _, some _, some _, some _] (by decide +kernel) rfl (by decide +kernel) (okS_spec rfl) rfl ?_
        replace H := H _ rfl
        refine wm_iinc 3 (_ + 1) 40 [some _, some _, some _, some _] (by decide +kernel : decode cX6_comingTo 37 = .ok (.iinc 3 1, 3)) rfl (by decide +kernel) rfl (ofI_eq (by decide +kernel)) (okS_spec rfl) rfl ?_
        refine wm_goto 4 (by decide +kernel : decode cX6_comingTo 40 = .ok (.goto (-36), 3)) (by decide) ?_
        exact ih _ _ _ H
set_option maxRecDepth 20000 in
theorem l_X6_comingTo (g : GE) (a0 : Nat) (x1 : Int32) (ha0 : kd a0 = 6) (h : HP) (Q : Int32 → HP → Prop) (H : f_X6_comingTo a0 x1 h Q) : Wm g mX6_comingTo 0 [some (.ref a0), some (.int x1), none, none] [] h (qi Q) := by
  unfold f_X6_comingTo at H
  refine wm_iconst 0 1 (by decide +kernel : decode cX6_comingTo 0 = .ok (.iconst 0, 1)) rfl (by decide +kernel) ?_
  refine wm_istore_n 2 2 [some _, some _, some _, none] (by decide +kernel) rfl (by decide +kernel) (okS_spec rfl) rfl ?_
  refine wm_iconst 0 3 (by decide +kernel : decode cX6_comingTo 2 = .ok (.iconst 0, 1)) rfl (by decide +kernel) ?_
  refine wm_istore_n 3 4 [some _, some _, some _, some _] (by decide +kernel) rfl (by decide +kernel) (okS_spec rfl) rfl ?_
  obtain ⟨n10, H⟩ := H
  refine l_X6_comingTo_L4 g _ _ ha0 _  _ _ _ _ H
def f_X6_costOutside_L26 (a0 : Nat) (a1 : Nat) (x2 : Int32) (x4 : Int32) (x5 : Int32) (k56 : Int32 → HP → Prop) (Q : Int32 → HP → Prop) : Nat → Int32 → Int32 → HP → Prop
  | 0, _, _, _ => False
  | n + 1, x3, x6, h =>
    (((x2 < x6) →
      k56 x3 h) ∧
     (¬ (x2 < x6) →
      (((x5 ≤ x6) →
        k56 x3 h) ∧
       (¬ (x5 ≤ x6) →
        f_X6_supply a0 x4 x6 h (fun v7 h6 =>
        ∀ x3_8 : Int32, x3_8 = (x3 + v7) →
        ∀ x6_9 : Int32, x6_9 = (x6 + 1) →
        f_X6_costOutside_L26 a0 a1 x2 x4 x5 k56 Q n x3_8 x6_9 h6)))))
def f_X6_costOutside_L5 (a0 : Nat) (a1 : Nat) (x2 : Int32)  (Q : Int32 → HP → Prop) : Nat → Int32 → Int32 → HP → Prop
  | 0, _, _, _ => False
  | n + 1, x3, x4, h =>
    ((((gi h a0 2) ≤ x4) →
      Q x3 h) ∧
     (¬ ((gi h a0 2) ≤ x4) →
      f_X2_entry a1 x4 x2 h (fun v3 h2 =>
      ∃ n13, f_X6_costOutside_L26 a0 a1 x2 x4 v3
        (fun x3_10 h11 =>
          ∀ x4_12 : Int32, x4_12 = (x4 + 1) →
          f_X6_costOutside_L5 a0 a1 x2 Q n x3_10 x4_12 h11)
        Q n13 x3 0 h2)))
def f_X6_costOutside (a0 : Nat) (a1 : Nat) (x2 : Int32) (h : HP) (Q : Int32 → HP → Prop) : Prop :=
  ∃ n14, f_X6_costOutside_L5 a0 a1 x2
    Q n14 0 0 h
set_option maxRecDepth 20000 in
theorem l_X6_costOutside_L26 (g : GE) (a0 : Nat) (a1 : Nat) (x2 : Int32) (x4 : Int32) (x5 : Int32) (ha0 : kd a0 = 6) (ha1 : kd a1 = 2) (k56 : Int32 → HP → Prop) (Q : Int32 → HP → Prop) (hk56 : ∀ (x3 : Int32) (h : HP), k56 x3 h → Wm g mX6_costOutside 56 [some (.ref a0), some (.ref a1), some (.int x2), some (.int x3), some (.int x4), none, none] [] h (qi Q)) : ∀ (n : Nat) (x3 : Int32) (x6 : Int32) (h : HP), f_X6_costOutside_L26 a0 a1 x2 x4 x5 k56 Q n x3 x6 h → Wm g mX6_costOutside 26 [some (.ref a0), some (.ref a1), some (.int x2), some (.int x3), some (.int x4), some (.int x5), some (.int x6)] [] h (qi Q) := by
  intro n
  induction n with
  | zero => intro x3 x6 h H; exact H.elim
  | succ n ih =>
    intro x3 x6 h H
    unfold f_X6_costOutside_L26 at H
    refine wm_iload 6 28 (by decide +kernel) rfl rfl ?_
    refine wm_iload_n 2 29 (by decide +kernel) rfl rfl ?_
    refine wm_icmp_gt 32 56 (by decide +kernel : decode cX6_costOutside 29 = .ok (.if_icmp .gt 27, 3)) (by decide) rfl (fun c4 => ?_) (fun c4 => ?_)
    · replace H := H.1 c4
      refine wm_mask [true, true, true, true, true, false, false] [some _, some _, some _, some _, some _, none, none] rfl ?_
      exact hk56 _ _ H
    · replace H := H.2 c4
      refine wm_iload 6 34 (by decide +kernel) rfl rfl ?_
      refine wm_iload 5 36 (by decide +kernel) rfl rfl ?_
      refine wm_icmp_ge 39 56 (by decide +kernel : decode cX6_costOutside 36 = .ok (.if_icmp .ge 20, 3)) (by decide) rfl (fun c5 => ?_) (fun c5 => ?_)
      · replace H := H.1 c5
        refine wm_mask [true, true, true, true, true, false, false] [some _, some _, some _, some _, some _, none, none] rfl ?_
        exact hk56 _ _ H
      · replace H := H.2 c5
        refine wm_iload_n 3 40 (by decide +kernel) rfl rfl ?_
        refine wm_aload_n 0 41 (by decide +kernel) rfl rfl ?_
        refine wm_iload 4 43 (by decide +kernel) rfl rfl ?_
        refine wm_iload 6 45 (by decide +kernel) rfl rfl ?_
        refine wm_callVi mX6_supply 2 6 [_, _] [_] _ _ 48 mo_X6_supply np_X6_supply ml_RX6_140 im_X6_supply se_X6_supply (by decide +kernel) (by decide +kernel) rfl rfl rfl (Nat.le_of_ble_eq_true rfl) ha0 rfl (Nat.le_of_ble_eq_true rfl) _ (ent_pad 2 rfl) (l_X6_supply g _ _ _ ha0 _ _ H) (fun v7 h6 H hzv7 => ?_)
        refine wm_iadd 49 (by decide +kernel) rfl ?_
        replace H := H _ rfl
        refine wm_istore_n 3 50 [some _, some _, some _, some _, some _, some _, some _] (by decide +kernel) rfl (by decide +kernel) (okS_spec rfl) rfl ?_
        replace H := H _ rfl
        refine wm_iinc 6 (_ + 1) 53 [some _, some _, some _, some _, some _, some _, some _] (by decide +kernel : decode cX6_costOutside 50 = .ok (.iinc 6 1, 3)) rfl (by decide +kernel) rfl (ofI_eq (by decide +kernel)) (okS_spec rfl) rfl ?_
        refine wm_goto 26 (by decide +kernel : decode cX6_costOutside 53 = .ok (.goto (-27), 3)) (by decide) ?_
        exact ih _ _ _ H
set_option maxRecDepth 20000 in
theorem l_X6_costOutside_L5 (g : GE) (a0 : Nat) (a1 : Nat) (x2 : Int32) (ha0 : kd a0 = 6) (ha1 : kd a1 = 2)  (Q : Int32 → HP → Prop)  : ∀ (n : Nat) (x3 : Int32) (x4 : Int32) (h : HP), f_X6_costOutside_L5 a0 a1 x2 Q n x3 x4 h → Wm g mX6_costOutside 5 [some (.ref a0), some (.ref a1), some (.int x2), some (.int x3), some (.int x4), none, none] [] h (qi Q) := by
  intro n
  induction n with
  | zero => intro x3 x4 h H; exact H.elim
  | succ n ih =>
    intro x3 x4 h H
    unfold f_X6_costOutside_L5 at H
    refine wm_iload 4 7 (by decide +kernel) rfl rfl ?_
    refine wm_aload_n 0 8 (by decide +kernel) rfl rfl ?_
    refine wm_geti 6 2 11 fl_RX6_32 (by decide +kernel) rfl ha0 rfl ?_
    refine wm_icmp_ge 14 62 (by decide +kernel : decode cX6_costOutside 11 = .ok (.if_icmp .ge 51, 3)) (by decide) rfl (fun c1 => ?_) (fun c1 => ?_)
    · replace H := H.1 c1
      refine wm_iload_n 3 63 (by decide +kernel) rfl rfl ?_
      exact wm_iret (by decide +kernel) ⟨.int, rfl, rfl⟩ H
    · replace H := H.2 c1
      refine wm_aload_n 1 15 (by decide +kernel) rfl rfl ?_
      refine wm_iload 4 17 (by decide +kernel) rfl rfl ?_
      refine wm_iload_n 2 18 (by decide +kernel) rfl rfl ?_
      refine wm_callVi mX2_entry 2 2 [_, _] [] _ _ 21 mo_X2_entry np_X2_entry ml_RX6_137 im_X2_entry se_X2_entry (by decide +kernel) (by decide +kernel) rfl rfl rfl (Nat.le_of_ble_eq_true rfl) ha1 rfl (Nat.le_of_ble_eq_true rfl) _ (ent_pad 0 rfl) (l_X2_entry g _ _ _ ha1 _ _ H) (fun v3 h2 H hzv3 => ?_)
      refine wm_istore 5 23 [some _, some _, some _, some _, some _, some _, none] (by decide +kernel) rfl (by decide +kernel) (okS_spec rfl) rfl ?_
      refine wm_iconst 0 24 (by decide +kernel : decode cX6_costOutside 23 = .ok (.iconst 0, 1)) rfl (by decide +kernel) ?_
      refine wm_istore 6 26 [some _, some _, some _, some _, some _, some _, some _] (by decide +kernel) rfl (by decide +kernel) (okS_spec rfl) rfl ?_
      obtain ⟨n13, H⟩ := H
      refine l_X6_costOutside_L26 g _ _ _ _ _ ha0 ha1 _ _ (fun x3_10 h11 H => ?_) _ _ _ _ H
      · skip
        replace H := H _ rfl
        refine wm_iinc 4 (_ + 1) 59 [some _, some _, some _, some _, some _, none, none] (by decide +kernel : decode cX6_costOutside 56 = .ok (.iinc 4 1, 3)) rfl (by decide +kernel) rfl (ofI_eq (by decide +kernel)) (okS_spec rfl) rfl ?_
        refine wm_goto 5 (by decide +kernel : decode cX6_costOutside 59 = .ok (.goto (-54), 3)) (by decide) ?_
        exact ih _ _ _ H
set_option maxRecDepth 20000 in
theorem l_X6_costOutside (g : GE) (a0 : Nat) (a1 : Nat) (x2 : Int32) (ha0 : kd a0 = 6) (ha1 : kd a1 = 2) (h : HP) (Q : Int32 → HP → Prop) (H : f_X6_costOutside a0 a1 x2 h Q) : Wm g mX6_costOutside 0 [some (.ref a0), some (.ref a1), some (.int x2), none, none, none, none] [] h (qi Q) := by
  unfold f_X6_costOutside at H
  refine wm_iconst 0 1 (by decide +kernel : decode cX6_costOutside 0 = .ok (.iconst 0, 1)) rfl (by decide +kernel) ?_
  refine wm_istore_n 3 2 [some _, some _, some _, some _, none, none, none] (by decide +kernel) rfl (by decide +kernel) (okS_spec rfl) rfl ?_
  refine wm_iconst 0 3 (by decide +kernel : decode cX6_costOutside 2 = .ok (.iconst 0, 1)) rfl (by decide +kernel) ?_
  refine wm_istore 4 5 [some _, some _, some _, some _, some _, none, none] (by decide +kernel) rfl (by decide +kernel) (okS_spec rfl) rfl ?_
  obtain ⟨n14, H⟩ := H
  refine l_X6_costOutside_L5 g _ _ _ ha0 ha1 _  _ _ _ _ H
def f_X6_costOfLines_L60 (a0 : Nat) (a1 : Nat) (x2 : Int32) (x4 : Int32) (x5 : Int32) (x6 : Int32) (k89 : Int32 → HP → Prop) (Q : Int32 → HP → Prop) : Nat → Int32 → Int32 → HP → Prop
  | 0, _, _, _ => False
  | n + 1, x3, x7, h =>
    (((x6 ≤ (x7 + x5)) →
      k89 x3 h) ∧
     (¬ (x6 ≤ (x7 + x5)) →
      f_X6_roomAhead a0 x4 x7 2147483647 h (fun v13 h12 =>
      ∀ x3_14 : Int32, x3_14 = (x3 + v13) →
      ∀ x7_15 : Int32, x7_15 = (x7 + 1) →
      f_X6_costOfLines_L60 a0 a1 x2 x4 x5 x6 k89 Q n x3_14 x7_15 h12)))
def f_X6_costOfLines_L5 (a0 : Nat) (a1 : Nat) (x2 : Int32)  (Q : Int32 → HP → Prop) : Nat → Int32 → Int32 → HP → Prop
  | 0, _, _, _ => False
  | n + 1, x3, x4, h =>
    ((((gi h a0 3) ≤ x4) →
      Q x3 h) ∧
     (¬ ((gi h a0 3) ≤ x4) →
      vp_in x4 10 ∧
      f_X0_takes ((a0 + 2) + 7 + 2 * ix x4) h (fun v4 h3 =>
      vp_in x4 10 ∧
      f_X2_entry a1 (gi h3 ((a0 + 2) + 7 + 2 * ix x4) 2) x2 h3 (fun v7 h6 =>
      vp_in x4 10 ∧
      f_X2_entry a1 (gi h6 ((a0 + 2) + 7 + 2 * ix x4) 1) x2 h6 (fun v10 h9 =>
      ∃ n19, f_X6_costOfLines_L60 a0 a1 x2 x4 v4 v7
        (fun x3_16 h17 =>
          ∀ x4_18 : Int32, x4_18 = (x4 + 1) →
          f_X6_costOfLines_L5 a0 a1 x2 Q n x3_16 x4_18 h17)
        Q n19 x3 v10 h9)))))
def f_X6_costOfLines (a0 : Nat) (a1 : Nat) (x2 : Int32) (h : HP) (Q : Int32 → HP → Prop) : Prop :=
  ∃ n20, f_X6_costOfLines_L5 a0 a1 x2
    Q n20 0 0 h
set_option maxRecDepth 20000 in
theorem l_X6_costOfLines_L60 (g : GE) (a0 : Nat) (a1 : Nat) (x2 : Int32) (x4 : Int32) (x5 : Int32) (x6 : Int32) (ha0 : kd a0 = 6) (ha1 : kd a1 = 2) (k89 : Int32 → HP → Prop) (Q : Int32 → HP → Prop) (hk89 : ∀ (x3 : Int32) (h : HP), k89 x3 h → Wm g mX6_costOfLines 89 [some (.ref a0), some (.ref a1), some (.int x2), some (.int x3), some (.int x4), none, none, none] [] h (qi Q)) : ∀ (n : Nat) (x3 : Int32) (x7 : Int32) (h : HP), f_X6_costOfLines_L60 a0 a1 x2 x4 x5 x6 k89 Q n x3 x7 h → Wm g mX6_costOfLines 60 [some (.ref a0), some (.ref a1), some (.int x2), some (.int x3), some (.int x4), some (.int x5), some (.int x6), some (.int x7)] [] h (qi Q) := by
  intro n
  induction n with
  | zero => intro x3 x7 h H; exact H.elim
  | succ n ih =>
    intro x3 x7 h H
    unfold f_X6_costOfLines_L60 at H
    refine wm_iload 7 62 (by decide +kernel) rfl rfl ?_
    refine wm_iload 5 64 (by decide +kernel) rfl rfl ?_
    refine wm_iadd 65 (by decide +kernel) rfl ?_
    refine wm_iload 6 67 (by decide +kernel) rfl rfl ?_
    refine wm_icmp_ge 70 89 (by decide +kernel : decode cX6_costOfLines 67 = .ok (.if_icmp .ge 22, 3)) (by decide) rfl (fun c11 => ?_) (fun c11 => ?_)
    · replace H := H.1 c11
      refine wm_mask [true, true, true, true, true, false, false, false] [some _, some _, some _, some _, some _, none, none, none] rfl ?_
      exact hk89 _ _ H
    · replace H := H.2 c11
      refine wm_iload_n 3 71 (by decide +kernel) rfl rfl ?_
      refine wm_aload_n 0 72 (by decide +kernel) rfl rfl ?_
      refine wm_iload 4 74 (by decide +kernel) rfl rfl ?_
      refine wm_iload 7 76 (by decide +kernel) rfl rfl ?_
      refine wm_ldc 2147483647 78 co_RX6_143 (by decide +kernel) rfl ?_
      refine wm_callVi mX6_roomAhead 3 6 [_, _, _] [_] _ _ 81 mo_X6_roomAhead np_X6_roomAhead ml_RX6_144 im_X6_roomAhead se_X6_roomAhead (by decide +kernel) (by decide +kernel) rfl rfl rfl (Nat.le_of_ble_eq_true rfl) ha0 rfl (Nat.le_of_ble_eq_true rfl) _ (ent_pad 1 rfl) (l_X6_roomAhead g _ _ _ _ ha0 _ _ H) (fun v13 h12 H hzv13 => ?_)
      refine wm_iadd 82 (by decide +kernel) rfl ?_
      replace H := H _ rfl
      refine wm_istore_n 3 83 [some _, some _, some _, some _, some _, some _, some _, some _] (by decide +kernel) rfl (by decide +kernel) (okS_spec rfl) rfl ?_
      replace H := H _ rfl
      refine wm_iinc 7 (_ + 1) 86 [some _, some _, some _, some _, some _, some _, some _, some _] (by decide +kernel : decode cX6_costOfLines 83 = .ok (.iinc 7 1, 3)) rfl (by decide +kernel) rfl (ofI_eq (by decide +kernel)) (okS_spec rfl) rfl ?_
      refine wm_goto 60 (by decide +kernel : decode cX6_costOfLines 86 = .ok (.goto (-26), 3)) (by decide) ?_
      exact ih _ _ _ H
set_option maxRecDepth 20000 in
theorem l_X6_costOfLines_L5 (g : GE) (a0 : Nat) (a1 : Nat) (x2 : Int32) (ha0 : kd a0 = 6) (ha1 : kd a1 = 2)  (Q : Int32 → HP → Prop)  : ∀ (n : Nat) (x3 : Int32) (x4 : Int32) (h : HP), f_X6_costOfLines_L5 a0 a1 x2 Q n x3 x4 h → Wm g mX6_costOfLines 5 [some (.ref a0), some (.ref a1), some (.int x2), some (.int x3), some (.int x4), none, none, none] [] h (qi Q) := by
  intro n
  induction n with
  | zero => intro x3 x4 h H; exact H.elim
  | succ n ih =>
    intro x3 x4 h H
    unfold f_X6_costOfLines_L5 at H
    refine wm_iload 4 7 (by decide +kernel) rfl rfl ?_
    refine wm_aload_n 0 8 (by decide +kernel) rfl rfl ?_
    refine wm_geti 6 3 11 fl_RX6_35 (by decide +kernel) rfl ha0 rfl ?_
    refine wm_icmp_ge 14 95 (by decide +kernel : decode cX6_costOfLines 11 = .ok (.if_icmp .ge 84, 3)) (by decide) rfl (fun c1 => ?_) (fun c1 => ?_)
    · replace H := H.1 c1
      refine wm_iload_n 3 96 (by decide +kernel) rfl rfl ?_
      exact wm_iret (by decide +kernel) ⟨.int, rfl, rfl⟩ H
    · replace H := H.2 c1
      refine wm_aload_n 0 15 (by decide +kernel) rfl rfl ?_
      refine wm_getr 6 5 2 _ 18 fl_RX6_19 (by decide +kernel) rfl ha0 rfl rfl (by decide) ?_
      refine wm_iload 4 20 (by decide +kernel) rfl rfl ?_
      obtain ⟨o2, H⟩ := H
      refine wm_aald 10 _ 21 (by decide +kernel) rfl (Or.inr (Or.inl ⟨(W_ln ha0).1, rfl⟩)) (W_ln ha0).2 o2 ?_
      refine wm_callVi mX0_takes 0 0 [] [] _ _ 24 mo_X0_takes np_X0_takes ml_RX6_96 im_X0_takes se_X0_takes (by decide +kernel) (by decide +kernel) rfl rfl rfl (Nat.le_of_ble_eq_true rfl) (E_ln (W_ln ha0).1 (vp_in_lt o2)) rfl (Nat.le_of_ble_eq_true rfl) _ (ent_pad 0 rfl) (l_X0_takes g _ (E_ln (W_ln ha0).1 (vp_in_lt o2)) _ _ H) (fun v4 h3 H hzv4 => ?_)
      refine wm_istore 5 26 [some _, some _, some _, some _, some _, some _, none, none] (by decide +kernel) rfl (by decide +kernel) (okS_spec rfl) rfl ?_
      refine wm_aload_n 1 27 (by decide +kernel) rfl rfl ?_
      refine wm_aload_n 0 28 (by decide +kernel) rfl rfl ?_
      refine wm_getr 6 5 2 _ 31 fl_RX6_19 (by decide +kernel) rfl ha0 rfl rfl (by decide) ?_
      refine wm_iload 4 33 (by decide +kernel) rfl rfl ?_
      obtain ⟨o5, H⟩ := H
      refine wm_aald 10 _ 34 (by decide +kernel) rfl (Or.inr (Or.inl ⟨(W_ln ha0).1, rfl⟩)) (W_ln ha0).2 o5 ?_
      refine wm_geti 0 2 37 fl_RX6_66 (by decide +kernel) rfl (E_ln (W_ln ha0).1 (vp_in_lt o5)) rfl ?_
      refine wm_iload_n 2 38 (by decide +kernel) rfl rfl ?_
      refine wm_callVi mX2_entry 2 2 [_, _] [] _ _ 41 mo_X2_entry np_X2_entry ml_RX6_137 im_X2_entry se_X2_entry (by decide +kernel) (by decide +kernel) rfl rfl rfl (Nat.le_of_ble_eq_true rfl) ha1 rfl (Nat.le_of_ble_eq_true rfl) _ (ent_pad 0 rfl) (l_X2_entry g _ _ _ ha1 _ _ H) (fun v7 h6 H hzv7 => ?_)
      refine wm_istore 6 43 [some _, some _, some _, some _, some _, some _, some _, none] (by decide +kernel) rfl (by decide +kernel) (okS_spec rfl) rfl ?_
      refine wm_aload_n 1 44 (by decide +kernel) rfl rfl ?_
      refine wm_aload_n 0 45 (by decide +kernel) rfl rfl ?_
      refine wm_getr 6 5 2 _ 48 fl_RX6_19 (by decide +kernel) rfl ha0 rfl rfl (by decide) ?_
      refine wm_iload 4 50 (by decide +kernel) rfl rfl ?_
      obtain ⟨o8, H⟩ := H
      refine wm_aald 10 _ 51 (by decide +kernel) rfl (Or.inr (Or.inl ⟨(W_ln ha0).1, rfl⟩)) (W_ln ha0).2 o8 ?_
      refine wm_geti 0 1 54 fl_RX6_63 (by decide +kernel) rfl (E_ln (W_ln ha0).1 (vp_in_lt o8)) rfl ?_
      refine wm_iload_n 2 55 (by decide +kernel) rfl rfl ?_
      refine wm_callVi mX2_entry 2 2 [_, _] [] _ _ 58 mo_X2_entry np_X2_entry ml_RX6_137 im_X2_entry se_X2_entry (by decide +kernel) (by decide +kernel) rfl rfl rfl (Nat.le_of_ble_eq_true rfl) ha1 rfl (Nat.le_of_ble_eq_true rfl) _ (ent_pad 0 rfl) (l_X2_entry g _ _ _ ha1 _ _ H) (fun v10 h9 H hzv10 => ?_)
      refine wm_istore 7 60 [some _, some _, some _, some _, some _, some _, some _, some _] (by decide +kernel) rfl (by decide +kernel) (okS_spec rfl) rfl ?_
      obtain ⟨n19, H⟩ := H
      refine l_X6_costOfLines_L60 g _ _ _ _ _ _ ha0 ha1 _ _ (fun x3_16 h17 H => ?_) _ _ _ _ H
      · skip
        replace H := H _ rfl
        refine wm_iinc 4 (_ + 1) 92 [some _, some _, some _, some _, some _, none, none, none] (by decide +kernel : decode cX6_costOfLines 89 = .ok (.iinc 4 1, 3)) rfl (by decide +kernel) rfl (ofI_eq (by decide +kernel)) (okS_spec rfl) rfl ?_
        refine wm_goto 5 (by decide +kernel : decode cX6_costOfLines 92 = .ok (.goto (-87), 3)) (by decide) ?_
        exact ih _ _ _ H
set_option maxRecDepth 20000 in
theorem l_X6_costOfLines (g : GE) (a0 : Nat) (a1 : Nat) (x2 : Int32) (ha0 : kd a0 = 6) (ha1 : kd a1 = 2) (h : HP) (Q : Int32 → HP → Prop) (H : f_X6_costOfLines a0 a1 x2 h Q) : Wm g mX6_costOfLines 0 [some (.ref a0), some (.ref a1), some (.int x2), none, none, none, none, none] [] h (qi Q) := by
  unfold f_X6_costOfLines at H
  refine wm_iconst 0 1 (by decide +kernel : decode cX6_costOfLines 0 = .ok (.iconst 0, 1)) rfl (by decide +kernel) ?_
  refine wm_istore_n 3 2 [some _, some _, some _, some _, none, none, none, none] (by decide +kernel) rfl (by decide +kernel) (okS_spec rfl) rfl ?_
  refine wm_iconst 0 3 (by decide +kernel : decode cX6_costOfLines 2 = .ok (.iconst 0, 1)) rfl (by decide +kernel) ?_
  refine wm_istore 4 5 [some _, some _, some _, some _, some _, none, none, none] (by decide +kernel) rfl (by decide +kernel) (okS_spec rfl) rfl ?_
  obtain ⟨n20, H⟩ := H
  refine l_X6_costOfLines_L5 g _ _ _ ha0 ha1 _  _ _ _ _ H
def f_X7_isUnder_L5 (a0 : Nat) (x2 : Int32)  (Q : Int32 → HP → Prop) : Nat → Int32 → Int32 → HP → Prop
  | 0, _, _, _ => False
  | n + 1, x3, x4, h =>
    ((((Int32.ofNat (fzN a0)) ≤ x4) →
      Q 0 h) ∧
     (¬ ((Int32.ofNat (fzN a0)) ≤ x4) →
      f_X7_isIn x3 0 ((Int32.ofNat (fzN a0)) - 1) h (fun v3 h2 =>
      (((v3 = 0) →
        Q 0 h2) ∧
       (¬ (v3 = 0) →
        (((x3 = x2) →
          Q 1 h2) ∧
         (¬ (x3 = x2) →
          vp_in x3 (fzN a0) ∧
          ∀ x3_7 : Int32, x3_7 = (fzT a0 (ix x3)) →
          ∀ x4_8 : Int32, x4_8 = (x4 + 1) →
          f_X7_isUnder_L5 a0 x2 Q n x3_7 x4_8 h2)))))))
def f_X7_isUnder (a0 : Nat) (x1 : Int32) (x2 : Int32) (h : HP) (Q : Int32 → HP → Prop) : Prop :=
  ∃ n9, f_X7_isUnder_L5 a0 x2
    Q n9 x1 0 h
set_option maxRecDepth 20000 in
theorem l_X7_isUnder_L5 (g : GE) (a0 : Nat) (x2 : Int32) (ha0 : a0 = 5001 ∨ a0 = 5002)  (Q : Int32 → HP → Prop)  : ∀ (n : Nat) (x3 : Int32) (x4 : Int32) (h : HP), f_X7_isUnder_L5 a0 x2 Q n x3 x4 h → Wm g mX7_isUnder 5 [some (.ref a0), none, some (.int x2), some (.int x3), some (.int x4)] [] h (qi Q) := by
  intro n
  induction n with
  | zero => intro x3 x4 h H; exact H.elim
  | succ n ih =>
    intro x3 x4 h H
    unfold f_X7_isUnder_L5 at H
    refine wm_iload 4 7 (by decide +kernel) rfl rfl ?_
    refine wm_aload_n 0 8 (by decide +kernel) rfl rfl ?_
    refine wm_flen 9 (by decide +kernel) rfl ha0 ?_
    refine wm_icmp_ge 12 41 (by decide +kernel : decode cX7_isUnder 9 = .ok (.if_icmp .ge 32, 3)) (by decide) rfl (fun c1 => ?_) (fun c1 => ?_)
    · replace H := H.1 c1
      refine wm_iconst 0 42 (by decide +kernel : decode cX7_isUnder 41 = .ok (.iconst 0, 1)) rfl (by decide +kernel) ?_
      exact wm_iret (by decide +kernel) ⟨.boolean, rfl, (by decide +kernel)⟩ H
    · replace H := H.2 c1
      refine wm_iload_n 3 13 (by decide +kernel) rfl rfl ?_
      refine wm_iconst 0 14 (by decide +kernel : decode cX7_isUnder 13 = .ok (.iconst 0, 1)) rfl (by decide +kernel) ?_
      refine wm_aload_n 0 15 (by decide +kernel) rfl rfl ?_
      refine wm_flen 16 (by decide +kernel) rfl ha0 ?_
      refine wm_iconst 1 17 (by decide +kernel : decode cX7_isUnder 16 = .ok (.iconst 1, 1)) rfl (by decide +kernel) ?_
      refine wm_isub 18 (by decide +kernel) rfl ?_
      refine wm_callSi mX7_isIn 3 [_, _, _] [] _ _ 21 mo_X7_isIn np_X7_isIn ml_RX7_54 sc_X7_isIn (by decide +kernel) (by decide +kernel) rfl rfl rfl (Nat.le_of_ble_eq_true rfl) (Nat.le_of_ble_eq_true rfl) _ (ent_pad 0 rfl) (l_X7_isIn g _ _ _ _ _ H) (fun v3 h2 H hzv3 => ?_)
      refine wm_if_eq 24 41 (by decide +kernel : decode cX7_isUnder 21 = .ok (.ifCond .eq 20, 3)) (by decide) rfl (fun c4 => ?_) (fun c4 => ?_)
      · replace H := H.1 c4
        refine wm_iconst 0 42 (by decide +kernel : decode cX7_isUnder 41 = .ok (.iconst 0, 1)) rfl (by decide +kernel) ?_
        exact wm_iret (by decide +kernel) ⟨.boolean, rfl, (by decide +kernel)⟩ H
      · replace H := H.2 c4
        refine wm_iload_n 3 25 (by decide +kernel) rfl rfl ?_
        refine wm_iload_n 2 26 (by decide +kernel) rfl rfl ?_
        refine wm_icmp_ne 29 31 (by decide +kernel : decode cX7_isUnder 26 = .ok (.if_icmp .ne 5, 3)) (by decide) rfl (fun c5 => ?_) (fun c5 => ?_)
        · replace H := H.2 c5
          refine wm_aload_n 0 32 (by decide +kernel) rfl rfl ?_
          refine wm_iload_n 3 33 (by decide +kernel) rfl rfl ?_
          obtain ⟨o6, H⟩ := H
          refine wm_fald 34 (by decide +kernel) rfl ha0 o6 ?_
          replace H := H _ rfl
          refine wm_istore_n 3 35 [some _, none, some _, some _, some _] (by decide +kernel) rfl (by decide +kernel) (okS_spec rfl) rfl ?_
          replace H := H _ rfl
          refine wm_iinc 4 (_ + 1) 38 [some _, none, some _, some _, some _] (by decide +kernel : decode cX7_isUnder 35 = .ok (.iinc 4 1, 3)) rfl (by decide +kernel) rfl (ofI_eq (by decide +kernel)) (okS_spec rfl) rfl ?_
          refine wm_goto 5 (by decide +kernel : decode cX7_isUnder 38 = .ok (.goto (-33), 3)) (by decide) ?_
          exact ih _ _ _ H
        · replace H := H.1 c5
          refine wm_iconst 1 30 (by decide +kernel : decode cX7_isUnder 29 = .ok (.iconst 1, 1)) rfl (by decide +kernel) ?_
          exact wm_iret (by decide +kernel) ⟨.boolean, rfl, (by decide +kernel)⟩ H
set_option maxRecDepth 20000 in
theorem l_X7_isUnder (g : GE) (a0 : Nat) (x1 : Int32) (x2 : Int32) (ha0 : a0 = 5001 ∨ a0 = 5002) (h : HP) (Q : Int32 → HP → Prop) (H : f_X7_isUnder a0 x1 x2 h Q) : Wm g mX7_isUnder 0 [some (.ref a0), some (.int x1), some (.int x2), none, none] [] h (qi Q) := by
  unfold f_X7_isUnder at H
  refine wm_iload_n 1 1 (by decide +kernel) rfl rfl ?_
  refine wm_istore_n 3 2 [some _, some _, some _, some _, none] (by decide +kernel) rfl (by decide +kernel) (okS_spec rfl) rfl ?_
  refine wm_iconst 0 3 (by decide +kernel : decode cX7_isUnder 2 = .ok (.iconst 0, 1)) rfl (by decide +kernel) ?_
  refine wm_istore 4 5 [some _, some _, some _, some _, some _] (by decide +kernel) rfl (by decide +kernel) (okS_spec rfl) rfl ?_
  obtain ⟨n9, H⟩ := H
  refine wm_mask [true, false, true, true, true] [some _, none, some _, some _, some _] rfl ?_
  refine l_X7_isUnder_L5 g _ _ ha0 _  _ _ _ _ H
