def f_X5_isWord_L28 (a1 : Nat)  (Q : Int32 → HP → Prop) : Nat → Int32 → HP → Prop
  | 0, _, _ => False
  | n + 1, x2, h =>
    ((((nI (leS.getD (a1 - 6000) 0)) ≤ x2) →
      Q 1 h) ∧
     (¬ ((nI (leS.getD (a1 - 6000) 0)) ≤ x2) →
      vp_in ((gi h 105 4) + x2) 120 ∧
      vp_in x2 (leS.getD (a1 - 6000) 0) ∧
      ((((gi h 106 (ix ((gi h 105 4) + x2))) = ((byS.getD (a1 - 6000) []).getD (ix x2) 0)) →
        ∀ x2_7 : Int32, x2_7 = (x2 + 1) →
        f_X5_isWord_L28 a1 Q n x2_7 h) ∧
       (¬ ((gi h 106 (ix ((gi h 105 4) + x2))) = ((byS.getD (a1 - 6000) []).getD (ix x2) 0)) →
        Q 0 h))))
def f_X5_isWord (a1 : Nat) (h : HP) (Q : Int32 → HP → Prop) : Prop :=
  ((((gi h 105 3) = 1) →
    (((((gi h 105 5) - (gi h 105 4)) = (nI (leS.getD (a1 - 6000) 0))) →
      ∃ n8, f_X5_isWord_L28 a1
        Q n8 0 h) ∧
     (¬ (((gi h 105 5) - (gi h 105 4)) = (nI (leS.getD (a1 - 6000) 0))) →
      Q 0 h))) ∧
   (¬ ((gi h 105 3) = 1) →
    Q 0 h))
set_option maxRecDepth 20000 in
theorem l_X5_isWord_L28 (g : GE) (a1 : Nat) (ha1 : 6000 ≤ a1 ∧ a1 < 6016)  (Q : Int32 → HP → Prop)  : ∀ (n : Nat) (x2 : Int32) (h : HP), f_X5_isWord_L28 a1 Q n x2 h → Wm g mX5_isWord 28 [some (.ref 105), some (.ref a1), some (.int x2)] [] h (qi Q) := by
  intro n
  induction n with
  | zero => intro x2 h H; exact H.elim
  | succ n ih =>
    intro x2 h H
    unfold f_X5_isWord_L28 at H
    refine wm_iload_n 2 29 (by decide +kernel) rfl rfl ?_
    refine wm_aload_n 1 30 (by decide +kernel) rfl rfl ?_
    refine wm_strlen 33 ml_RX5_48 (by decide +kernel) (Nat.le_of_ble_eq_true rfl) (by decide +kernel) rfl ha1 ?_
    refine wm_icmp_ge 36 63 (by decide +kernel : decode cX5_isWord 33 = .ok (.if_icmp .ge 30, 3)) (by decide) rfl (fun c3 => ?_) (fun c3 => ?_)
    · replace H := H.1 c3
      refine wm_iconst 1 64 (by decide +kernel : decode cX5_isWord 63 = .ok (.iconst 1, 1)) rfl (by decide +kernel) ?_
      exact wm_iret (by decide +kernel) ⟨.boolean, rfl, (by decide +kernel)⟩ H
    · replace H := H.2 c3
      refine wm_aload_n 0 37 (by decide +kernel) rfl rfl ?_
      refine wm_getr 5 0 1 106 40 fl_RX5_9 (by decide +kernel) rfl (by decide +kernel) rfl rfl (by decide) ?_
      refine wm_aload_n 0 41 (by decide +kernel) rfl rfl ?_
      refine wm_geti 5 4 44 fl_RX5_34 (by decide +kernel) rfl (by decide +kernel) rfl ?_
      refine wm_iload_n 2 45 (by decide +kernel) rfl rfl ?_
      refine wm_iadd 46 (by decide +kernel) rfl ?_
      obtain ⟨o4, H⟩ := H
      refine wm_iald 120 47 (by decide +kernel) rfl (by decide +kernel) (by decide +kernel) o4 ?_
      refine wm_aload_n 1 48 (by decide +kernel) rfl rfl ?_
      refine wm_iload_n 2 49 (by decide +kernel) rfl rfl ?_
      obtain ⟨o5, H⟩ := H
      refine wm_charat 52 ml_RX5_53 (by decide +kernel) (Nat.le_of_ble_eq_true rfl) (by decide +kernel) rfl ha1 o5 ?_
      refine wm_icmp_eq 55 57 (by decide +kernel : decode cX5_isWord 52 = .ok (.if_icmp .eq 5, 3)) (by decide) rfl (fun c6 => ?_) (fun c6 => ?_)
      · replace H := H.1 c6
        replace H := H _ rfl
        refine wm_iinc 2 (_ + 1) 60 [some _, some _, some _] (by decide +kernel : decode cX5_isWord 57 = .ok (.iinc 2 1, 3)) rfl (by decide +kernel) rfl (ofI_eq (by decide +kernel)) (okS_spec rfl) rfl ?_
        refine wm_goto 28 (by decide +kernel : decode cX5_isWord 60 = .ok (.goto (-32), 3)) (by decide) ?_
        exact ih _ _ H
      · replace H := H.2 c6
        refine wm_iconst 0 56 (by decide +kernel : decode cX5_isWord 55 = .ok (.iconst 0, 1)) rfl (by decide +kernel) ?_
        exact wm_iret (by decide +kernel) ⟨.boolean, rfl, (by decide +kernel)⟩ H
set_option maxRecDepth 20000 in
theorem l_X5_isWord (g : GE) (a1 : Nat) (ha1 : 6000 ≤ a1 ∧ a1 < 6016) (h : HP) (Q : Int32 → HP → Prop) (H : f_X5_isWord a1 h Q) : Wm g mX5_isWord 0 [some (.ref 105), some (.ref a1), none] [] h (qi Q) := by
  unfold f_X5_isWord at H
  refine wm_aload_n 0 1 (by decide +kernel) rfl rfl ?_
  refine wm_geti 5 3 4 fl_RX5_28 (by decide +kernel) rfl (by decide +kernel) rfl ?_
  refine wm_iconst 1 5 (by decide +kernel : decode cX5_isWord 4 = .ok (.iconst 1, 1)) rfl (by decide +kernel) ?_
  refine wm_icmp_ne 8 24 (by decide +kernel : decode cX5_isWord 5 = .ok (.if_icmp .ne 19, 3)) (by decide) rfl (fun c1 => ?_) (fun c1 => ?_)
  · replace H := H.2 c1
    refine wm_iconst 0 25 (by decide +kernel : decode cX5_isWord 24 = .ok (.iconst 0, 1)) rfl (by decide +kernel) ?_
    exact wm_iret (by decide +kernel) ⟨.boolean, rfl, (by decide +kernel)⟩ H
  · replace H := H.1 c1
    refine wm_aload_n 0 9 (by decide +kernel) rfl rfl ?_
    refine wm_geti 5 5 12 fl_RX5_22 (by decide +kernel) rfl (by decide +kernel) rfl ?_
    refine wm_aload_n 0 13 (by decide +kernel) rfl rfl ?_
    refine wm_geti 5 4 16 fl_RX5_34 (by decide +kernel) rfl (by decide +kernel) rfl ?_
    refine wm_isub 17 (by decide +kernel) rfl ?_
    refine wm_aload_n 1 18 (by decide +kernel) rfl rfl ?_
    refine wm_strlen 21 ml_RX5_48 (by decide +kernel) (Nat.le_of_ble_eq_true rfl) (by decide +kernel) rfl ha1 ?_
    refine wm_icmp_eq 24 26 (by decide +kernel : decode cX5_isWord 21 = .ok (.if_icmp .eq 5, 3)) (by decide) rfl (fun c2 => ?_) (fun c2 => ?_)
    · replace H := H.1 c2
      refine wm_iconst 0 27 (by decide +kernel : decode cX5_isWord 26 = .ok (.iconst 0, 1)) rfl (by decide +kernel) ?_
      refine wm_istore_n 2 28 [some _, some _, some _] (by decide +kernel) rfl (by decide +kernel) (okS_spec rfl) rfl ?_
      obtain ⟨n8, H⟩ := H
      refine l_X5_isWord_L28 g _ ha1 _  _ _ _ H
    · replace H := H.2 c2
      refine wm_iconst 0 25 (by decide +kernel : decode cX5_isWord 24 = .ok (.iconst 0, 1)) rfl (by decide +kernel) ?_
      exact wm_iret (by decide +kernel) ⟨.boolean, rfl, (by decide +kernel)⟩ H
def f_X5_takeWord_J20 (xs0 : Int32)  (Q : Int32 → HP → Prop) (h : HP) : Prop :=
  (((xs0 = 0) →
    Q xs0 h) ∧
   (¬ (xs0 = 0) →
    f_X5_readToken h (fun h3 =>
    Q xs0 h3)))
def f_X5_takeWord (a1 : Nat) (h : HP) (Q : Int32 → HP → Prop) : Prop :=
  (((0 ≤ (gi h 105 2)) →
    f_X5_takeWord_J20 0  Q h) ∧
   (¬ (0 ≤ (gi h 105 2)) →
    f_X5_isWord a1 h (fun v5 h4 =>
    (((v5 = 0) →
      f_X5_takeWord_J20 0  Q h4) ∧
     (¬ (v5 = 0) →
      f_X5_takeWord_J20 1  Q h4)))))
set_option maxRecDepth 20000 in
theorem l_X5_takeWord_J20 (g : GE) (xs0 : Int32) (hzxs0 : narrow .boolean (.int xs0) = .int xs0)  (Q : Int32 → HP → Prop)  (h : HP) (H : f_X5_takeWord_J20 xs0  Q h) : Wm g mX5_takeWord 20 [some (.ref 105), none, none] [(.int xs0)] h (qi Q) := by
  unfold f_X5_takeWord_J20 at H
  refine wm_istore_n 2 21 [some _, none, some _] (by decide +kernel) rfl (by decide +kernel) (okS_spec rfl) rfl ?_
  refine wm_iload_n 2 22 (by decide +kernel) rfl rfl ?_
  refine wm_if_eq 25 29 (by decide +kernel : decode cX5_takeWord 22 = .ok (.ifCond .eq 7, 3)) (by decide) rfl (fun c2 => ?_) (fun c2 => ?_)
  · replace H := H.1 c2
    refine wm_iload_n 2 30 (by decide +kernel) rfl rfl ?_
    exact wm_iret (by decide +kernel) ⟨.boolean, rfl, hzxs0⟩ H
  · replace H := H.2 c2
    refine wm_aload_n 0 26 (by decide +kernel) rfl rfl ?_
    refine wm_callVv mX5_readToken 0 5 [] [] _ _ 29 mo_X5_readToken np_X5_readToken ml_RX5_25 im_X5_readToken se_X5_readToken (by decide +kernel) (by decide +kernel) rfl rfl rfl (Nat.le_of_ble_eq_true rfl) (by decide +kernel) rfl (Nat.le_of_ble_eq_true rfl) _ (ent_pad 0 rfl) (l_X5_readToken g _ _ H) (fun h3 H => ?_)
    refine wm_iload_n 2 30 (by decide +kernel) rfl rfl ?_
    exact wm_iret (by decide +kernel) ⟨.boolean, rfl, hzxs0⟩ H
set_option maxRecDepth 20000 in
theorem l_X5_takeWord (g : GE) (a1 : Nat) (ha1 : 6000 ≤ a1 ∧ a1 < 6016) (h : HP) (Q : Int32 → HP → Prop) (H : f_X5_takeWord a1 h Q) : Wm g mX5_takeWord 0 [some (.ref 105), some (.ref a1), none] [] h (qi Q) := by
  unfold f_X5_takeWord at H
  refine wm_aload_n 0 1 (by decide +kernel) rfl rfl ?_
  refine wm_geti 5 2 4 fl_RX5_19 (by decide +kernel) rfl (by decide +kernel) rfl ?_
  refine wm_if_ge 7 19 (by decide +kernel : decode cX5_takeWord 4 = .ok (.ifCond .ge 15, 3)) (by decide) rfl (fun c1 => ?_) (fun c1 => ?_)
  · replace H := H.1 c1
    refine wm_iconst 0 20 (by decide +kernel : decode cX5_takeWord 19 = .ok (.iconst 0, 1)) rfl (by decide +kernel) ?_
    refine wm_mask [true, false, false] [some _, none, none] rfl ?_
    exact l_X5_takeWord_J20 g _ (by decide +kernel) _  _ H
  · replace H := H.2 c1
    refine wm_aload_n 0 8 (by decide +kernel) rfl rfl ?_
    refine wm_aload_n 1 9 (by decide +kernel) rfl rfl ?_
    refine wm_callVi mX5_isWord 1 5 [_] [] _ _ 12 mo_X5_isWord np_X5_isWord ml_RX5_57 im_X5_isWord se_X5_isWord (by decide +kernel) (by decide +kernel) rfl rfl rfl (Nat.le_of_ble_eq_true rfl) (by decide +kernel) rfl (Nat.le_of_ble_eq_true rfl) _ (ent_pad 1 rfl) (l_X5_isWord g _ ha1 _ _ H) (fun v5 h4 H hzv5 => ?_)
    refine wm_if_eq 15 19 (by decide +kernel : decode cX5_takeWord 12 = .ok (.ifCond .eq 7, 3)) (by decide) rfl (fun c6 => ?_) (fun c6 => ?_)
    · replace H := H.1 c6
      refine wm_iconst 0 20 (by decide +kernel : decode cX5_takeWord 19 = .ok (.iconst 0, 1)) rfl (by decide +kernel) ?_
      refine wm_mask [true, false, false] [some _, none, none] rfl ?_
      exact l_X5_takeWord_J20 g _ (by decide +kernel) _  _ H
    · replace H := H.2 c6
      refine wm_iconst 1 16 (by decide +kernel : decode cX5_takeWord 15 = .ok (.iconst 1, 1)) rfl (by decide +kernel) ?_
      refine wm_goto 20 (by decide +kernel : decode cX5_takeWord 16 = .ok (.goto 4, 3)) (by decide) ?_
      refine wm_mask [true, false, false] [some _, none, none] rfl ?_
      exact l_X5_takeWord_J20 g _ (by decide +kernel) _  _ H
def f_X5_takeNumber (x1 : Int32) (x2 : Int32) (h : HP) (Q : Int32 → HP → Prop) : Prop :=
  (((0 ≤ (gi h 105 2)) →
    f_X5_fail h (fun h2 =>
    Q x1 h2)) ∧
   (¬ (0 ≤ (gi h 105 2)) →
    ((((gi h 105 3) = 2) →
      f_X7_isIn (gi h 105 6) x1 x2 h (fun v6 h5 =>
      (((v6 = 0) →
        f_X5_fail h5 (fun h10 =>
        Q x1 h10)) ∧
       (¬ (v6 = 0) →
        ∀ x3_8 : Int32, x3_8 = (gi h5 105 6) →
        f_X5_readToken h5 (fun h9 =>
        Q x3_8 h9))))) ∧
     (¬ ((gi h 105 3) = 2) →
      f_X5_fail h (fun h4 =>
      Q x1 h4)))))
set_option maxRecDepth 20000 in
theorem l_X5_takeNumber (g : GE) (x1 : Int32) (x2 : Int32)  (h : HP) (Q : Int32 → HP → Prop) (H : f_X5_takeNumber x1 x2 h Q) : Wm g mX5_takeNumber 0 [some (.ref 105), some (.int x1), some (.int x2), none] [] h (qi Q) := by
  unfold f_X5_takeNumber at H
  refine wm_aload_n 0 1 (by decide +kernel) rfl rfl ?_
  refine wm_geti 5 2 4 fl_RX5_19 (by decide +kernel) rfl (by decide +kernel) rfl ?_
  refine wm_if_ge 7 27 (by decide +kernel : decode cX5_takeNumber 4 = .ok (.ifCond .ge 23, 3)) (by decide) rfl (fun c1 => ?_) (fun c1 => ?_)
  · replace H := H.1 c1
    refine wm_aload_n 0 28 (by decide +kernel) rfl rfl ?_
    refine wm_callVv mX5_fail 0 5 [] [] _ _ 31 mo_X5_fail np_X5_fail ml_RX5_31 im_X5_fail se_X5_fail (by decide +kernel) (by decide +kernel) rfl rfl rfl (Nat.le_of_ble_eq_true rfl) (by decide +kernel) rfl (Nat.le_of_ble_eq_true rfl) _ (ent_pad 0 rfl) (l_X5_fail g _ _ H) (fun h2 H => ?_)
    refine wm_iload_n 1 32 (by decide +kernel) rfl rfl ?_
    exact wm_iret (by decide +kernel) ⟨.int, rfl, rfl⟩ H
  · replace H := H.2 c1
    refine wm_aload_n 0 8 (by decide +kernel) rfl rfl ?_
    refine wm_geti 5 3 11 fl_RX5_28 (by decide +kernel) rfl (by decide +kernel) rfl ?_
    refine wm_iconst 2 12 (by decide +kernel : decode cX5_takeNumber 11 = .ok (.iconst 2, 1)) rfl (by decide +kernel) ?_
    refine wm_icmp_ne 15 27 (by decide +kernel : decode cX5_takeNumber 12 = .ok (.if_icmp .ne 15, 3)) (by decide) rfl (fun c3 => ?_) (fun c3 => ?_)
    · replace H := H.2 c3
      refine wm_aload_n 0 28 (by decide +kernel) rfl rfl ?_
      refine wm_callVv mX5_fail 0 5 [] [] _ _ 31 mo_X5_fail np_X5_fail ml_RX5_31 im_X5_fail se_X5_fail (by decide +kernel) (by decide +kernel) rfl rfl rfl (Nat.le_of_ble_eq_true rfl) (by decide +kernel) rfl (Nat.le_of_ble_eq_true rfl) _ (ent_pad 0 rfl) (l_X5_fail g _ _ H) (fun h4 H => ?_)
      refine wm_iload_n 1 32 (by decide +kernel) rfl rfl ?_
      exact wm_iret (by decide +kernel) ⟨.int, rfl, rfl⟩ H
    · replace H := H.1 c3
      refine wm_aload_n 0 16 (by decide +kernel) rfl rfl ?_
      refine wm_geti 5 6 19 fl_RX5_45 (by decide +kernel) rfl (by decide +kernel) rfl ?_
      refine wm_iload_n 1 20 (by decide +kernel) rfl rfl ?_
      refine wm_iload_n 2 21 (by decide +kernel) rfl rfl ?_
      refine wm_callNi mX7_isIn 61 3 [_, _, _] [] _ _ 24 mo_X7_isIn np_X7_isIn rfl (by decide +kernel) sc_X7_isIn (by decide +kernel) (by decide +kernel) rfl rfl rfl (Nat.le_of_ble_eq_true rfl) (Nat.le_of_ble_eq_true rfl) _ (ent_pad 0 rfl) (l_X7_isIn g _ _ _ _ _ H) (fun v6 h5 H hzv6 => ?_)
      refine wm_if_ne 27 33 (by decide +kernel : decode cX5_takeNumber 24 = .ok (.ifCond .ne 9, 3)) (by decide) rfl (fun c7 => ?_) (fun c7 => ?_)
      · replace H := H.2 c7
        refine wm_aload_n 0 34 (by decide +kernel) rfl rfl ?_
        refine wm_geti 5 6 37 fl_RX5_45 (by decide +kernel) rfl (by decide +kernel) rfl ?_
        replace H := H _ rfl
        refine wm_istore_n 3 38 [some _, some _, some _, some _] (by decide +kernel) rfl (by decide +kernel) (okS_spec rfl) rfl ?_
        refine wm_aload_n 0 39 (by decide +kernel) rfl rfl ?_
        refine wm_callVv mX5_readToken 0 5 [] [] _ _ 42 mo_X5_readToken np_X5_readToken ml_RX5_25 im_X5_readToken se_X5_readToken (by decide +kernel) (by decide +kernel) rfl rfl rfl (Nat.le_of_ble_eq_true rfl) (by decide +kernel) rfl (Nat.le_of_ble_eq_true rfl) _ (ent_pad 0 rfl) (l_X5_readToken g _ _ H) (fun h9 H => ?_)
        refine wm_iload_n 3 43 (by decide +kernel) rfl rfl ?_
        exact wm_iret (by decide +kernel) ⟨.int, rfl, rfl⟩ H
      · replace H := H.1 c7
        refine wm_aload_n 0 28 (by decide +kernel) rfl rfl ?_
        refine wm_callVv mX5_fail 0 5 [] [] _ _ 31 mo_X5_fail np_X5_fail ml_RX5_31 im_X5_fail se_X5_fail (by decide +kernel) (by decide +kernel) rfl rfl rfl (Nat.le_of_ble_eq_true rfl) (by decide +kernel) rfl (Nat.le_of_ble_eq_true rfl) _ (ent_pad 0 rfl) (l_X5_fail g _ _ H) (fun h10 H => ?_)
        refine wm_iload_n 1 32 (by decide +kernel) rfl rfl ?_
        exact wm_iret (by decide +kernel) ⟨.int, rfl, rfl⟩ H
def f_X5_takeOption (a1 : Nat) (x2 : Int32) (x3 : Int32) (x4 : Int32) (h : HP) (Q : Int32 → HP → Prop) : Prop :=
  f_X5_takeWord a1 h (fun v2 h1 =>
  (((v2 = 0) →
    Q x4 h1) ∧
   (¬ (v2 = 0) →
    f_X5_takeNumber x2 x3 h1 (fun v5 h4 =>
    Q v5 h4))))
set_option maxRecDepth 20000 in
theorem l_X5_takeOption (g : GE) (a1 : Nat) (x2 : Int32) (x3 : Int32) (x4 : Int32) (ha1 : 6000 ≤ a1 ∧ a1 < 6016) (h : HP) (Q : Int32 → HP → Prop) (H : f_X5_takeOption a1 x2 x3 x4 h Q) : Wm g mX5_takeOption 0 [some (.ref 105), some (.ref a1), some (.int x2), some (.int x3), some (.int x4)] [] h (qi Q) := by
  unfold f_X5_takeOption at H
  refine wm_aload_n 0 1 (by decide +kernel) rfl rfl ?_
  refine wm_aload_n 1 2 (by decide +kernel) rfl rfl ?_
  refine wm_callVi mX5_takeWord 1 5 [_] [] _ _ 5 mo_X5_takeWord np_X5_takeWord ml_RX5_65 im_X5_takeWord se_X5_takeWord (by decide +kernel) (by decide +kernel) rfl rfl rfl (Nat.le_of_ble_eq_true rfl) (by decide +kernel) rfl (Nat.le_of_ble_eq_true rfl) _ (ent_pad 1 rfl) (l_X5_takeWord g _ ha1 _ _ H) (fun v2 h1 H hzv2 => ?_)
  refine wm_if_eq 8 17 (by decide +kernel : decode cX5_takeOption 5 = .ok (.ifCond .eq 12, 3)) (by decide) rfl (fun c3 => ?_) (fun c3 => ?_)
  · replace H := H.1 c3
    refine wm_iload 4 19 (by decide +kernel) rfl rfl ?_
    exact wm_iret (by decide +kernel) ⟨.int, rfl, rfl⟩ H
  · replace H := H.2 c3
    refine wm_aload_n 0 9 (by decide +kernel) rfl rfl ?_
    refine wm_iload_n 2 10 (by decide +kernel) rfl rfl ?_
    refine wm_iload_n 3 11 (by decide +kernel) rfl rfl ?_
    refine wm_callVi mX5_takeNumber 2 5 [_, _] [] _ _ 14 mo_X5_takeNumber np_X5_takeNumber ml_RX5_68 im_X5_takeNumber se_X5_takeNumber (by decide +kernel) (by decide +kernel) rfl rfl rfl (Nat.le_of_ble_eq_true rfl) (by decide +kernel) rfl (Nat.le_of_ble_eq_true rfl) _ (ent_pad 1 rfl) (l_X5_takeNumber g _ _ _ _ H) (fun v5 h4 H hzv5 => ?_)
    refine wm_goto 19 (by decide +kernel : decode cX5_takeOption 14 = .ok (.goto 5, 3)) (by decide) ?_
    exact wm_iret (by decide +kernel) ⟨.int, rfl, rfl⟩ H
def f_X5_stationKind  (h : HP) (Q : Int32 → HP → Prop) : Prop :=
  f_X5_isWord 6000 h (fun v2 h1 =>
  (((v2 = 0) →
    f_X5_isWord 6001 h1 (fun v5 h4 =>
    (((v5 = 0) →
      f_X5_isWord 6002 h4 (fun v8 h7 =>
      (((v8 = 0) →
        f_X5_isWord 6003 h7 (fun v11 h10 =>
        Q (if v11 = 0 then ((-1 : Int32) : Int32) else 3) h10)) ∧
       (¬ (v8 = 0) →
        Q 2 h7)))) ∧
     (¬ (v5 = 0) →
      Q 1 h4)))) ∧
   (¬ (v2 = 0) →
    Q 0 h1)))
set_option maxRecDepth 20000 in
theorem l_X5_stationKind (g : GE)   (h : HP) (Q : Int32 → HP → Prop) (H : f_X5_stationKind  h Q) : Wm g mX5_stationKind 0 [some (.ref 105)] [] h (qi Q) := by
  unfold f_X5_stationKind at H
  refine wm_aload_n 0 1 (by decide +kernel) rfl rfl ?_
  refine wm_ldcs 0 3 rfl (by decide) rfl (by decide +kernel) rfl ?_
  refine wm_callVi mX5_isWord 1 5 [_] [] _ _ 6 mo_X5_isWord np_X5_isWord ml_RX5_57 im_X5_isWord se_X5_isWord (by decide +kernel) (by decide +kernel) rfl rfl rfl (Nat.le_of_ble_eq_true rfl) (by decide +kernel) rfl (Nat.le_of_ble_eq_true rfl) _ (ent_pad 1 rfl) (l_X5_isWord g _ ⟨by decide, by decide⟩ _ _ H) (fun v2 h1 H hzv2 => ?_)
  refine wm_if_eq 9 11 (by decide +kernel : decode cX5_stationKind 6 = .ok (.ifCond .eq 5, 3)) (by decide) rfl (fun c3 => ?_) (fun c3 => ?_)
  · replace H := H.1 c3
    refine wm_aload_n 0 12 (by decide +kernel) rfl rfl ?_
    refine wm_ldcs 1 14 rfl (by decide) rfl (by decide +kernel) rfl ?_
    refine wm_callVi mX5_isWord 1 5 [_] [] _ _ 17 mo_X5_isWord np_X5_isWord ml_RX5_57 im_X5_isWord se_X5_isWord (by decide +kernel) (by decide +kernel) rfl rfl rfl (Nat.le_of_ble_eq_true rfl) (by decide +kernel) rfl (Nat.le_of_ble_eq_true rfl) _ (ent_pad 1 rfl) (l_X5_isWord g _ ⟨by decide, by decide⟩ _ _ H) (fun v5 h4 H hzv5 => ?_)
    refine wm_if_eq 20 22 (by decide +kernel : decode cX5_stationKind 17 = .ok (.ifCond .eq 5, 3)) (by decide) rfl (fun c6 => ?_) (fun c6 => ?_)
    · replace H := H.1 c6
      refine wm_aload_n 0 23 (by decide +kernel) rfl rfl ?_
      refine wm_ldcs 2 25 rfl (by decide) rfl (by decide +kernel) rfl ?_
      refine wm_callVi mX5_isWord 1 5 [_] [] _ _ 28 mo_X5_isWord np_X5_isWord ml_RX5_57 im_X5_isWord se_X5_isWord (by decide +kernel) (by decide +kernel) rfl rfl rfl (Nat.le_of_ble_eq_true rfl) (by decide +kernel) rfl (Nat.le_of_ble_eq_true rfl) _ (ent_pad 1 rfl) (l_X5_isWord g _ ⟨by decide, by decide⟩ _ _ H) (fun v8 h7 H hzv8 => ?_)
      refine wm_if_eq 31 33 (by decide +kernel : decode cX5_stationKind 28 = .ok (.ifCond .eq 5, 3)) (by decide) rfl (fun c9 => ?_) (fun c9 => ?_)
      · replace H := H.1 c9
        refine wm_aload_n 0 34 (by decide +kernel) rfl rfl ?_
        refine wm_ldcs 3 36 rfl (by decide) rfl (by decide +kernel) rfl ?_
        refine wm_callVi mX5_isWord 1 5 [_] [] _ _ 39 mo_X5_isWord np_X5_isWord ml_RX5_57 im_X5_isWord se_X5_isWord (by decide +kernel) (by decide +kernel) rfl rfl rfl (Nat.le_of_ble_eq_true rfl) (by decide +kernel) rfl (Nat.le_of_ble_eq_true rfl) _ (ent_pad 1 rfl) (l_X5_isWord g _ ⟨by decide, by decide⟩ _ _ H) (fun v11 h10 H hzv11 => ?_)
        refine' wm_dia (pcJ := 47) (fun kt kf => wm_if_eq 42 46 (by decide +kernel : decode cX5_stationKind 39 = .ok (.ifCond .eq 7, 3)) (by decide) rfl kt kf) ?D13k (fun kj c1 => ?D13t) (fun kj c1 => ?D13f)
        case D13t =>
          refine wm_iconst (-1) 47 (by decide +kernel : decode cX5_stationKind 46 = .ok (.iconst (-1), 1)) rfl (by decide +kernel) ?_
          exact kj
        case D13f =>
          refine wm_iconst 3 43 (by decide +kernel : decode cX5_stationKind 42 = .ok (.iconst 3, 1)) rfl (by decide +kernel) ?_
          refine wm_goto 47 (by decide +kernel : decode cX5_stationKind 43 = .ok (.goto 4, 3)) (by decide) ?_
          exact kj
        case D13k =>
          exact wm_iret (by decide +kernel) ⟨.int, rfl, rfl⟩ H
      · replace H := H.2 c9
        refine wm_iconst 2 32 (by decide +kernel : decode cX5_stationKind 31 = .ok (.iconst 2, 1)) rfl (by decide +kernel) ?_
        exact wm_iret (by decide +kernel) ⟨.int, rfl, rfl⟩ H
    · replace H := H.2 c6
      refine wm_iconst 1 21 (by decide +kernel : decode cX5_stationKind 20 = .ok (.iconst 1, 1)) rfl (by decide +kernel) ?_
      exact wm_iret (by decide +kernel) ⟨.int, rfl, rfl⟩ H
  · replace H := H.2 c3
    refine wm_iconst 0 10 (by decide +kernel : decode cX5_stationKind 9 = .ok (.iconst 0, 1)) rfl (by decide +kernel) ?_
    exact wm_iret (by decide +kernel) ⟨.int, rfl, rfl⟩ H
def f_X5_lineKind  (h : HP) (Q : Int32 → HP → Prop) : Prop :=
  f_X5_isWord 6004 h (fun v2 h1 =>
  (((v2 = 0) →
    f_X5_isWord 6005 h1 (fun v5 h4 =>
    (((v5 = 0) →
      f_X5_isWord 6006 h4 (fun v8 h7 =>
      (((v8 = 0) →
        f_X5_isWord 6007 h7 (fun v11 h10 =>
        (((v11 = 0) →
          f_X5_isWord 6008 h10 (fun v14 h13 =>
          (((v14 = 0) →
            f_X5_isWord 6009 h13 (fun v17 h16 =>
            Q (if v17 = 0 then ((-1 : Int32) : Int32) else 5) h16)) ∧
           (¬ (v14 = 0) →
            Q 4 h13)))) ∧
         (¬ (v11 = 0) →
          Q 3 h10)))) ∧
       (¬ (v8 = 0) →
        Q 2 h7)))) ∧
     (¬ (v5 = 0) →
      Q 1 h4)))) ∧
   (¬ (v2 = 0) →
    Q 0 h1)))
set_option maxRecDepth 20000 in
theorem l_X5_lineKind (g : GE)   (h : HP) (Q : Int32 → HP → Prop) (H : f_X5_lineKind  h Q) : Wm g mX5_lineKind 0 [some (.ref 105)] [] h (qi Q) := by
  unfold f_X5_lineKind at H
  refine wm_aload_n 0 1 (by decide +kernel) rfl rfl ?_
  refine wm_ldcs 4 3 rfl (by decide) rfl (by decide +kernel) rfl ?_
  refine wm_callVi mX5_isWord 1 5 [_] [] _ _ 6 mo_X5_isWord np_X5_isWord ml_RX5_57 im_X5_isWord se_X5_isWord (by decide +kernel) (by decide +kernel) rfl rfl rfl (Nat.le_of_ble_eq_true rfl) (by decide +kernel) rfl (Nat.le_of_ble_eq_true rfl) _ (ent_pad 1 rfl) (l_X5_isWord g _ ⟨by decide, by decide⟩ _ _ H) (fun v2 h1 H hzv2 => ?_)
  refine wm_if_eq 9 11 (by decide +kernel : decode cX5_lineKind 6 = .ok (.ifCond .eq 5, 3)) (by decide) rfl (fun c3 => ?_) (fun c3 => ?_)
  · replace H := H.1 c3
    refine wm_aload_n 0 12 (by decide +kernel) rfl rfl ?_
    refine wm_ldcs 5 14 rfl (by decide) rfl (by decide +kernel) rfl ?_
    refine wm_callVi mX5_isWord 1 5 [_] [] _ _ 17 mo_X5_isWord np_X5_isWord ml_RX5_57 im_X5_isWord se_X5_isWord (by decide +kernel) (by decide +kernel) rfl rfl rfl (Nat.le_of_ble_eq_true rfl) (by decide +kernel) rfl (Nat.le_of_ble_eq_true rfl) _ (ent_pad 1 rfl) (l_X5_isWord g _ ⟨by decide, by decide⟩ _ _ H) (fun v5 h4 H hzv5 => ?_)
    refine wm_if_eq 20 22 (by decide +kernel : decode cX5_lineKind 17 = .ok (.ifCond .eq 5, 3)) (by decide) rfl (fun c6 => ?_) (fun c6 => ?_)
    · replace H := H.1 c6
      refine wm_aload_n 0 23 (by decide +kernel) rfl rfl ?_
      refine wm_ldcs 6 25 rfl (by decide) rfl (by decide +kernel) rfl ?_
      refine wm_callVi mX5_isWord 1 5 [_] [] _ _ 28 mo_X5_isWord np_X5_isWord ml_RX5_57 im_X5_isWord se_X5_isWord (by decide +kernel) (by decide +kernel) rfl rfl rfl (Nat.le_of_ble_eq_true rfl) (by decide +kernel) rfl (Nat.le_of_ble_eq_true rfl) _ (ent_pad 1 rfl) (l_X5_isWord g _ ⟨by decide, by decide⟩ _ _ H) (fun v8 h7 H hzv8 => ?_)
      refine wm_if_eq 31 33 (by decide +kernel : decode cX5_lineKind 28 = .ok (.ifCond .eq 5, 3)) (by decide) rfl (fun c9 => ?_) (fun c9 => ?_)
      · replace H := H.1 c9
        refine wm_aload_n 0 34 (by decide +kernel) rfl rfl ?_
        refine wm_ldcs 7 36 rfl (by decide) rfl (by decide +kernel) rfl ?_
        refine wm_callVi mX5_isWord 1 5 [_] [] _ _ 39 mo_X5_isWord np_X5_isWord ml_RX5_57 im_X5_isWord se_X5_isWord (by decide +kernel) (by decide +kernel) rfl rfl rfl (Nat.le_of_ble_eq_true rfl) (by decide +kernel) rfl (Nat.le_of_ble_eq_true rfl) _ (ent_pad 1 rfl) (l_X5_isWord g _ ⟨by decide, by decide⟩ _ _ H) (fun v11 h10 H hzv11 => ?_)
        refine wm_if_eq 42 44 (by decide +kernel : decode cX5_lineKind 39 = .ok (.ifCond .eq 5, 3)) (by decide) rfl (fun c12 => ?_) (fun c12 => ?_)
        · replace H := H.1 c12
          refine wm_aload_n 0 45 (by decide +kernel) rfl rfl ?_
          refine wm_ldcs 8 47 rfl (by decide) rfl (by decide +kernel) rfl ?_
          refine wm_callVi mX5_isWord 1 5 [_] [] _ _ 50 mo_X5_isWord np_X5_isWord ml_RX5_57 im_X5_isWord se_X5_isWord (by decide +kernel) (by decide +kernel) rfl rfl rfl (Nat.le_of_ble_eq_true rfl) (by decide +kernel) rfl (Nat.le_of_ble_eq_true rfl) _ (ent_pad 1 rfl) (l_X5_isWord g _ ⟨by decide, by decide⟩ _ _ H) (fun v14 h13 H hzv14 => ?_)
          refine wm_if_eq 53 55 (by decide +kernel : decode cX5_lineKind 50 = .ok (.ifCond .eq 5, 3)) (by decide) rfl (fun c15 => ?_) (fun c15 => ?_)
          · replace H := H.1 c15
            refine wm_aload_n 0 56 (by decide +kernel) rfl rfl ?_
            refine wm_ldcs 9 58 rfl (by decide) rfl (by decide +kernel) rfl ?_
            refine wm_callVi mX5_isWord 1 5 [_] [] _ _ 61 mo_X5_isWord np_X5_isWord ml_RX5_57 im_X5_isWord se_X5_isWord (by decide +kernel) (by decide +kernel) rfl rfl rfl (Nat.le_of_ble_eq_true rfl) (by decide +kernel) rfl (Nat.le_of_ble_eq_true rfl) _ (ent_pad 1 rfl) (l_X5_isWord g _ ⟨by decide, by decide⟩ _ _ H) (fun v17 h16 H hzv17 => ?_)
            refine' wm_dia (pcJ := 69) (fun kt kf => wm_if_eq 64 68 (by decide +kernel : decode cX5_lineKind 61 = .ok (.ifCond .eq 7, 3)) (by decide) rfl kt kf) ?D19k (fun kj c1 => ?D19t) (fun kj c1 => ?D19f)
            case D19t =>
              refine wm_iconst (-1) 69 (by decide +kernel : decode cX5_lineKind 68 = .ok (.iconst (-1), 1)) rfl (by decide +kernel) ?_
              exact kj
            case D19f =>
              refine wm_iconst 5 65 (by decide +kernel : decode cX5_lineKind 64 = .ok (.iconst 5, 1)) rfl (by decide +kernel) ?_
              refine wm_goto 69 (by decide +kernel : decode cX5_lineKind 65 = .ok (.goto 4, 3)) (by decide) ?_
              exact kj
            case D19k =>
              exact wm_iret (by decide +kernel) ⟨.int, rfl, rfl⟩ H
          · replace H := H.2 c15
            refine wm_iconst 4 54 (by decide +kernel : decode cX5_lineKind 53 = .ok (.iconst 4, 1)) rfl (by decide +kernel) ?_
            exact wm_iret (by decide +kernel) ⟨.int, rfl, rfl⟩ H
        · replace H := H.2 c12
          refine wm_iconst 3 43 (by decide +kernel : decode cX5_lineKind 42 = .ok (.iconst 3, 1)) rfl (by decide +kernel) ?_
          exact wm_iret (by decide +kernel) ⟨.int, rfl, rfl⟩ H
      · replace H := H.2 c9
        refine wm_iconst 2 32 (by decide +kernel : decode cX5_lineKind 31 = .ok (.iconst 2, 1)) rfl (by decide +kernel) ?_
        exact wm_iret (by decide +kernel) ⟨.int, rfl, rfl⟩ H
    · replace H := H.2 c6
      refine wm_iconst 1 21 (by decide +kernel : decode cX5_lineKind 20 = .ok (.iconst 1, 1)) rfl (by decide +kernel) ?_
      exact wm_iret (by decide +kernel) ⟨.int, rfl, rfl⟩ H
  · replace H := H.2 c3
    refine wm_iconst 0 10 (by decide +kernel : decode cX5_lineKind 9 = .ok (.iconst 0, 1)) rfl (by decide +kernel) ?_
    exact wm_iret (by decide +kernel) ⟨.int, rfl, rfl⟩ H
def f_X5_readStation (a1 : Nat) (x2 : Int32) (h : HP) (Q : HP → Prop) : Prop :=
  f_X5_takeOption 6010 0 999 0 h (fun v2 h1 =>
  f_X5_takeOption 6011 0 99 20 h1 (fun v4 h3 =>
  f_X6_addStation a1 x2 v2 h3 (fun v6 h5 =>
  vp_in v6 6 ∧
  ∀ h8 : HP, h8 = si h5 ((a1 + 1) + 2 + ix v6) 2 v4 →
  Q h8)))
set_option maxRecDepth 20000 in
theorem l_X5_readStation (g : GE) (a1 : Nat) (x2 : Int32) (ha1 : kd a1 = 6) (h : HP) (Q : HP → Prop) (H : f_X5_readStation a1 x2 h Q) : Wm g mX5_readStation 0 [some (.ref 105), some (.ref a1), some (.int x2), none, none] [] h (qv Q) := by
  unfold f_X5_readStation at H
  refine wm_aload_n 0 1 (by decide +kernel) rfl rfl ?_
  refine wm_ldcs 10 3 rfl (by decide) rfl (by decide +kernel) rfl ?_
  refine wm_iconst 0 4 (by decide +kernel : decode cX5_readStation 3 = .ok (.iconst 0, 1)) rfl (by decide +kernel) ?_
  refine wm_sipush 999 7 (by decide +kernel : decode cX5_readStation 4 = .ok (.sipush 999, 3)) rfl (by decide +kernel) ?_
  refine wm_iconst 0 8 (by decide +kernel : decode cX5_readStation 7 = .ok (.iconst 0, 1)) rfl (by decide +kernel) ?_
  refine wm_callVi mX5_takeOption 4 5 [_, _, _, _] [] _ _ 11 mo_X5_takeOption np_X5_takeOption ml_RX5_115 im_X5_takeOption se_X5_takeOption (by decide +kernel) (by decide +kernel) rfl rfl rfl (Nat.le_of_ble_eq_true rfl) (by decide +kernel) rfl (Nat.le_of_ble_eq_true rfl) _ (ent_pad 0 rfl) (l_X5_takeOption g _ _ _ _ ⟨by decide, by decide⟩ _ _ H) (fun v2 h1 H hzv2 => ?_)
  refine wm_istore_n 3 12 [some _, some _, some _, some _, none] (by decide +kernel) rfl (by decide +kernel) (okS_spec rfl) rfl ?_
  refine wm_aload_n 0 13 (by decide +kernel) rfl rfl ?_
  refine wm_ldcs 11 15 rfl (by decide) rfl (by decide +kernel) rfl ?_
  refine wm_iconst 0 16 (by decide +kernel : decode cX5_readStation 15 = .ok (.iconst 0, 1)) rfl (by decide +kernel) ?_
  refine wm_bipush 99 18 (by decide +kernel : decode cX5_readStation 16 = .ok (.bipush 99, 2)) rfl (by decide +kernel) ?_
  refine wm_bipush 20 20 (by decide +kernel : decode cX5_readStation 18 = .ok (.bipush 20, 2)) rfl (by decide +kernel) ?_
  refine wm_callVi mX5_takeOption 4 5 [_, _, _, _] [] _ _ 23 mo_X5_takeOption np_X5_takeOption ml_RX5_115 im_X5_takeOption se_X5_takeOption (by decide +kernel) (by decide +kernel) rfl rfl rfl (Nat.le_of_ble_eq_true rfl) (by decide +kernel) rfl (Nat.le_of_ble_eq_true rfl) _ (ent_pad 0 rfl) (l_X5_takeOption g _ _ _ _ ⟨by decide, by decide⟩ _ _ H) (fun v4 h3 H hzv4 => ?_)
  refine wm_istore 4 25 [some _, some _, some _, some _, some _] (by decide +kernel) rfl (by decide +kernel) (okS_spec rfl) rfl ?_
  refine wm_aload_n 1 26 (by decide +kernel) rfl rfl ?_
  refine wm_getr 6 4 1 _ 29 fl_RX5_121 (by decide +kernel) rfl ha1 rfl rfl (by decide) ?_
  refine wm_aload_n 1 30 (by decide +kernel) rfl rfl ?_
  refine wm_iload_n 2 31 (by decide +kernel) rfl rfl ?_
  refine wm_iload_n 3 32 (by decide +kernel) rfl rfl ?_
  refine wm_callVi mX6_addStation 2 6 [_, _] [_] _ _ 35 mo_X6_addStation np_X6_addStation ml_RX5_125 im_X6_addStation se_X6_addStation (by decide +kernel) (by decide +kernel) rfl rfl rfl (Nat.le_of_ble_eq_true rfl) ha1 rfl (Nat.le_of_ble_eq_true rfl) _ (ent_pad 1 rfl) (l_X6_addStation g _ _ _ ha1 _ _ H) (fun v6 h5 H hzv6 => ?_)
  obtain ⟨o7, H⟩ := H
  refine wm_aald 6 _ 36 (by decide +kernel) rfl (Or.inl ⟨(W_st ha1).1, rfl⟩) (W_st ha1).2 o7 ?_
  refine wm_iload 4 38 (by decide +kernel) rfl rfl ?_
  replace H := H _ rfl
  refine wm_puti 3 2 41 fl_RX5_128 (by decide +kernel) rfl (E_st (W_st ha1).1 (vp_in_lt o7)) rfl rfl ⟨rfl, rfl⟩ ?_
  exact wm_vret (by decide +kernel) rfl H
def f_X5_readLine_J36 (a1 : Nat) (x2 : Int32) (x3 : Int32) (x4 : Int32)  (Q : HP → Prop) (h : HP) : Prop :=
  f_X5_takeNumber 0 x3 h (fun v6 h5 =>
  ((((gi h5 105 2) < 0) →
    f_X6_addLine a1 x2 x4 v6 h5 (fun v9 h8 =>
    vp_in v9 10 ∧
    f_X5_takeOption 6012 0 99 10 h8 (fun v12 h11 =>
    ∀ h13 : HP, h13 = si h11 ((a1 + 2) + 7 + 2 * ix v9) 3 v12 →
    f_X5_takeOption 6013 1 9 1 h13 (fun v15 h14 =>
    ∀ h16 : HP, h16 = si h14 ((a1 + 2) + 7 + 2 * ix v9) 4 v15 →
    f_X5_takeOption 6014 0 5 0 h16 (fun v18 h17 =>
    ∀ h19 : HP, h19 = si h17 ((a1 + 2) + 7 + 2 * ix v9) 5 v18 →
    f_X5_takeWord 6015 h19 (fun v21 h20 =>
    (((v21 = 0) →
      Q h20) ∧
     (¬ (v21 = 0) →
      f_X5_takeNumber 0 99 h20 (fun v24 h23 =>
      ∀ h25 : HP, h25 = si h23 ((a1 + 2) + 7 + 2 * ix v9) 6 v24 →
      f_X5_takeNumber 0 999 h25 (fun v27 h26 =>
      ∀ h28 : HP, h28 = si h26 ((a1 + 2) + 7 + 2 * ix v9) 7 v27 →
      Q h28)))))))))) ∧
   (¬ ((gi h5 105 2) < 0) →
    Q h5)))
def f_X5_readLine (a1 : Nat) (x2 : Int32) (h : HP) (Q : HP → Prop) : Prop :=
  ∀ x3_1 : Int32, x3_1 = ((gi h a1 2) - 1) →
  f_X5_takeNumber 0 x3_1 h (fun v3 h2 =>
  ((((gi h2 105 3) = 2) →
    ((((gi h2 105 6) = v3) →
      f_X5_fail h2 (fun h30 =>
      f_X5_readLine_J36 a1 x2 x3_1 v3  Q h30)) ∧
     (¬ ((gi h2 105 6) = v3) →
      f_X5_readLine_J36 a1 x2 x3_1 v3  Q h2))) ∧
   (¬ ((gi h2 105 3) = 2) →
    f_X5_readLine_J36 a1 x2 x3_1 v3  Q h2)))
set_option maxRecDepth 20000 in
theorem l_X5_readLine_J36 (g : GE) (a1 : Nat) (x2 : Int32) (x3 : Int32) (x4 : Int32) (ha1 : kd a1 = 6)  (Q : HP → Prop)  (h : HP) (H : f_X5_readLine_J36 a1 x2 x3 x4  Q h) : Wm g mX5_readLine 36 [some (.ref 105), some (.ref a1), some (.int x2), some (.int x3), some (.int x4), none, none] [] h (qv Q) := by
  unfold f_X5_readLine_J36 at H
  refine wm_aload_n 0 37 (by decide +kernel) rfl rfl ?_
  refine wm_iconst 0 38 (by decide +kernel : decode cX5_readLine 37 = .ok (.iconst 0, 1)) rfl (by decide +kernel) ?_
  refine wm_iload_n 3 39 (by decide +kernel) rfl rfl ?_
  refine wm_callVi mX5_takeNumber 2 5 [_, _] [] _ _ 42 mo_X5_takeNumber np_X5_takeNumber ml_RX5_68 im_X5_takeNumber se_X5_takeNumber (by decide +kernel) (by decide +kernel) rfl rfl rfl (Nat.le_of_ble_eq_true rfl) (by decide +kernel) rfl (Nat.le_of_ble_eq_true rfl) _ (ent_pad 1 rfl) (l_X5_takeNumber g _ _ _ _ H) (fun v6 h5 H hzv6 => ?_)
  refine wm_istore 5 44 [some _, some _, some _, some _, some _, some _, none] (by decide +kernel) rfl (by decide +kernel) (okS_spec rfl) rfl ?_
  refine wm_aload_n 0 45 (by decide +kernel) rfl rfl ?_
  refine wm_geti 5 2 48 fl_RX5_19 (by decide +kernel) rfl (by decide +kernel) rfl ?_
  refine wm_if_lt 51 52 (by decide +kernel : decode cX5_readLine 48 = .ok (.ifCond .lt 4, 3)) (by decide) rfl (fun c7 => ?_) (fun c7 => ?_)
  · replace H := H.1 c7
    refine wm_aload_n 1 53 (by decide +kernel) rfl rfl ?_
    refine wm_getr 6 5 2 _ 56 fl_RX5_132 (by decide +kernel) rfl ha1 rfl rfl (by decide) ?_
    refine wm_aload_n 1 57 (by decide +kernel) rfl rfl ?_
    refine wm_iload_n 2 58 (by decide +kernel) rfl rfl ?_
    refine wm_iload 4 60 (by decide +kernel) rfl rfl ?_
    refine wm_iload 5 62 (by decide +kernel) rfl rfl ?_
    refine wm_callVi mX6_addLine 3 6 [_, _, _] [_] _ _ 65 mo_X6_addLine np_X6_addLine ml_RX5_136 im_X6_addLine se_X6_addLine (by decide +kernel) (by decide +kernel) rfl rfl rfl (Nat.le_of_ble_eq_true rfl) ha1 rfl (Nat.le_of_ble_eq_true rfl) _ (ent_pad 1 rfl) (l_X6_addLine g _ _ _ _ ha1 _ _ H) (fun v9 h8 H hzv9 => ?_)
    obtain ⟨o10, H⟩ := H
    refine wm_aald 10 _ 66 (by decide +kernel) rfl (Or.inr (Or.inl ⟨(W_ln ha1).1, rfl⟩)) (W_ln ha1).2 o10 ?_
    refine wm_astore 6 68 [some _, some _, some _, some _, some _, some _, some _] (by decide +kernel) rfl (by decide +kernel) (okS_spec rfl) rfl ?_
    refine wm_aload 6 70 (by decide +kernel) rfl rfl ?_
    refine wm_aload_n 0 71 (by decide +kernel) rfl rfl ?_
    refine wm_ldcs 12 73 rfl (by decide) rfl (by decide +kernel) rfl ?_
    refine wm_iconst 0 74 (by decide +kernel : decode cX5_readLine 73 = .ok (.iconst 0, 1)) rfl (by decide +kernel) ?_
    refine wm_bipush 99 76 (by decide +kernel : decode cX5_readLine 74 = .ok (.bipush 99, 2)) rfl (by decide +kernel) ?_
    refine wm_bipush 10 78 (by decide +kernel : decode cX5_readLine 76 = .ok (.bipush 10, 2)) rfl (by decide +kernel) ?_
    refine wm_callVi mX5_takeOption 4 5 [_, _, _, _] [_] _ _ 81 mo_X5_takeOption np_X5_takeOption ml_RX5_115 im_X5_takeOption se_X5_takeOption (by decide +kernel) (by decide +kernel) rfl rfl rfl (Nat.le_of_ble_eq_true rfl) (by decide +kernel) rfl (Nat.le_of_ble_eq_true rfl) _ (ent_pad 0 rfl) (l_X5_takeOption g _ _ _ _ ⟨by decide, by decide⟩ _ _ H) (fun v12 h11 H hzv12 => ?_)
    replace H := H _ rfl
    refine wm_puti 0 3 84 fl_RX5_142 (by decide +kernel) rfl (E_ln (W_ln ha1).1 (vp_in_lt o10)) rfl rfl ⟨rfl, rfl⟩ ?_
    refine wm_aload 6 86 (by decide +kernel) rfl rfl ?_
    refine wm_aload_n 0 87 (by decide +kernel) rfl rfl ?_
    refine wm_ldcs 13 89 rfl (by decide) rfl (by decide +kernel) rfl ?_
    refine wm_iconst 1 90 (by decide +kernel : decode cX5_readLine 89 = .ok (.iconst 1, 1)) rfl (by decide +kernel) ?_
    refine wm_bipush 9 92 (by decide +kernel : decode cX5_readLine 90 = .ok (.bipush 9, 2)) rfl (by decide +kernel) ?_
    refine wm_iconst 1 93 (by decide +kernel : decode cX5_readLine 92 = .ok (.iconst 1, 1)) rfl (by decide +kernel) ?_
    refine wm_callVi mX5_takeOption 4 5 [_, _, _, _] [_] _ _ 96 mo_X5_takeOption np_X5_takeOption ml_RX5_115 im_X5_takeOption se_X5_takeOption (by decide +kernel) (by decide +kernel) rfl rfl rfl (Nat.le_of_ble_eq_true rfl) (by decide +kernel) rfl (Nat.le_of_ble_eq_true rfl) _ (ent_pad 0 rfl) (l_X5_takeOption g _ _ _ _ ⟨by decide, by decide⟩ _ _ H) (fun v15 h14 H hzv15 => ?_)
    replace H := H _ rfl
    refine wm_puti 0 4 99 fl_RX5_149 (by decide +kernel) rfl (E_ln (W_ln ha1).1 (vp_in_lt o10)) rfl rfl ⟨rfl, rfl⟩ ?_
    refine wm_aload 6 101 (by decide +kernel) rfl rfl ?_
    refine wm_aload_n 0 102 (by decide +kernel) rfl rfl ?_
    refine wm_ldcs 14 104 rfl (by decide) rfl (by decide +kernel) rfl ?_
    refine wm_iconst 0 105 (by decide +kernel : decode cX5_readLine 104 = .ok (.iconst 0, 1)) rfl (by decide +kernel) ?_
    refine wm_iconst 5 106 (by decide +kernel : decode cX5_readLine 105 = .ok (.iconst 5, 1)) rfl (by decide +kernel) ?_
    refine wm_iconst 0 107 (by decide +kernel : decode cX5_readLine 106 = .ok (.iconst 0, 1)) rfl (by decide +kernel) ?_
    refine wm_callVi mX5_takeOption 4 5 [_, _, _, _] [_] _ _ 110 mo_X5_takeOption np_X5_takeOption ml_RX5_115 im_X5_takeOption se_X5_takeOption (by decide +kernel) (by decide +kernel) rfl rfl rfl (Nat.le_of_ble_eq_true rfl) (by decide +kernel) rfl (Nat.le_of_ble_eq_true rfl) _ (ent_pad 0 rfl) (l_X5_takeOption g _ _ _ _ ⟨by decide, by decide⟩ _ _ H) (fun v18 h17 H hzv18 => ?_)
    replace H := H _ rfl
    refine wm_puti 0 5 113 fl_RX5_153 (by decide +kernel) rfl (E_ln (W_ln ha1).1 (vp_in_lt o10)) rfl rfl ⟨rfl, rfl⟩ ?_
    refine wm_aload_n 0 114 (by decide +kernel) rfl rfl ?_
    refine wm_ldcs 15 116 rfl (by decide) rfl (by decide +kernel) rfl ?_
    refine wm_callVi mX5_takeWord 1 5 [_] [] _ _ 119 mo_X5_takeWord np_X5_takeWord ml_RX5_65 im_X5_takeWord se_X5_takeWord (by decide +kernel) (by decide +kernel) rfl rfl rfl (Nat.le_of_ble_eq_true rfl) (by decide +kernel) rfl (Nat.le_of_ble_eq_true rfl) _ (ent_pad 1 rfl) (l_X5_takeWord g _ ⟨by decide, by decide⟩ _ _ H) (fun v21 h20 H hzv21 => ?_)
    refine wm_if_eq 122 147 (by decide +kernel : decode cX5_readLine 119 = .ok (.ifCond .eq 28, 3)) (by decide) rfl (fun c22 => ?_) (fun c22 => ?_)
    · replace H := H.1 c22
      exact wm_vret (by decide +kernel) rfl H
    · replace H := H.2 c22
      refine wm_aload 6 124 (by decide +kernel) rfl rfl ?_
      refine wm_aload_n 0 125 (by decide +kernel) rfl rfl ?_
      refine wm_iconst 0 126 (by decide +kernel : decode cX5_readLine 125 = .ok (.iconst 0, 1)) rfl (by decide +kernel) ?_
      refine wm_bipush 99 128 (by decide +kernel : decode cX5_readLine 126 = .ok (.bipush 99, 2)) rfl (by decide +kernel) ?_
      refine wm_callVi mX5_takeNumber 2 5 [_, _] [_] _ _ 131 mo_X5_takeNumber np_X5_takeNumber ml_RX5_68 im_X5_takeNumber se_X5_takeNumber (by decide +kernel) (by decide +kernel) rfl rfl rfl (Nat.le_of_ble_eq_true rfl) (by decide +kernel) rfl (Nat.le_of_ble_eq_true rfl) _ (ent_pad 1 rfl) (l_X5_takeNumber g _ _ _ _ H) (fun v24 h23 H hzv24 => ?_)
      replace H := H _ rfl
      refine wm_puti 0 6 134 fl_RX5_157 (by decide +kernel) rfl (E_ln (W_ln ha1).1 (vp_in_lt o10)) rfl rfl ⟨rfl, rfl⟩ ?_
      refine wm_aload 6 136 (by decide +kernel) rfl rfl ?_
      refine wm_aload_n 0 137 (by decide +kernel) rfl rfl ?_
      refine wm_iconst 0 138 (by decide +kernel : decode cX5_readLine 137 = .ok (.iconst 0, 1)) rfl (by decide +kernel) ?_
      refine wm_sipush 999 141 (by decide +kernel : decode cX5_readLine 138 = .ok (.sipush 999, 3)) rfl (by decide +kernel) ?_
      refine wm_callVi mX5_takeNumber 2 5 [_, _] [_] _ _ 144 mo_X5_takeNumber np_X5_takeNumber ml_RX5_68 im_X5_takeNumber se_X5_takeNumber (by decide +kernel) (by decide +kernel) rfl rfl rfl (Nat.le_of_ble_eq_true rfl) (by decide +kernel) rfl (Nat.le_of_ble_eq_true rfl) _ (ent_pad 1 rfl) (l_X5_takeNumber g _ _ _ _ H) (fun v27 h26 H hzv27 => ?_)
      replace H := H _ rfl
      refine wm_puti 0 7 147 fl_RX5_159 (by decide +kernel) rfl (E_ln (W_ln ha1).1 (vp_in_lt o10)) rfl rfl ⟨rfl, rfl⟩ ?_
      exact wm_vret (by decide +kernel) rfl H
  · replace H := H.2 c7
    exact wm_vret (by decide +kernel) rfl H
set_option maxRecDepth 20000 in
theorem l_X5_readLine (g : GE) (a1 : Nat) (x2 : Int32) (ha1 : kd a1 = 6) (h : HP) (Q : HP → Prop) (H : f_X5_readLine a1 x2 h Q) : Wm g mX5_readLine 0 [some (.ref 105), some (.ref a1), some (.int x2), none, none, none, none] [] h (qv Q) := by
  unfold f_X5_readLine at H
  refine wm_aload_n 1 1 (by decide +kernel) rfl rfl ?_
  refine wm_geti 6 2 4 fl_RX5_98 (by decide +kernel) rfl ha1 rfl ?_
  refine wm_iconst 1 5 (by decide +kernel : decode cX5_readLine 4 = .ok (.iconst 1, 1)) rfl (by decide +kernel) ?_
  refine wm_isub 6 (by decide +kernel) rfl ?_
  replace H := H _ rfl
  refine wm_istore_n 3 7 [some _, some _, some _, some _, none, none, none] (by decide +kernel) rfl (by decide +kernel) (okS_spec rfl) rfl ?_
  refine wm_aload_n 0 8 (by decide +kernel) rfl rfl ?_
  refine wm_iconst 0 9 (by decide +kernel : decode cX5_readLine 8 = .ok (.iconst 0, 1)) rfl (by decide +kernel) ?_
  refine wm_iload_n 3 10 (by decide +kernel) rfl rfl ?_
  refine wm_callVi mX5_takeNumber 2 5 [_, _] [] _ _ 13 mo_X5_takeNumber np_X5_takeNumber ml_RX5_68 im_X5_takeNumber se_X5_takeNumber (by decide +kernel) (by decide +kernel) rfl rfl rfl (Nat.le_of_ble_eq_true rfl) (by decide +kernel) rfl (Nat.le_of_ble_eq_true rfl) _ (ent_pad 1 rfl) (l_X5_takeNumber g _ _ _ _ H) (fun v3 h2 H hzv3 => ?_)
  refine wm_istore 4 15 [some _, some _, some _, some _, some _, none, none] (by decide +kernel) rfl (by decide +kernel) (okS_spec rfl) rfl ?_
  refine wm_aload_n 0 16 (by decide +kernel) rfl rfl ?_
  refine wm_geti 5 3 19 fl_RX5_28 (by decide +kernel) rfl (by decide +kernel) rfl ?_
  refine wm_iconst 2 20 (by decide +kernel : decode cX5_readLine 19 = .ok (.iconst 2, 1)) rfl (by decide +kernel) ?_
  refine wm_icmp_ne 23 36 (by decide +kernel : decode cX5_readLine 20 = .ok (.if_icmp .ne 16, 3)) (by decide) rfl (fun c4 => ?_) (fun c4 => ?_)
  · replace H := H.2 c4
    exact l_X5_readLine_J36 g _ _ _ _ ha1 _  _ H
  · replace H := H.1 c4
    refine wm_aload_n 0 24 (by decide +kernel) rfl rfl ?_
    refine wm_geti 5 6 27 fl_RX5_45 (by decide +kernel) rfl (by decide +kernel) rfl ?_
    refine wm_iload 4 29 (by decide +kernel) rfl rfl ?_
    refine wm_icmp_ne 32 36 (by decide +kernel : decode cX5_readLine 29 = .ok (.if_icmp .ne 7, 3)) (by decide) rfl (fun c29 => ?_) (fun c29 => ?_)
    · replace H := H.2 c29
      exact l_X5_readLine_J36 g _ _ _ _ ha1 _  _ H
    · replace H := H.1 c29
      refine wm_aload_n 0 33 (by decide +kernel) rfl rfl ?_
      refine wm_callVv mX5_fail 0 5 [] [] _ _ 36 mo_X5_fail np_X5_fail ml_RX5_31 im_X5_fail se_X5_fail (by decide +kernel) (by decide +kernel) rfl rfl rfl (Nat.le_of_ble_eq_true rfl) (by decide +kernel) rfl (Nat.le_of_ble_eq_true rfl) _ (ent_pad 0 rfl) (l_X5_fail g _ _ H) (fun h30 H => ?_)
      exact l_X5_readLine_J36 g _ _ _ _ ha1 _  _ H
def f_X5_readItem_J36 (a1 : Nat) (x3 : Int32)  (Q : HP → Prop) (h : HP) : Prop :=
  (((x3 < 0) →
    f_X5_fail h (fun h7 =>
    Q h7)) ∧
   (¬ (x3 < 0) →
    (((10 ≤ (gi h a1 3)) →
      f_X5_fail h (fun h9 =>
      Q h9)) ∧
     (¬ (10 ≤ (gi h a1 3)) →
      f_X5_readToken h (fun h10 =>
      f_X5_readLine a1 x3 h10 (fun h11 =>
      Q h11))))))
def f_X5_readItem (a1 : Nat) (h : HP) (Q : HP → Prop) : Prop :=
  f_X5_stationKind h (fun v2 h1 =>
  f_X5_lineKind h1 (fun v4 h3 =>
  (((v2 < 0) →
    f_X5_readItem_J36 a1 v4  Q h3) ∧
   (¬ (v2 < 0) →
    (((6 ≤ (gi h3 a1 2)) →
      f_X5_readItem_J36 a1 v4  Q h3) ∧
     (¬ (6 ≤ (gi h3 a1 2)) →
      f_X5_readToken h3 (fun h13 =>
      f_X5_readStation a1 v2 h13 (fun h14 =>
      Q h14))))))))
set_option maxRecDepth 20000 in
theorem l_X5_readItem_J36 (g : GE) (a1 : Nat) (x3 : Int32) (ha1 : kd a1 = 6)  (Q : HP → Prop)  (h : HP) (H : f_X5_readItem_J36 a1 x3  Q h) : Wm g mX5_readItem 36 [some (.ref 105), some (.ref a1), none, some (.int x3)] [] h (qv Q) := by
  unfold f_X5_readItem_J36 at H
  refine wm_iload_n 3 37 (by decide +kernel) rfl rfl ?_
  refine wm_if_lt 40 62 (by decide +kernel : decode cX5_readItem 37 = .ok (.ifCond .lt 25, 3)) (by decide) rfl (fun c6 => ?_) (fun c6 => ?_)
  · replace H := H.1 c6
    refine wm_aload_n 0 63 (by decide +kernel) rfl rfl ?_
    refine wm_callVv mX5_fail 0 5 [] [] _ _ 66 mo_X5_fail np_X5_fail ml_RX5_31 im_X5_fail se_X5_fail (by decide +kernel) (by decide +kernel) rfl rfl rfl (Nat.le_of_ble_eq_true rfl) (by decide +kernel) rfl (Nat.le_of_ble_eq_true rfl) _ (ent_pad 0 rfl) (l_X5_fail g _ _ H) (fun h7 H => ?_)
    exact wm_vret (by decide +kernel) rfl H
  · replace H := H.2 c6
    refine wm_aload_n 1 41 (by decide +kernel) rfl rfl ?_
    refine wm_geti 6 3 44 fl_RX5_107 (by decide +kernel) rfl ha1 rfl ?_
    refine wm_bipush 10 46 (by decide +kernel : decode cX5_readItem 44 = .ok (.bipush 10, 2)) rfl (by decide +kernel) ?_
    refine wm_icmp_ge 49 62 (by decide +kernel : decode cX5_readItem 46 = .ok (.if_icmp .ge 16, 3)) (by decide) rfl (fun c8 => ?_) (fun c8 => ?_)
    · replace H := H.1 c8
      refine wm_aload_n 0 63 (by decide +kernel) rfl rfl ?_
      refine wm_callVv mX5_fail 0 5 [] [] _ _ 66 mo_X5_fail np_X5_fail ml_RX5_31 im_X5_fail se_X5_fail (by decide +kernel) (by decide +kernel) rfl rfl rfl (Nat.le_of_ble_eq_true rfl) (by decide +kernel) rfl (Nat.le_of_ble_eq_true rfl) _ (ent_pad 0 rfl) (l_X5_fail g _ _ H) (fun h9 H => ?_)
      exact wm_vret (by decide +kernel) rfl H
    · replace H := H.2 c8
      refine wm_aload_n 0 50 (by decide +kernel) rfl rfl ?_
      refine wm_callVv mX5_readToken 0 5 [] [] _ _ 53 mo_X5_readToken np_X5_readToken ml_RX5_25 im_X5_readToken se_X5_readToken (by decide +kernel) (by decide +kernel) rfl rfl rfl (Nat.le_of_ble_eq_true rfl) (by decide +kernel) rfl (Nat.le_of_ble_eq_true rfl) _ (ent_pad 0 rfl) (l_X5_readToken g _ _ H) (fun h10 H => ?_)
      refine wm_aload_n 0 54 (by decide +kernel) rfl rfl ?_
      refine wm_aload_n 1 55 (by decide +kernel) rfl rfl ?_
      refine wm_iload_n 3 56 (by decide +kernel) rfl rfl ?_
      refine wm_callVv mX5_readLine 2 5 [_, _] [] _ _ 59 mo_X5_readLine np_X5_readLine ml_RX5_110 im_X5_readLine se_X5_readLine (by decide +kernel) (by decide +kernel) rfl rfl rfl (Nat.le_of_ble_eq_true rfl) (by decide +kernel) rfl (Nat.le_of_ble_eq_true rfl) _ (ent_pad 4 rfl) (l_X5_readLine g _ _ ha1 _ _ H) (fun h11 H => ?_)
      refine wm_goto 66 (by decide +kernel : decode cX5_readItem 59 = .ok (.goto 7, 3)) (by decide) ?_
      exact wm_vret (by decide +kernel) rfl H
set_option maxRecDepth 20000 in
theorem l_X5_readItem (g : GE) (a1 : Nat) (ha1 : kd a1 = 6) (h : HP) (Q : HP → Prop) (H : f_X5_readItem a1 h Q) : Wm g mX5_readItem 0 [some (.ref 105), some (.ref a1), none, none] [] h (qv Q) := by
  unfold f_X5_readItem at H
  refine wm_aload_n 0 1 (by decide +kernel) rfl rfl ?_
  refine wm_callVi mX5_stationKind 0 5 [] [] _ _ 4 mo_X5_stationKind np_X5_stationKind ml_RX5_92 im_X5_stationKind se_X5_stationKind (by decide +kernel) (by decide +kernel) rfl rfl rfl (Nat.le_of_ble_eq_true rfl) (by decide +kernel) rfl (Nat.le_of_ble_eq_true rfl) _ (ent_pad 0 rfl) (l_X5_stationKind g _ _ H) (fun v2 h1 H hzv2 => ?_)
  refine wm_istore_n 2 5 [some _, some _, some _, none] (by decide +kernel) rfl (by decide +kernel) (okS_spec rfl) rfl ?_
  refine wm_aload_n 0 6 (by decide +kernel) rfl rfl ?_
  refine wm_callVi mX5_lineKind 0 5 [] [] _ _ 9 mo_X5_lineKind np_X5_lineKind ml_RX5_95 im_X5_lineKind se_X5_lineKind (by decide +kernel) (by decide +kernel) rfl rfl rfl (Nat.le_of_ble_eq_true rfl) (by decide +kernel) rfl (Nat.le_of_ble_eq_true rfl) _ (ent_pad 0 rfl) (l_X5_lineKind g _ _ H) (fun v4 h3 H hzv4 => ?_)
  refine wm_istore_n 3 10 [some _, some _, some _, some _] (by decide +kernel) rfl (by decide +kernel) (okS_spec rfl) rfl ?_
  refine wm_iload_n 2 11 (by decide +kernel) rfl rfl ?_
  refine wm_if_lt 14 36 (by decide +kernel : decode cX5_readItem 11 = .ok (.ifCond .lt 25, 3)) (by decide) rfl (fun c5 => ?_) (fun c5 => ?_)
  · replace H := H.1 c5
    refine wm_mask [true, true, false, true] [some _, some _, none, some _] rfl ?_
    exact l_X5_readItem_J36 g _ _ ha1 _  _ H
  · replace H := H.2 c5
    refine wm_aload_n 1 15 (by decide +kernel) rfl rfl ?_
    refine wm_geti 6 2 18 fl_RX5_98 (by decide +kernel) rfl ha1 rfl ?_
    refine wm_bipush 6 20 (by decide +kernel : decode cX5_readItem 18 = .ok (.bipush 6, 2)) rfl (by decide +kernel) ?_
    refine wm_icmp_ge 23 36 (by decide +kernel : decode cX5_readItem 20 = .ok (.if_icmp .ge 16, 3)) (by decide) rfl (fun c12 => ?_) (fun c12 => ?_)
    · replace H := H.1 c12
      refine wm_mask [true, true, false, true] [some _, some _, none, some _] rfl ?_
      exact l_X5_readItem_J36 g _ _ ha1 _  _ H
    · replace H := H.2 c12
      refine wm_aload_n 0 24 (by decide +kernel) rfl rfl ?_
      refine wm_callVv mX5_readToken 0 5 [] [] _ _ 27 mo_X5_readToken np_X5_readToken ml_RX5_25 im_X5_readToken se_X5_readToken (by decide +kernel) (by decide +kernel) rfl rfl rfl (Nat.le_of_ble_eq_true rfl) (by decide +kernel) rfl (Nat.le_of_ble_eq_true rfl) _ (ent_pad 0 rfl) (l_X5_readToken g _ _ H) (fun h13 H => ?_)
      refine wm_aload_n 0 28 (by decide +kernel) rfl rfl ?_
      refine wm_aload_n 1 29 (by decide +kernel) rfl rfl ?_
      refine wm_iload_n 2 30 (by decide +kernel) rfl rfl ?_
      refine wm_callVv mX5_readStation 2 5 [_, _] [] _ _ 33 mo_X5_readStation np_X5_readStation ml_RX5_103 im_X5_readStation se_X5_readStation (by decide +kernel) (by decide +kernel) rfl rfl rfl (Nat.le_of_ble_eq_true rfl) (by decide +kernel) rfl (Nat.le_of_ble_eq_true rfl) _ (ent_pad 2 rfl) (l_X5_readStation g _ _ ha1 _ _ H) (fun h14 H => ?_)
      refine wm_goto 66 (by decide +kernel : decode cX5_readItem 33 = .ok (.goto 33, 3)) (by decide) ?_
      exact wm_vret (by decide +kernel) rfl H
def f_X7_text_L24  (k62 : Int32 → HP → Prop) (Q : Int32 → HP → Prop) : Nat → Int32 → Int32 → Int32 → HP → Prop
  | 0, _, _, _, _ => False
  | n + 1, x1, x2, x3, h =>
    (((120 ≤ x3) →
      k62 x1 h) ∧
     (¬ (120 ≤ x3) →
      (((x2 = 0) →
        k62 x1 h) ∧
       (¬ (x2 = 0) →
        f_X5_readItem 59 h (fun h5 =>
        ∀ x1_6 : Int32, x1_6 = (x1 + 1) →
        f_X5_takeSign h5 (fun v8 h7 =>
        ∀ x3_9 : Int32, x3_9 = (x3 + 1) →
        f_X7_text_L24 k62 Q n x1_6 v8 x3_9 h7))))))
def f_X7_text_J62 (x1 : Int32)  (Q : Int32 → HP → Prop) (h : HP) : Prop :=
  ∀ h12 : HP, h12 = si h 105 1 0 →
  ((((gi h12 105 2) < 0) →
    f_X6_become 1 59 h12 (fun h14 =>
    Q x1 h14)) ∧
   (¬ ((gi h12 105 2) < 0) →
    Q ((-1 : Int32) - (gi h12 105 2)) h12))
def f_X7_text  (h : HP) (Q : Int32 → HP → Prop) : Prop :=
  f_X6_become 59 1 h (fun h1 =>
  f_X5_start h1 (fun h2 =>
  ∃ n15, f_X7_text_L24 
    (fun x1_10 h11 =>
      f_X7_text_J62 x1_10  Q h11)
    Q n15 0 1 0 h2))
set_option maxRecDepth 20000 in
theorem l_X7_text_L24 (g : GE)   (k62 : Int32 → HP → Prop) (Q : Int32 → HP → Prop) (hk62 : ∀ (x1 : Int32) (h : HP), k62 x1 h → Wm g mX7_text 62 [some (.ref 0), some (.int x1), none, none] [] h (qi Q)) : ∀ (n : Nat) (x1 : Int32) (x2 : Int32) (x3 : Int32) (hzx2 : narrow .boolean (.int x2) = .int x2) (h : HP), f_X7_text_L24 k62 Q n x1 x2 x3 h → Wm g mX7_text 24 [some (.ref 0), some (.int x1), some (.int x2), some (.int x3)] [] h (qi Q) := by
  intro n
  induction n with
  | zero => intro x1 x2 x3 hzx2 h H; exact H.elim
  | succ n ih =>
    intro x1 x2 x3 hzx2 h H
    unfold f_X7_text_L24 at H
    refine wm_iload_n 3 25 (by decide +kernel) rfl rfl ?_
    refine wm_bipush 120 27 (by decide +kernel : decode cX7_text 25 = .ok (.bipush 120, 2)) rfl (by decide +kernel) ?_
    refine wm_icmp_ge 30 62 (by decide +kernel : decode cX7_text 27 = .ok (.if_icmp .ge 35, 3)) (by decide) rfl (fun c3 => ?_) (fun c3 => ?_)
    · replace H := H.1 c3
      refine wm_mask [true, true, false, false] [some _, some _, none, none] rfl ?_
      exact hk62 _ _ H
    · replace H := H.2 c3
      refine wm_iload_n 2 31 (by decide +kernel) rfl rfl ?_
      refine wm_if_eq 34 62 (by decide +kernel : decode cX7_text 31 = .ok (.ifCond .eq 31, 3)) (by decide) rfl (fun c4 => ?_) (fun c4 => ?_)
      · replace H := H.1 c4
        refine wm_mask [true, true, false, false] [some _, some _, none, none] rfl ?_
        exact hk62 _ _ H
      · replace H := H.2 c4
        refine wm_aload_n 0 35 (by decide +kernel) rfl rfl ?_
        refine wm_getr 7 5 105 105 38 fl_RX7_39 (by decide +kernel) rfl (by decide +kernel) rfl rfl (by decide) ?_
        refine wm_aload_n 0 39 (by decide +kernel) rfl rfl ?_
        refine wm_getr 7 2 59 59 42 fl_RX7_19 (by decide +kernel) rfl (by decide +kernel) rfl rfl (by decide) ?_
        refine wm_callVv mX5_readItem 1 5 [_] [] _ _ 45 mo_X5_readItem np_X5_readItem ml_RX7_287 im_X5_readItem se_X5_readItem (by decide +kernel) (by decide +kernel) rfl rfl rfl (Nat.le_of_ble_eq_true rfl) (by decide +kernel) rfl (Nat.le_of_ble_eq_true rfl) _ (ent_pad 2 rfl) (l_X5_readItem g _ (by decide +kernel) _ _ H) (fun h5 H => ?_)
        replace H := H _ rfl
        refine wm_iinc 1 (_ + 1) 48 [some _, some _, some _, some _] (by decide +kernel : decode cX7_text 45 = .ok (.iinc 1 1, 3)) rfl (by decide +kernel) rfl (ofI_eq (by decide +kernel)) (okS_spec rfl) rfl ?_
        refine wm_aload_n 0 49 (by decide +kernel) rfl rfl ?_
        refine wm_getr 7 5 105 105 52 fl_RX7_39 (by decide +kernel) rfl (by decide +kernel) rfl rfl (by decide) ?_
        refine wm_callVi mX5_takeSign 0 5 [] [] _ _ 55 mo_X5_takeSign np_X5_takeSign ml_RX7_290 im_X5_takeSign se_X5_takeSign (by decide +kernel) (by decide +kernel) rfl rfl rfl (Nat.le_of_ble_eq_true rfl) (by decide +kernel) rfl (Nat.le_of_ble_eq_true rfl) _ (ent_pad 0 rfl) (l_X5_takeSign g _ _ H) (fun v8 h7 H hzv8 => ?_)
        refine wm_istore_n 2 56 [some _, some _, some _, some _] (by decide +kernel) rfl (by decide +kernel) (okS_spec rfl) rfl ?_
        replace H := H _ rfl
        refine wm_iinc 3 (_ + 1) 59 [some _, some _, some _, some _] (by decide +kernel : decode cX7_text 56 = .ok (.iinc 3 1, 3)) rfl (by decide +kernel) rfl (ofI_eq (by decide +kernel)) (okS_spec rfl) rfl ?_
        refine wm_goto 24 (by decide +kernel : decode cX7_text 59 = .ok (.goto (-35), 3)) (by decide) ?_
        exact ih _ _ _ (rv_bool hzv8 rfl) _ H
set_option maxRecDepth 20000 in
theorem l_X7_text_J62 (g : GE) (x1 : Int32)   (Q : Int32 → HP → Prop)  (h : HP) (H : f_X7_text_J62 x1  Q h) : Wm g mX7_text 62 [some (.ref 0), some (.int x1), none, none] [] h (qi Q) := by
  unfold f_X7_text_J62 at H
  refine wm_aload_n 0 63 (by decide +kernel) rfl rfl ?_
  refine wm_getr 7 5 105 105 66 fl_RX7_39 (by decide +kernel) rfl (by decide +kernel) rfl rfl (by decide) ?_
  refine wm_iconst 0 67 (by decide +kernel : decode cX7_text 66 = .ok (.iconst 0, 1)) rfl (by decide +kernel) ?_
  replace H := H _ rfl
  refine wm_puti 5 1 70 fl_RX7_277 (by decide +kernel) rfl (by decide +kernel) rfl rfl ⟨rfl, rfl⟩ ?_
  refine wm_aload_n 0 71 (by decide +kernel) rfl rfl ?_
  refine wm_getr 7 5 105 105 74 fl_RX7_39 (by decide +kernel) rfl (by decide +kernel) rfl rfl (by decide) ?_
  refine wm_geti 5 2 77 fl_RX7_294 (by decide +kernel) rfl (by decide +kernel) rfl ?_
  refine wm_if_lt 80 90 (by decide +kernel : decode cX7_text 77 = .ok (.ifCond .lt 13, 3)) (by decide) rfl (fun c13 => ?_) (fun c13 => ?_)
  · replace H := H.1 c13
    refine wm_aload_n 0 91 (by decide +kernel) rfl rfl ?_
    refine wm_getr 7 0 1 1 94 fl_RX7_10 (by decide +kernel) rfl (by decide +kernel) rfl rfl (by decide) ?_
    refine wm_aload_n 0 95 (by decide +kernel) rfl rfl ?_
    refine wm_getr 7 2 59 59 98 fl_RX7_19 (by decide +kernel) rfl (by decide +kernel) rfl rfl (by decide) ?_
    refine wm_callVv mX6_become 1 6 [_] [] _ _ 101 mo_X6_become np_X6_become ml_RX7_253 im_X6_become se_X6_become (by decide +kernel) (by decide +kernel) rfl rfl rfl (Nat.le_of_ble_eq_true rfl) (by decide +kernel) rfl (Nat.le_of_ble_eq_true rfl) _ (ent_pad 1 rfl) (l_X6_become g _ _ (by decide +kernel) (by decide +kernel) _ _ H) (fun h14 H => ?_)
    refine wm_iload_n 1 102 (by decide +kernel) rfl rfl ?_
    exact wm_iret (by decide +kernel) ⟨.int, rfl, rfl⟩ H
  · replace H := H.2 c13
    refine wm_iconst (-1) 81 (by decide +kernel : decode cX7_text 80 = .ok (.iconst (-1), 1)) rfl (by decide +kernel) ?_
    refine wm_aload_n 0 82 (by decide +kernel) rfl rfl ?_
    refine wm_getr 7 5 105 105 85 fl_RX7_39 (by decide +kernel) rfl (by decide +kernel) rfl rfl (by decide) ?_
    refine wm_geti 5 2 88 fl_RX7_294 (by decide +kernel) rfl (by decide +kernel) rfl ?_
    refine wm_isub 89 (by decide +kernel) rfl ?_
    exact wm_iret (by decide +kernel) ⟨.int, rfl, rfl⟩ H
set_option maxRecDepth 20000 in
theorem l_X7_text (g : GE)   (h : HP) (Q : Int32 → HP → Prop) (H : f_X7_text  h Q) : Wm g mX7_text 0 [some (.ref 0), none, none, none] [] h (qi Q) := by
  unfold f_X7_text at H
  refine wm_aload_n 0 1 (by decide +kernel) rfl rfl ?_
  refine wm_getr 7 2 59 59 4 fl_RX7_19 (by decide +kernel) rfl (by decide +kernel) rfl rfl (by decide) ?_
  refine wm_aload_n 0 5 (by decide +kernel) rfl rfl ?_
  refine wm_getr 7 0 1 1 8 fl_RX7_10 (by decide +kernel) rfl (by decide +kernel) rfl rfl (by decide) ?_
  refine wm_callVv mX6_become 1 6 [_] [] _ _ 11 mo_X6_become np_X6_become ml_RX7_253 im_X6_become se_X6_become (by decide +kernel) (by decide +kernel) rfl rfl rfl (Nat.le_of_ble_eq_true rfl) (by decide +kernel) rfl (Nat.le_of_ble_eq_true rfl) _ (ent_pad 1 rfl) (l_X6_become g _ _ (by decide +kernel) (by decide +kernel) _ _ H) (fun h1 H => ?_)
  refine wm_aload_n 0 12 (by decide +kernel) rfl rfl ?_
  refine wm_getr 7 5 105 105 15 fl_RX7_39 (by decide +kernel) rfl (by decide +kernel) rfl rfl (by decide) ?_
  refine wm_callVv mX5_start 0 5 [] [] _ _ 18 mo_X5_start np_X5_start ml_RX7_284 im_X5_start se_X5_start (by decide +kernel) (by decide +kernel) rfl rfl rfl (Nat.le_of_ble_eq_true rfl) (by decide +kernel) rfl (Nat.le_of_ble_eq_true rfl) _ (ent_pad 0 rfl) (l_X5_start g _ _ H) (fun h2 H => ?_)
  refine wm_iconst 0 19 (by decide +kernel : decode cX7_text 18 = .ok (.iconst 0, 1)) rfl (by decide +kernel) ?_
  refine wm_istore_n 1 20 [some _, some _, none, none] (by decide +kernel) rfl (by decide +kernel) (okS_spec rfl) rfl ?_
  refine wm_iconst 1 21 (by decide +kernel : decode cX7_text 20 = .ok (.iconst 1, 1)) rfl (by decide +kernel) ?_
  refine wm_istore_n 2 22 [some _, some _, some _, none] (by decide +kernel) rfl (by decide +kernel) (okS_spec rfl) rfl ?_
  refine wm_iconst 0 23 (by decide +kernel : decode cX7_text 22 = .ok (.iconst 0, 1)) rfl (by decide +kernel) ?_
  refine wm_istore_n 3 24 [some _, some _, some _, some _] (by decide +kernel) rfl (by decide +kernel) (okS_spec rfl) rfl ?_
  obtain ⟨n15, H⟩ := H
  refine l_X7_text_L24 g _ _ (fun x1_10 h11 H => ?_) _ _ _ _ (by decide +kernel) _ H
  · skip
    exact l_X7_text_J62 g _ _  _ H
