/-! the constructor of the reference -/
theorem wz {h : HP} {a k : Nat} (hz : ZH h) (ha : a ≠ 139) : gi (wHh h 128) a k = 0 := by rw [gi_wH, if_neg (fun z => ha z.1)]; exact hz.1 a k
section Ini
variable {g : GE} {q : PG} {h : HP} {N0 N1 : Nat} {ls : List (Option Value)} {Q : Nat → List (Option Value) → PG → HP → Prop}
theorem words_loop (hN : 140 ≤ N1) (K : Wc g mX8_init N0 N1 140 949 ls [.ref 139, .ref 117] q (wHh h 128) Q) : ∀ r k, k + r = 128 → Wc g mX8_init N0 N1 140 (pcW k) ls [.ref 139, .ref 117] q (wHh h k) Q := by
  intro r
  induction r with
  | zero =>
    intro k hk
    rw [show k = 128 by omega]
    exact K
  | succ r ih =>
    intro k hk
    obtain ⟨d1, d2, d3, d4, e1, e2, e3, e4⟩ := dec_W (k := k) (by omega)
    have hc : Wc g mX8_init N0 N1 140 (pcW (k + 1) - 3) ls [.int (nI k), .ref 139, .ref 139, .ref 117] q (wHh h k) Q := by
      refine wc_bipush (wd8 k) (pcW (k + 1) - 1) d3 ?_ e1 hN ?_
      · unfold pcW
        split <;> omega
      · refine wc_castc (pcW (k + 1)) (by decide +kernel : kd 139 = 11) (by omega) (by omega) (vp_in_nI (by rw [(by decide +kernel : kn 139 = 128)]; omega) (by decide +kernel)) e2 d4 ?_ hN ?_
        · unfold pcW
          split <;> omega
        · rw [ix_nI (by omega), wH_1]
          exact ih (k + 1) (by omega)
    refine wc_dup (pcW k + 1) d1 rfl rfl hN ?_
    by_cases z : k < 6
    · rw [if_pos z] at d2
      refine wc_iconst (nI k) (pcW (k + 1) - 3) d2 ?_ e3 hN hc
      unfold pcW
      rw [if_pos (by omega), if_pos (by omega)]
      omega
    · rw [if_neg z] at d2
      refine wc_bipush (nI k) (pcW (k + 1) - 3) d2 ?_ e4 hN hc
      unfold pcW
      rw [if_neg (by omega : ¬ k + 1 ≤ 6)]
      split <;> omega
theorem words_all (hN : 140 ≤ N1) (K : Wc g mX8_init N0 N1 140 949 ls [.ref 139, .ref 117] q (wHh h 128) Q) : Wc g mX8_init N0 N1 140 187 ls [.ref 139, .ref 117] q h Q := by
  have := words_loop hN K 128 0 rfl
  rw [wH_0] at this
  exact this
def KM (q : PG) (h : HP) : PG → HP → Prop := fun q' h' => h' = wHh h 128 ∧ (∀ i, i < 117 → q' i = q i) ∧ Ful q' 117 146
theorem k_Model (hq : q 117 = 0) (hz : ZH h) : Wc g mX8_init 118 146 118 0 [some (.ref 117)] [] q h (rtC mX8_init (KM q h)) := by
  refine wc_aload_n 0 1 (by decide +kernel) rfl rfl (by omega) ?_
  refine wc_obj 4 mi_RX8_1 (by decide) (by decide) (by decide +kernel) rfl (by omega) ?_
  refine wc_aload_n 0 5 (by decide +kernel) rfl rfl (by omega) ?_
  refine wc_bipush 8 7 (by decide +kernel : decode cX8_init 5 = .ok (.bipush 8, 2)) rfl (by decide +kernel) (by omega) ?_
  refine wc_newa 9 (Or.inl ⟨(by decide +kernel), rfl⟩) (by decide +kernel) rfl (by decide +kernel) (by decide +kernel) (fun k => hz.1 _ k) (fun k => hz.2 _ k) (by omega) (by omega) ?_
  refine wc_putr 8 0 1 0 12 fl_RX8_7 (by decide +kernel) rfl (by decide +kernel) (by omega) rfl rfl hq (by decide) (by decide +kernel) rfl rfl rfl (fun z => ⟨rfl, rfl⟩) (by omega) (by omega) (by omega) ?_
  refine wc_aload_n 0 13 (by decide +kernel) rfl rfl (by omega) ?_
  refine wc_bipush 6 15 (by decide +kernel : decode cX8_init 13 = .ok (.bipush 6, 2)) rfl (by decide +kernel) (by omega) ?_
  refine wc_newa 17 (Or.inl ⟨(by decide +kernel), rfl⟩) (by decide +kernel) rfl (by decide +kernel) (by decide +kernel) (fun k => hz.1 _ k) (fun k => hz.2 _ k) (by omega) (by omega) ?_
  refine wc_putr 8 4 2 1 20 fl_RX8_13 (by decide +kernel) rfl (by decide +kernel) (by omega) rfl rfl upP_s (by decide) (by decide +kernel) rfl rfl rfl (fun z => ⟨rfl, rfl⟩) (by omega) (by omega) (by omega) ?_
  rw [upP_u]
  refine wc_aload_n 0 21 (by decide +kernel) rfl rfl (by omega) ?_
  refine wc_bipush 6 23 (by decide +kernel : decode cX8_init 21 = .ok (.bipush 6, 2)) rfl (by decide +kernel) (by omega) ?_
  refine wc_newa 25 (Or.inl ⟨(by decide +kernel), rfl⟩) (by decide +kernel) rfl (by decide +kernel) (by decide +kernel) (fun k => hz.1 _ k) (fun k => hz.2 _ k) (by omega) (by omega) ?_
  refine wc_putr 8 5 3 5 28 fl_RX8_16 (by decide +kernel) rfl (by decide +kernel) (by omega) rfl rfl upP_s (by decide) (by decide +kernel) rfl rfl rfl (fun z => ⟨rfl, rfl⟩) (by omega) (by omega) (by omega) ?_
  rw [upP_u]
  refine wc_aload_n 0 29 (by decide +kernel) rfl rfl (by omega) ?_
  refine wc_bipush 6 31 (by decide +kernel : decode cX8_init 29 = .ok (.bipush 6, 2)) rfl (by decide +kernel) (by omega) ?_
  refine wc_newa 33 (Or.inl ⟨(by decide +kernel), rfl⟩) (by decide +kernel) rfl (by decide +kernel) (by decide +kernel) (fun k => hz.1 _ k) (fun k => hz.2 _ k) (by omega) (by omega) ?_
  refine wc_putr 8 6 4 6 36 fl_RX8_19 (by decide +kernel) rfl (by decide +kernel) (by omega) rfl rfl upP_s (by decide) (by decide +kernel) rfl rfl rfl (fun z => ⟨rfl, rfl⟩) (by omega) (by omega) (by omega) ?_
  rw [upP_u]
  refine wc_aload_n 0 37 (by decide +kernel) rfl rfl (by omega) ?_
  refine wc_bipush 80 39 (by decide +kernel : decode cX8_init 37 = .ok (.bipush 80, 2)) rfl (by decide +kernel) (by omega) ?_
  refine wc_newa 41 (Or.inl ⟨(by decide +kernel), rfl⟩) (by decide +kernel) rfl (by decide +kernel) (by decide +kernel) (fun k => hz.1 _ k) (fun k => hz.2 _ k) (by omega) (by omega) ?_
  refine wc_putr 8 8 5 7 44 fl_RX8_22 (by decide +kernel) rfl (by decide +kernel) (by omega) rfl rfl upP_s (by decide) (by decide +kernel) rfl rfl rfl (fun z => ⟨rfl, rfl⟩) (by omega) (by omega) (by omega) ?_
  rw [upP_u]
  refine wc_aload_n 0 45 (by decide +kernel) rfl rfl (by omega) ?_
  refine wc_bipush 10 47 (by decide +kernel : decode cX8_init 45 = .ok (.bipush 10, 2)) rfl (by decide +kernel) (by omega) ?_
  refine wc_newa 49 (Or.inl ⟨(by decide +kernel), rfl⟩) (by decide +kernel) rfl (by decide +kernel) (by decide +kernel) (fun k => hz.1 _ k) (fun k => hz.2 _ k) (by omega) (by omega) ?_
  refine wc_putr 8 9 6 9 52 fl_RX8_25 (by decide +kernel) rfl (by decide +kernel) (by omega) rfl rfl upP_s (by decide) (by decide +kernel) rfl rfl rfl (fun z => ⟨rfl, rfl⟩) (by omega) (by omega) (by omega) ?_
  rw [upP_u]
  refine wc_aload_n 0 53 (by decide +kernel) rfl rfl (by omega) ?_
  refine wc_sipush 160 56 (by decide +kernel : decode cX8_init 53 = .ok (.sipush 160, 3)) rfl (by decide +kernel) (by omega) ?_
  refine wc_newa 58 (Or.inl ⟨(by decide +kernel), rfl⟩) (by decide +kernel) rfl (by decide +kernel) (by decide +kernel) (fun k => hz.1 _ k) (fun k => hz.2 _ k) (by omega) (by omega) ?_
  refine wc_putr 8 10 7 10 61 fl_RX8_28 (by decide +kernel) rfl (by decide +kernel) (by omega) rfl rfl upP_s (by decide) (by decide +kernel) rfl rfl rfl (fun z => ⟨rfl, rfl⟩) (by omega) (by omega) (by omega) ?_
  rw [upP_u]
  refine wc_aload_n 0 62 (by decide +kernel) rfl rfl (by omega) ?_
  refine wc_sipush 250 65 (by decide +kernel : decode cX8_init 62 = .ok (.sipush 250, 3)) rfl (by decide +kernel) (by omega) ?_
  refine wc_newa 67 (Or.inl ⟨(by decide +kernel), rfl⟩) (by decide +kernel) rfl (by decide +kernel) (by decide +kernel) (fun k => hz.1 _ k) (fun k => hz.2 _ k) (by omega) (by omega) ?_
  refine wc_putr 8 11 8 11 70 fl_RX8_31 (by decide +kernel) rfl (by decide +kernel) (by omega) rfl rfl upP_s (by decide) (by decide +kernel) rfl rfl rfl (fun z => ⟨rfl, rfl⟩) (by omega) (by omega) (by omega) ?_
  rw [upP_u]
  refine wc_aload_n 0 71 (by decide +kernel) rfl rfl (by omega) ?_
  refine wc_sipush 150 74 (by decide +kernel : decode cX8_init 71 = .ok (.sipush 150, 3)) rfl (by decide +kernel) (by omega) ?_
  refine wc_newa 76 (Or.inl ⟨(by decide +kernel), rfl⟩) (by decide +kernel) rfl (by decide +kernel) (by decide +kernel) (fun k => hz.1 _ k) (fun k => hz.2 _ k) (by omega) (by omega) ?_
  refine wc_putr 8 12 9 12 79 fl_RX8_34 (by decide +kernel) rfl (by decide +kernel) (by omega) rfl rfl upP_s (by decide) (by decide +kernel) rfl rfl rfl (fun z => ⟨rfl, rfl⟩) (by omega) (by omega) (by omega) ?_
  rw [upP_u]
  refine wc_aload_n 0 80 (by decide +kernel) rfl rfl (by omega) ?_
  refine wc_sipush 150 83 (by decide +kernel : decode cX8_init 80 = .ok (.sipush 150, 3)) rfl (by decide +kernel) (by omega) ?_
  refine wc_newa 85 (Or.inl ⟨(by decide +kernel), rfl⟩) (by decide +kernel) rfl (by decide +kernel) (by decide +kernel) (fun k => hz.1 _ k) (fun k => hz.2 _ k) (by omega) (by omega) ?_
  refine wc_putr 8 13 10 13 88 fl_RX8_37 (by decide +kernel) rfl (by decide +kernel) (by omega) rfl rfl upP_s (by decide) (by decide +kernel) rfl rfl rfl (fun z => ⟨rfl, rfl⟩) (by omega) (by omega) (by omega) ?_
  rw [upP_u]
  refine wc_aload_n 0 89 (by decide +kernel) rfl rfl (by omega) ?_
  refine wc_sipush 150 92 (by decide +kernel : decode cX8_init 89 = .ok (.sipush 150, 3)) rfl (by decide +kernel) (by omega) ?_
  refine wc_newa 94 (Or.inl ⟨(by decide +kernel), rfl⟩) (by decide +kernel) rfl (by decide +kernel) (by decide +kernel) (fun k => hz.1 _ k) (fun k => hz.2 _ k) (by omega) (by omega) ?_
  refine wc_putr 8 14 11 14 97 fl_RX8_40 (by decide +kernel) rfl (by decide +kernel) (by omega) rfl rfl upP_s (by decide) (by decide +kernel) rfl rfl rfl (fun z => ⟨rfl, rfl⟩) (by omega) (by omega) (by omega) ?_
  rw [upP_u]
  refine wc_aload_n 0 98 (by decide +kernel) rfl rfl (by omega) ?_
  refine wc_sipush 150 101 (by decide +kernel : decode cX8_init 98 = .ok (.sipush 150, 3)) rfl (by decide +kernel) (by omega) ?_
  refine wc_newa 103 (Or.inl ⟨(by decide +kernel), rfl⟩) (by decide +kernel) rfl (by decide +kernel) (by decide +kernel) (fun k => hz.1 _ k) (fun k => hz.2 _ k) (by omega) (by omega) ?_
  refine wc_putr 8 15 12 15 106 fl_RX8_43 (by decide +kernel) rfl (by decide +kernel) (by omega) rfl rfl upP_s (by decide) (by decide +kernel) rfl rfl rfl (fun z => ⟨rfl, rfl⟩) (by omega) (by omega) (by omega) ?_
  rw [upP_u]
  refine wc_aload_n 0 107 (by decide +kernel) rfl rfl (by omega) ?_
  refine wc_sipush 250 110 (by decide +kernel : decode cX8_init 107 = .ok (.sipush 250, 3)) rfl (by decide +kernel) (by omega) ?_
  refine wc_newa 112 (Or.inl ⟨(by decide +kernel), rfl⟩) (by decide +kernel) rfl (by decide +kernel) (by decide +kernel) (fun k => hz.1 _ k) (fun k => hz.2 _ k) (by omega) (by omega) ?_
  refine wc_putr 8 16 13 16 115 fl_RX8_46 (by decide +kernel) rfl (by decide +kernel) (by omega) rfl rfl upP_s (by decide) (by decide +kernel) rfl rfl rfl (fun z => ⟨rfl, rfl⟩) (by omega) (by omega) (by omega) ?_
  rw [upP_u]
  refine wc_aload_n 0 116 (by decide +kernel) rfl rfl (by omega) ?_
  refine wc_bipush 10 118 (by decide +kernel : decode cX8_init 116 = .ok (.bipush 10, 2)) rfl (by decide +kernel) (by omega) ?_
  refine wc_newa 120 (Or.inl ⟨(by decide +kernel), rfl⟩) (by decide +kernel) rfl (by decide +kernel) (by decide +kernel) (fun k => hz.1 _ k) (fun k => hz.2 _ k) (by omega) (by omega) ?_
  refine wc_putr 8 17 14 17 123 fl_RX8_49 (by decide +kernel) rfl (by decide +kernel) (by omega) rfl rfl upP_s (by decide) (by decide +kernel) rfl rfl rfl (fun z => ⟨rfl, rfl⟩) (by omega) (by omega) (by omega) ?_
  rw [upP_u]
  refine wc_aload_n 0 124 (by decide +kernel) rfl rfl (by omega) ?_
  refine wc_sipush 150 127 (by decide +kernel : decode cX8_init 124 = .ok (.sipush 150, 3)) rfl (by decide +kernel) (by omega) ?_
  refine wc_newa 129 (Or.inl ⟨(by decide +kernel), rfl⟩) (by decide +kernel) rfl (by decide +kernel) (by decide +kernel) (fun k => hz.1 _ k) (fun k => hz.2 _ k) (by omega) (by omega) ?_
  refine wc_putr 8 18 15 18 132 fl_RX8_52 (by decide +kernel) rfl (by decide +kernel) (by omega) rfl rfl upP_s (by decide) (by decide +kernel) rfl rfl rfl (fun z => ⟨rfl, rfl⟩) (by omega) (by omega) (by omega) ?_
  rw [upP_u]
  refine wc_aload_n 0 133 (by decide +kernel) rfl rfl (by omega) ?_
  refine wc_sipush 150 136 (by decide +kernel : decode cX8_init 133 = .ok (.sipush 150, 3)) rfl (by decide +kernel) (by omega) ?_
  refine wc_newa 138 (Or.inl ⟨(by decide +kernel), rfl⟩) (by decide +kernel) rfl (by decide +kernel) (by decide +kernel) (fun k => hz.1 _ k) (fun k => hz.2 _ k) (by omega) (by omega) ?_
  refine wc_putr 8 19 16 19 141 fl_RX8_55 (by decide +kernel) rfl (by decide +kernel) (by omega) rfl rfl upP_s (by decide) (by decide +kernel) rfl rfl rfl (fun z => ⟨rfl, rfl⟩) (by omega) (by omega) (by omega) ?_
  rw [upP_u]
  refine wc_aload_n 0 142 (by decide +kernel) rfl rfl (by omega) ?_
  refine wc_bipush 10 144 (by decide +kernel : decode cX8_init 142 = .ok (.bipush 10, 2)) rfl (by decide +kernel) (by omega) ?_
  refine wc_newa 146 (Or.inl ⟨(by decide +kernel), rfl⟩) (by decide +kernel) rfl (by decide +kernel) (by decide +kernel) (fun k => hz.1 _ k) (fun k => hz.2 _ k) (by omega) (by omega) ?_
  refine wc_putr 8 21 17 20 149 fl_RX8_58 (by decide +kernel) rfl (by decide +kernel) (by omega) rfl rfl upP_s (by decide) (by decide +kernel) rfl rfl rfl (fun z => ⟨rfl, rfl⟩) (by omega) (by omega) (by omega) ?_
  rw [upP_u]
  refine wc_aload_n 0 150 (by decide +kernel) rfl rfl (by omega) ?_
  refine wc_bipush 6 152 (by decide +kernel : decode cX8_init 150 = .ok (.bipush 6, 2)) rfl (by decide +kernel) (by omega) ?_
  refine wc_newa 154 (Or.inl ⟨(by decide +kernel), rfl⟩) (by decide +kernel) rfl (by decide +kernel) (by decide +kernel) (fun k => hz.1 _ k) (fun k => hz.2 _ k) (by omega) (by omega) ?_
  refine wc_putr 8 22 18 22 157 fl_RX8_61 (by decide +kernel) rfl (by decide +kernel) (by omega) rfl rfl upP_s (by decide) (by decide +kernel) rfl rfl rfl (fun z => ⟨rfl, rfl⟩) (by omega) (by omega) (by omega) ?_
  rw [upP_u]
  refine wc_aload_n 0 158 (by decide +kernel) rfl rfl (by omega) ?_
  refine wc_bipush 6 160 (by decide +kernel : decode cX8_init 158 = .ok (.bipush 6, 2)) rfl (by decide +kernel) (by omega) ?_
  refine wc_newa 162 (Or.inl ⟨(by decide +kernel), rfl⟩) (by decide +kernel) rfl (by decide +kernel) (by decide +kernel) (fun k => hz.1 _ k) (fun k => hz.2 _ k) (by omega) (by omega) ?_
  refine wc_putr 8 23 19 23 165 fl_RX8_64 (by decide +kernel) rfl (by decide +kernel) (by omega) rfl rfl upP_s (by decide) (by decide +kernel) rfl rfl rfl (fun z => ⟨rfl, rfl⟩) (by omega) (by omega) (by omega) ?_
  rw [upP_u]
  refine wc_aload_n 0 166 (by decide +kernel) rfl rfl (by omega) ?_
  refine wc_bipush 121 168 (by decide +kernel : decode cX8_init 166 = .ok (.bipush 121, 2)) rfl (by decide +kernel) (by omega) ?_
  refine wc_newa 170 (Or.inl ⟨(by decide +kernel), rfl⟩) (by decide +kernel) rfl (by decide +kernel) (by decide +kernel) (fun k => hz.1 _ k) (fun k => hz.2 _ k) (by omega) (by omega) ?_
  refine wc_putr 8 24 20 24 173 fl_RX8_67 (by decide +kernel) rfl (by decide +kernel) (by omega) rfl rfl upP_s (by decide) (by decide +kernel) rfl rfl rfl (fun z => ⟨rfl, rfl⟩) (by omega) (by omega) (by omega) ?_
  rw [upP_u]
  refine wc_aload_n 0 174 (by decide +kernel) rfl rfl (by omega) ?_
  refine wc_bipush 120 176 (by decide +kernel : decode cX8_init 174 = .ok (.bipush 120, 2)) rfl (by decide +kernel) (by omega) ?_
  refine wc_newa 178 (Or.inl ⟨(by decide +kernel), rfl⟩) (by decide +kernel) rfl (by decide +kernel) (by decide +kernel) (fun k => hz.1 _ k) (fun k => hz.2 _ k) (by omega) (by omega) ?_
  refine wc_putr 8 25 21 25 181 fl_RX8_70 (by decide +kernel) rfl (by decide +kernel) (by omega) rfl rfl upP_s (by decide) (by decide +kernel) rfl rfl rfl (fun z => ⟨rfl, rfl⟩) (by omega) (by omega) (by omega) ?_
  rw [upP_u]
  refine wc_aload_n 0 182 (by decide +kernel) rfl rfl (by omega) ?_
  refine wc_sipush 128 185 (by decide +kernel : decode cX8_init 182 = .ok (.sipush 128, 3)) rfl (by decide +kernel) (by omega) ?_
  refine wc_newa 187 (Or.inr <| Or.inl ⟨(by decide +kernel), rfl⟩) (by decide +kernel) rfl (by decide +kernel) (by decide +kernel) (fun k => hz.1 _ k) (fun k => hz.2 _ k) (by omega) (by omega) ?_
  refine words_all (by omega) ?_
  refine wc_putr 8 31 22 26 952 fl_RX8_73 (by decide +kernel) rfl (by decide +kernel) (by omega) rfl rfl upP_s (by decide) (by decide +kernel) rfl rfl rfl (fun z => ⟨rfl, rfl⟩) (by omega) (by omega) (by omega) ?_
  rw [upP_u]
  refine wc_aload_n 0 953 (by decide +kernel) rfl rfl (by omega) ?_
  refine wc_iconst 4 954 (by decide +kernel : decode cX8_init 953 = .ok (.iconst 4, 1)) rfl (by decide +kernel) (by omega) ?_
  refine wc_newa 956 (Or.inl ⟨(by decide +kernel), rfl⟩) (by decide +kernel) rfl (by decide +kernel) (by decide +kernel) (fun k => wz hz (by decide)) (fun k => hz.2 _ k) (by omega) (by omega) ?_
  refine wc_putr 8 33 23 32 959 fl_RX8_77 (by decide +kernel) rfl (by decide +kernel) (by omega) rfl rfl upP_s (by decide) (by decide +kernel) rfl rfl rfl (fun z => ⟨rfl, rfl⟩) (by omega) (by omega) (by omega) ?_
  rw [upP_u]
  refine wc_aload_n 0 960 (by decide +kernel) rfl rfl (by omega) ?_
  refine wc_iconst 4 961 (by decide +kernel : decode cX8_init 960 = .ok (.iconst 4, 1)) rfl (by decide +kernel) (by omega) ?_
  refine wc_newa 963 (Or.inl ⟨(by decide +kernel), rfl⟩) (by decide +kernel) rfl (by decide +kernel) (by decide +kernel) (fun k => wz hz (by decide)) (fun k => hz.2 _ k) (by omega) (by omega) ?_
  refine wc_putr 8 34 24 34 966 fl_RX8_80 (by decide +kernel) rfl (by decide +kernel) (by omega) rfl rfl upP_s (by decide) (by decide +kernel) rfl rfl rfl (fun z => ⟨rfl, rfl⟩) (by omega) (by omega) (by omega) ?_
  rw [upP_u]
  refine wc_aload_n 0 967 (by decide +kernel) rfl rfl (by omega) ?_
  refine wc_sipush 160 970 (by decide +kernel : decode cX8_init 967 = .ok (.sipush 160, 3)) rfl (by decide +kernel) (by omega) ?_
  refine wc_newa 972 (Or.inr <| Or.inr ⟨(by decide +kernel), rfl⟩) (by decide +kernel) rfl (by decide +kernel) (by decide +kernel) (fun k => wz hz (by decide)) (fun k => hz.2 _ k) (by omega) (by omega) ?_
  refine wc_putr 8 35 25 35 975 fl_RX8_83 (by decide +kernel) rfl (by decide +kernel) (by omega) rfl rfl upP_s (by decide) (by decide +kernel) rfl rfl rfl (fun z => ⟨rfl, rfl⟩) (by omega) (by omega) (by omega) ?_
  rw [upP_u]
  refine wc_aload_n 0 976 (by decide +kernel) rfl rfl (by omega) ?_
  refine wc_bipush 40 978 (by decide +kernel : decode cX8_init 976 = .ok (.bipush 40, 2)) rfl (by decide +kernel) (by omega) ?_
  refine wc_newa 980 (Or.inr <| Or.inr ⟨(by decide +kernel), rfl⟩) (by decide +kernel) rfl (by decide +kernel) (by decide +kernel) (fun k => wz hz (by decide)) (fun k => hz.2 _ k) (by omega) (by omega) ?_
  refine wc_putr 8 36 26 36 983 fl_RX8_87 (by decide +kernel) rfl (by decide +kernel) (by omega) rfl rfl upP_s (by decide) (by decide +kernel) rfl rfl rfl (fun z => ⟨rfl, rfl⟩) (by omega) (by omega) (by omega) ?_
  rw [upP_u]
  refine wc_aload_n 0 984 (by decide +kernel) rfl rfl (by omega) ?_
  refine wc_sipush 280 987 (by decide +kernel : decode cX8_init 984 = .ok (.sipush 280, 3)) rfl (by decide +kernel) (by omega) ?_
  refine wc_newa 989 (Or.inl ⟨(by decide +kernel), rfl⟩) (by decide +kernel) rfl (by decide +kernel) (by decide +kernel) (fun k => wz hz (by decide)) (fun k => hz.2 _ k) (by omega) (by omega) ?_
  refine wc_putr 8 37 27 37 992 fl_RX8_90 (by decide +kernel) rfl (by decide +kernel) (by omega) rfl rfl upP_s (by decide) (by decide +kernel) rfl rfl rfl (fun z => ⟨rfl, rfl⟩) (by omega) (by omega) (by omega) ?_
  rw [upP_u]
  refine wc_aload_n 0 993 (by decide +kernel) rfl rfl (by omega) ?_
  refine wc_sipush 280 996 (by decide +kernel : decode cX8_init 993 = .ok (.sipush 280, 3)) rfl (by decide +kernel) (by omega) ?_
  refine wc_newa 998 (Or.inl ⟨(by decide +kernel), rfl⟩) (by decide +kernel) rfl (by decide +kernel) (by decide +kernel) (fun k => wz hz (by decide)) (fun k => hz.2 _ k) (by omega) (by omega) ?_
  refine wc_putr 8 38 28 38 1001 fl_RX8_93 (by decide +kernel) rfl (by decide +kernel) (by omega) rfl rfl upP_s (by decide) (by decide +kernel) rfl rfl rfl (fun z => ⟨rfl, rfl⟩) (by omega) (by omega) (by omega) ?_
  rw [upP_u]
  refine wc_end ⟨by decide +kernel, rfl, fun i hi => upP_n (by omega), fun i h1 h2 => ?_⟩
  by_cases z : i = 117
  · rw [z, upP_s]
    exact (by decide +kernel : need 117 ≤ 39)
  · rw [rows_N i (by omega) (by omega)]
    exact Nat.zero_le _
end Ini
