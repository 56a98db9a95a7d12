/-! constructors that only make rows -/
def need (i : Nat) : Nat := if kd i < 10 then ([10, 17, 1, 0, 7, 1, 6, 8, 39] : List Nat).getD (kd i) 0 else if kd i < 13 then 0 else kn i
def Ful (q : PG) (a b : Nat) : Prop := ∀ i, a ≤ i → i < b → need i ≤ q i
def ZH (h : HP) : Prop := (∀ a k, gi h a k = 0) ∧ ∀ a k, gl h a k = 0
def KQ (b N1 : Nat) (q : PG) (h : HP) : PG → HP → Prop := fun q' h' => h' = h ∧ (∀ i, i < b → q' i = q i) ∧ Ful q' b N1
theorem Ful.up {q : PG} {a b i x : Nat} (h : Ful q a b) (hi : i < a ∨ b ≤ i) : Ful (upP q i x) a b := fun j h1 h2 => by rw [upP_n (by omega)]; exact h j h1 h2
theorem Ful.keep {q q' : PG} {a b m : Nat} (h : Ful q a b) (hk : ∀ i, i < m → q' i = q i) (hm : b ≤ m) : Ful q' a b := fun j h1 h2 => by rw [hk j (by omega)]; exact h j h1 h2
theorem Ful.app {q : PG} {a b c : Nat} (h1 : Ful q a b) (h2 : Ful q b c) : Ful q a c := fun j a1 a2 => by
  by_cases z : j < b
  · exact h1 j a1 z
  · exact h2 j (by omega) a2
theorem need_row {i : Nat} (h : kd i = 10 ∨ kd i = 11 ∨ kd i = 12) : need i = 0 := by
  unfold need
  rcases h with z | z | z <;> rw [z] <;> rfl
theorem rows_N : ∀ i, i < 146 → ((89 ≤ i ∧ i < 99) ∨ (100 ≤ i ∧ i < 105) ∨ i = 106 ∨ i = 108 ∨ (118 ≤ i ∧ i < 146)) → need i = 0 := by decide +kernel
section Ini
variable {g : GE} {q : PG} {h : HP}
theorem k_Station {b n : Nat} (hb : kd b = 3) (hn : n = b + 1) : Wc g mX3_init n n n 0 [some (.ref b)] [] q h (rtC mX3_init (KQ b n q h)) := by
  refine wc_aload_n 0 1 (by decide +kernel) rfl rfl (by omega) ?_
  refine wc_obj 4 mi_RX3_3 (by decide) (by decide) (by decide +kernel) rfl (by omega) ?_
  refine wc_end ⟨by decide +kernel, rfl, fun i hi => rfl, fun i h1 h2 => ?_⟩
  rw [show i = b by omega]
  unfold need
  rw [hb]
  exact Nat.zero_le _
theorem k_Line {b : Nat} (hb : kd b = 0) (hk : kd (b + 1) = 10) (hkn : kn (b + 1) = 16) (hb5 : b + 1 < 146) (hq : q b = 0) (hz : ZH h) : Wc g mX0_init (b + 1) (b + 1 + 1) (b + 1) 0 [some (.ref b)] [] q h (rtC mX0_init (KQ b (b + 1 + 1) q h)) := by
  have hx : ix (16 : Int32) = kn (b + 1) := by rw [hkn]; decide +kernel
  refine wc_aload_n 0 1 (by decide +kernel) rfl rfl (by omega) ?_
  refine wc_obj 4 mi_RX0_3 (by decide) (by decide) (by decide +kernel) rfl (by omega) ?_
  refine wc_aload_n 0 5 (by decide +kernel) rfl rfl (by omega) ?_
  refine wc_bipush 16 7 (by decide +kernel : decode cX0_init 5 = .ok (.bipush 16, 2)) rfl (by decide +kernel) (by omega) ?_
  refine wc_newa 9 (Or.inl ⟨hk, rfl⟩) (by decide +kernel) rfl hx (by decide +kernel) (fun k => hz.1 _ k) (fun k => hz.2 _ k) (by omega) (by omega) ?_
  refine wc_putr 0 9 1 0 12 fl_RX0_9 (by decide +kernel) rfl hb (by omega) rfl rfl hq (by decide) (by decide +kernel) rfl rfl rfl (fun z => ⟨rfl, rfl⟩) (by omega) (by omega) (by omega) ?_
  refine wc_end ⟨by decide +kernel, rfl, fun i hi => upP_n (by omega), fun i h1 h2 => ?_⟩
  by_cases z : i = b
  · rw [z, upP_s]
    unfold need
    rw [hb]
    exact Nat.le_of_ble_eq_true rfl
  · rw [show i = b + 1 by omega, need_row (by rw [hk]; decide)]
    exact Nat.zero_le _
theorem k_Sheet {b : Nat} (hb : kd b = 2) (hk : kd (b + 1) = 12) (hkn : kn (b + 1) = 40) (hb5 : b + 1 < 146) (hq : q b = 0) (hz : ZH h) : Wc g mX2_init (b + 1) (b + 1 + 1) (b + 1) 0 [some (.ref b)] [] q h (rtC mX2_init (KQ b (b + 1 + 1) q h)) := by
  have hx : ix (40 : Int32) = kn (b + 1) := by rw [hkn]; decide +kernel
  refine wc_aload_n 0 1 (by decide +kernel) rfl rfl (by omega) ?_
  refine wc_obj 4 mi_RX2_3 (by decide) (by decide) (by decide +kernel) rfl (by omega) ?_
  refine wc_aload_n 0 5 (by decide +kernel) rfl rfl (by omega) ?_
  refine wc_bipush 40 7 (by decide +kernel : decode cX2_init 5 = .ok (.bipush 40, 2)) rfl (by decide +kernel) (by omega) ?_
  refine wc_newa 9 (Or.inr <| Or.inr ⟨hk, rfl⟩) (by decide +kernel) rfl hx (by decide +kernel) (fun k => hz.1 _ k) (fun k => hz.2 _ k) (by omega) (by omega) ?_
  refine wc_putr 2 0 1 0 12 fl_RX2_9 (by decide +kernel) rfl hb (by omega) rfl rfl hq (by decide) (by decide +kernel) rfl rfl rfl (fun z => ⟨rfl, rfl⟩) (by omega) (by omega) (by omega) ?_
  refine wc_end ⟨by decide +kernel, rfl, fun i hi => upP_n (by omega), fun i h1 h2 => ?_⟩
  by_cases z : i = b
  · rw [z, upP_s]
    unfold need
    rw [hb]
    exact Nat.le_of_ble_eq_true rfl
  · rw [show i = b + 1 by omega, need_row (by rw [hk]; decide)]
    exact Nat.zero_le _
theorem k_Network (hq : q 88 = 0) (hz : ZH h) : Wc g mX1_init 89 99 89 0 [some (.ref 88)] [] q h (rtC mX1_init (KQ 88 99 q h)) := by
  refine wc_aload_n 0 1 (by decide +kernel) rfl rfl (by omega) ?_
  refine wc_obj 4 mi_RX1_5 (by decide) (by decide) (by decide +kernel) rfl (by omega) ?_
  refine wc_aload_n 0 5 (by decide +kernel) rfl rfl (by omega) ?_
  refine wc_sipush 152 8 (by decide +kernel : decode cX1_init 5 = .ok (.sipush 152, 3)) rfl (by decide +kernel) (by omega) ?_
  refine wc_newa 10 (Or.inl ⟨(by decide +kernel), rfl⟩) (by decide +kernel) rfl (by decide +kernel) (by decide +kernel) (fun k => hz.1 _ k) (fun k => hz.2 _ k) (by omega) (by omega) ?_
  refine wc_putr 1 7 1 0 13 fl_RX1_11 (by decide +kernel) rfl (by decide +kernel) (by omega) rfl rfl hq (by decide) (by decide +kernel) rfl rfl rfl (fun z => ⟨rfl, rfl⟩) (by omega) (by omega) (by omega) ?_
  refine wc_aload_n 0 14 (by decide +kernel) rfl rfl (by omega) ?_
  refine wc_sipush 1068 17 (by decide +kernel : decode cX1_init 14 = .ok (.sipush 1068, 3)) rfl (by decide +kernel) (by omega) ?_
  refine wc_newa 19 (Or.inl ⟨(by decide +kernel), rfl⟩) (by decide +kernel) rfl (by decide +kernel) (by decide +kernel) (fun k => hz.1 _ k) (fun k => hz.2 _ k) (by omega) (by omega) ?_
  refine wc_putr 1 8 2 8 22 fl_RX1_15 (by decide +kernel) rfl (by decide +kernel) (by omega) rfl rfl upP_s (by decide) (by decide +kernel) rfl rfl rfl (fun z => ⟨rfl, rfl⟩) (by omega) (by omega) (by omega) ?_
  rw [upP_u]
  refine wc_aload_n 0 23 (by decide +kernel) rfl rfl (by omega) ?_
  refine wc_sipush 1068 26 (by decide +kernel : decode cX1_init 23 = .ok (.sipush 1068, 3)) rfl (by decide +kernel) (by omega) ?_
  refine wc_newa 28 (Or.inl ⟨(by decide +kernel), rfl⟩) (by decide +kernel) rfl (by decide +kernel) (by decide +kernel) (fun k => hz.1 _ k) (fun k => hz.2 _ k) (by omega) (by omega) ?_
  refine wc_putr 1 9 3 9 31 fl_RX1_18 (by decide +kernel) rfl (by decide +kernel) (by omega) rfl rfl upP_s (by decide) (by decide +kernel) rfl rfl rfl (fun z => ⟨rfl, rfl⟩) (by omega) (by omega) (by omega) ?_
  rw [upP_u]
  refine wc_aload_n 0 32 (by decide +kernel) rfl rfl (by omega) ?_
  refine wc_sipush 1068 35 (by decide +kernel : decode cX1_init 32 = .ok (.sipush 1068, 3)) rfl (by decide +kernel) (by omega) ?_
  refine wc_newa 37 (Or.inl ⟨(by decide +kernel), rfl⟩) (by decide +kernel) rfl (by decide +kernel) (by decide +kernel) (fun k => hz.1 _ k) (fun k => hz.2 _ k) (by omega) (by omega) ?_
  refine wc_putr 1 10 4 10 40 fl_RX1_21 (by decide +kernel) rfl (by decide +kernel) (by omega) rfl rfl upP_s (by decide) (by decide +kernel) rfl rfl rfl (fun z => ⟨rfl, rfl⟩) (by omega) (by omega) (by omega) ?_
  rw [upP_u]
  refine wc_aload_n 0 41 (by decide +kernel) rfl rfl (by omega) ?_
  refine wc_sipush 534 44 (by decide +kernel : decode cX1_init 41 = .ok (.sipush 534, 3)) rfl (by decide +kernel) (by omega) ?_
  refine wc_newa 46 (Or.inl ⟨(by decide +kernel), rfl⟩) (by decide +kernel) rfl (by decide +kernel) (by decide +kernel) (fun k => hz.1 _ k) (fun k => hz.2 _ k) (by omega) (by omega) ?_
  refine wc_putr 1 11 5 11 49 fl_RX1_24 (by decide +kernel) rfl (by decide +kernel) (by omega) rfl rfl upP_s (by decide) (by decide +kernel) rfl rfl rfl (fun z => ⟨rfl, rfl⟩) (by omega) (by omega) (by omega) ?_
  rw [upP_u]
  refine wc_aload_n 0 50 (by decide +kernel) rfl rfl (by omega) ?_
  refine wc_sipush 152 53 (by decide +kernel : decode cX1_init 50 = .ok (.sipush 152, 3)) rfl (by decide +kernel) (by omega) ?_
  refine wc_newa 55 (Or.inl ⟨(by decide +kernel), rfl⟩) (by decide +kernel) rfl (by decide +kernel) (by decide +kernel) (fun k => hz.1 _ k) (fun k => hz.2 _ k) (by omega) (by omega) ?_
  refine wc_putr 1 12 6 12 58 fl_RX1_27 (by decide +kernel) rfl (by decide +kernel) (by omega) rfl rfl upP_s (by decide) (by decide +kernel) rfl rfl rfl (fun z => ⟨rfl, rfl⟩) (by omega) (by omega) (by omega) ?_
  rw [upP_u]
  refine wc_aload_n 0 59 (by decide +kernel) rfl rfl (by omega) ?_
  refine wc_sipush 152 62 (by decide +kernel : decode cX1_init 59 = .ok (.sipush 152, 3)) rfl (by decide +kernel) (by omega) ?_
  refine wc_newa 64 (Or.inl ⟨(by decide +kernel), rfl⟩) (by decide +kernel) rfl (by decide +kernel) (by decide +kernel) (fun k => hz.1 _ k) (fun k => hz.2 _ k) (by omega) (by omega) ?_
  refine wc_putr 1 13 7 13 67 fl_RX1_30 (by decide +kernel) rfl (by decide +kernel) (by omega) rfl rfl upP_s (by decide) (by decide +kernel) rfl rfl rfl (fun z => ⟨rfl, rfl⟩) (by omega) (by omega) (by omega) ?_
  rw [upP_u]
  refine wc_aload_n 0 68 (by decide +kernel) rfl rfl (by omega) ?_
  refine wc_sipush 152 71 (by decide +kernel : decode cX1_init 68 = .ok (.sipush 152, 3)) rfl (by decide +kernel) (by omega) ?_
  refine wc_newa 73 (Or.inl ⟨(by decide +kernel), rfl⟩) (by decide +kernel) rfl (by decide +kernel) (by decide +kernel) (fun k => hz.1 _ k) (fun k => hz.2 _ k) (by omega) (by omega) ?_
  refine wc_putr 1 14 8 14 76 fl_RX1_33 (by decide +kernel) rfl (by decide +kernel) (by omega) rfl rfl upP_s (by decide) (by decide +kernel) rfl rfl rfl (fun z => ⟨rfl, rfl⟩) (by omega) (by omega) (by omega) ?_
  rw [upP_u]
  refine wc_aload_n 0 77 (by decide +kernel) rfl rfl (by omega) ?_
  refine wc_sipush 152 80 (by decide +kernel : decode cX1_init 77 = .ok (.sipush 152, 3)) rfl (by decide +kernel) (by omega) ?_
  refine wc_newa 82 (Or.inl ⟨(by decide +kernel), rfl⟩) (by decide +kernel) rfl (by decide +kernel) (by decide +kernel) (fun k => hz.1 _ k) (fun k => hz.2 _ k) (by omega) (by omega) ?_
  refine wc_putr 1 15 9 15 85 fl_RX1_36 (by decide +kernel) rfl (by decide +kernel) (by omega) rfl rfl upP_s (by decide) (by decide +kernel) rfl rfl rfl (fun z => ⟨rfl, rfl⟩) (by omega) (by omega) (by omega) ?_
  rw [upP_u]
  refine wc_aload_n 0 86 (by decide +kernel) rfl rfl (by omega) ?_
  refine wc_sipush 152 89 (by decide +kernel : decode cX1_init 86 = .ok (.sipush 152, 3)) rfl (by decide +kernel) (by omega) ?_
  refine wc_newa 91 (Or.inl ⟨(by decide +kernel), rfl⟩) (by decide +kernel) rfl (by decide +kernel) (by decide +kernel) (fun k => hz.1 _ k) (fun k => hz.2 _ k) (by omega) (by omega) ?_
  refine wc_putr 1 16 10 16 94 fl_RX1_39 (by decide +kernel) rfl (by decide +kernel) (by omega) rfl rfl upP_s (by decide) (by decide +kernel) rfl rfl rfl (fun z => ⟨rfl, rfl⟩) (by omega) (by omega) (by omega) ?_
  rw [upP_u]
  refine wc_end ⟨by decide +kernel, rfl, fun i hi => upP_n (by omega), fun i h1 h2 => ?_⟩
  by_cases z : i = 88
  · rw [z, upP_s]
    exact (by decide +kernel : need 88 ≤ 17)
  · rw [rows_N i (by omega) (by omega)]
    exact Nat.zero_le _
theorem k_Stream (hq : q 99 = 0) (hz : ZH h) : Wc g mX4_init 100 105 100 0 [some (.ref 99)] [] q h (rtC mX4_init (KQ 99 105 q h)) := by
  refine wc_aload_n 0 1 (by decide +kernel) rfl rfl (by omega) ?_
  refine wc_obj 4 mi_RX4_3 (by decide) (by decide) (by decide +kernel) rfl (by omega) ?_
  refine wc_aload_n 0 5 (by decide +kernel) rfl rfl (by omega) ?_
  refine wc_bipush 121 7 (by decide +kernel : decode cX4_init 5 = .ok (.bipush 121, 2)) rfl (by decide +kernel) (by omega) ?_
  refine wc_newa 9 (Or.inl ⟨(by decide +kernel), rfl⟩) (by decide +kernel) rfl (by decide +kernel) (by decide +kernel) (fun k => hz.1 _ k) (fun k => hz.2 _ k) (by omega) (by omega) ?_
  refine wc_putr 4 1 1 0 12 fl_RX4_9 (by decide +kernel) rfl (by decide +kernel) (by omega) rfl rfl hq (by decide) (by decide +kernel) rfl rfl rfl (fun z => ⟨rfl, rfl⟩) (by omega) (by omega) (by omega) ?_
  refine wc_aload_n 0 13 (by decide +kernel) rfl rfl (by omega) ?_
  refine wc_bipush 10 15 (by decide +kernel : decode cX4_init 13 = .ok (.bipush 10, 2)) rfl (by decide +kernel) (by omega) ?_
  refine wc_newa 17 (Or.inl ⟨(by decide +kernel), rfl⟩) (by decide +kernel) rfl (by decide +kernel) (by decide +kernel) (fun k => hz.1 _ k) (fun k => hz.2 _ k) (by omega) (by omega) ?_
  refine wc_putr 4 3 2 2 20 fl_RX4_15 (by decide +kernel) rfl (by decide +kernel) (by omega) rfl rfl upP_s (by decide) (by decide +kernel) rfl rfl rfl (fun z => ⟨rfl, rfl⟩) (by omega) (by omega) (by omega) ?_
  rw [upP_u]
  refine wc_aload_n 0 21 (by decide +kernel) rfl rfl (by omega) ?_
  refine wc_bipush 10 23 (by decide +kernel : decode cX4_init 21 = .ok (.bipush 10, 2)) rfl (by decide +kernel) (by omega) ?_
  refine wc_newa 25 (Or.inl ⟨(by decide +kernel), rfl⟩) (by decide +kernel) rfl (by decide +kernel) (by decide +kernel) (fun k => hz.1 _ k) (fun k => hz.2 _ k) (by omega) (by omega) ?_
  refine wc_putr 4 4 3 4 28 fl_RX4_18 (by decide +kernel) rfl (by decide +kernel) (by omega) rfl rfl upP_s (by decide) (by decide +kernel) rfl rfl rfl (fun z => ⟨rfl, rfl⟩) (by omega) (by omega) (by omega) ?_
  rw [upP_u]
  refine wc_aload_n 0 29 (by decide +kernel) rfl rfl (by omega) ?_
  refine wc_bipush 6 31 (by decide +kernel : decode cX4_init 29 = .ok (.bipush 6, 2)) rfl (by decide +kernel) (by omega) ?_
  refine wc_newa 33 (Or.inl ⟨(by decide +kernel), rfl⟩) (by decide +kernel) rfl (by decide +kernel) (by decide +kernel) (fun k => hz.1 _ k) (fun k => hz.2 _ k) (by omega) (by omega) ?_
  refine wc_putr 4 5 4 5 36 fl_RX4_21 (by decide +kernel) rfl (by decide +kernel) (by omega) rfl rfl upP_s (by decide) (by decide +kernel) rfl rfl rfl (fun z => ⟨rfl, rfl⟩) (by omega) (by omega) (by omega) ?_
  rw [upP_u]
  refine wc_aload_n 0 37 (by decide +kernel) rfl rfl (by omega) ?_
  refine wc_bipush 6 39 (by decide +kernel : decode cX4_init 37 = .ok (.bipush 6, 2)) rfl (by decide +kernel) (by omega) ?_
  refine wc_newa 41 (Or.inl ⟨(by decide +kernel), rfl⟩) (by decide +kernel) rfl (by decide +kernel) (by decide +kernel) (fun k => hz.1 _ k) (fun k => hz.2 _ k) (by omega) (by omega) ?_
  refine wc_putr 4 6 5 6 44 fl_RX4_24 (by decide +kernel) rfl (by decide +kernel) (by omega) rfl rfl upP_s (by decide) (by decide +kernel) rfl rfl rfl (fun z => ⟨rfl, rfl⟩) (by omega) (by omega) (by omega) ?_
  rw [upP_u]
  refine wc_end ⟨by decide +kernel, rfl, fun i hi => upP_n (by omega), fun i h1 h2 => ?_⟩
  by_cases z : i = 99
  · rw [z, upP_s]
    exact (by decide +kernel : need 99 ≤ 7)
  · rw [rows_N i (by omega) (by omega)]
    exact Nat.zero_le _
theorem k_Tape (hq : q 105 = 0) (hz : ZH h) : Wc g mX5_init 106 107 106 0 [some (.ref 105)] [] q h (rtC mX5_init (KQ 105 107 q h)) := by
  refine wc_aload_n 0 1 (by decide +kernel) rfl rfl (by omega) ?_
  refine wc_obj 4 mi_RX5_3 (by decide) (by decide) (by decide +kernel) rfl (by omega) ?_
  refine wc_aload_n 0 5 (by decide +kernel) rfl rfl (by omega) ?_
  refine wc_bipush 120 7 (by decide +kernel : decode cX5_init 5 = .ok (.bipush 120, 2)) rfl (by decide +kernel) (by omega) ?_
  refine wc_newa 9 (Or.inl ⟨(by decide +kernel), rfl⟩) (by decide +kernel) rfl (by decide +kernel) (by decide +kernel) (fun k => hz.1 _ k) (fun k => hz.2 _ k) (by omega) (by omega) ?_
  refine wc_putr 5 0 1 0 12 fl_RX5_9 (by decide +kernel) rfl (by decide +kernel) (by omega) rfl rfl hq (by decide) (by decide +kernel) rfl rfl rfl (fun z => ⟨rfl, rfl⟩) (by omega) (by omega) (by omega) ?_
  refine wc_end ⟨by decide +kernel, rfl, fun i hi => upP_n (by omega), fun i h1 h2 => ?_⟩
  by_cases z : i = 105
  · rw [z, upP_s]
    exact (by decide +kernel : need 105 ≤ 1)
  · rw [rows_N i (by omega) (by omega)]
    exact Nat.zero_le _
end Ini
