/-! arguments as numbers -/
def nt (x : Int32) : Nat := x.toInt.toNat
abbrev InR (x : Int32) (lo hi : Int) : Prop := lo ≤ x.toInt ∧ x.toInt ≤ hi
theorem nt_lt (x : Int32) : x.toInt < 2147483648 := by have := Int32.toInt_lt x; omega
theorem nt_nI {x : Int32} (h : 0 ≤ x.toInt) : x = nI (nt x) := nI_of_toInt (by unfold nt; omega) (by have := nt_lt x; unfold nt; omega)
theorem c_in {x lo hi : Int32} {a b : Int} {h : HP} {Q : Int32 → HP → Prop} (ha : lo.toInt = a) (hb : hi.toInt = b) (h1 : InR x a b → Q 1 h) (h0 : ¬ InR x a b → Q 0 h) : f_X7_isIn x lo hi h Q := by
  apply t_isIn
  have e : (lo ≤ x ∧ x ≤ hi) ↔ InR x a b := by rw [i32_le, i32_le, ha, hb]
  by_cases q : InR x a b
  · rw [if_pos (e.mpr q)]; exact h1 q
  · rw [if_neg (fun z => q (e.mp z))]; exact h0 q
theorem m_in {x : Int32} {lo hi : Int64} {a b : Int} {h : HP} {Q : Int32 → HP → Prop} (ha : lo.toInt = a) (hb : hi.toInt = b) (h1 : InR x a b → Q 1 h) (h0 : ¬ InR x a b → Q 0 h) : f_X8_in x.toInt64 lo hi h Q := by
  apply t_in
  have e : (lo ≤ x.toInt64 ∧ x.toInt64 ≤ hi) ↔ InR x a b := by rw [i64_le, i64_le, ha, hb, w_toInt]
  by_cases q : InR x a b
  · rw [if_pos (e.mpr q)]; exact h1 q
  · rw [if_neg (fun z => q (e.mp z))]; exact h0 q
theorem nI_pre {n : Nat} (h : n < 1000) : (nI n - 1 : Int32).toInt = (n : Int) - 1 := by
  have : ∀ n, n < 1000 → (nI n - 1 : Int32).toInt = (n : Int) - 1 := by decide +kernel
  exact this n h
theorem c_hasS {w : Nat} {v : WV} {x : Int32} {h : HP} {Q : Int32 → HP → Prop} (hC : HC w v h) (hS : vS v ≤ 6) (h1 : InR x 0 ((vS v : Int) - 1) → Q 1 h) (h0 : ¬ InR x 0 ((vS v : Int) - 1) → Q 0 h) : f_X6_hasStation w x h Q := by
  unfold f_X6_hasStation
  rw [hC.1.2.2.1]
  exact c_in rfl (nI_pre (by omega)) h1 h0
theorem c_hasL {w : Nat} {v : WV} {x : Int32} {h : HP} {Q : Int32 → HP → Prop} (hC : HC w v h) (hL : vL v ≤ 10) (h1 : InR x 0 ((vL v : Int) - 1) → Q 1 h) (h0 : ¬ InR x 0 ((vL v : Int) - 1) → Q 0 h) : f_X6_hasLine w x h Q := by
  unfold f_X6_hasLine
  rw [hC.1.2.2.2]
  exact c_in rfl (nI_pre (by omega)) h1 h0
theorem m_isS {v : WV} {x : Int32} {h : HP} {Q : Int32 → HP → Prop} (hM : HM v h) (hS : vS v ≤ 6) (h1 : InR x 0 ((vS v : Int) - 1) → Q 1 h) (h0 : ¬ InR x 0 ((vS v : Int) - 1) → Q 0 h) : f_X8_isStation x h Q := by
  unfold f_X8_isStation
  rw [hM.1.2.2.1]
  exact m_in rfl (by rw [w_toInt, nI_pre (by omega)]) h1 h0
theorem m_isL {v : WV} {x : Int32} {h : HP} {Q : Int32 → HP → Prop} (hM : HM v h) (hL : vL v ≤ 10) (h1 : InR x 0 ((vL v : Int) - 1) → Q 1 h) (h0 : ¬ InR x 0 ((vL v : Int) - 1) → Q 0 h) : f_X8_isLine x h Q := by
  unfold f_X8_isLine
  rw [hM.1.2.2.2]
  exact m_in rfl (by rw [w_toInt, nI_pre (by omega)]) h1 h0
theorem fnd0 : (-1000000001 : Int32) = fnd 0 := by decide +kernel
theorem fnd1 : (-1000000002 : Int32) = fnd 1 := by decide +kernel
theorem fnd2 : (-1000000003 : Int32) = fnd 2 := by decide +kernel
theorem fnd3 : (-1000000004 : Int32) = fnd 3 := by decide +kernel
theorem fnd4 : (-1000000005 : Int32) = fnd 4 := by decide +kernel
theorem fnd5 : (-1000000006 : Int32) = fnd 5 := by decide +kernel
theorem fnd6 : (-1000000007 : Int32) = fnd 6 := by decide +kernel
theorem fnd7 : (-1000000008 : Int32) = fnd 7 := by decide +kernel
theorem n10 : ¬ (1 : Int32) = 0 := by decide +kernel
/-- both branches of a test that answered 1, or 0 -/
theorem br1 {A B : Prop} (h : B) : ((1 : Int32) = 0 → A) ∧ (¬ (1 : Int32) = 0 → B) := ⟨fun c => absurd c n10, fun _ => h⟩
theorem br0 {A B : Prop} (h : A) : ((0 : Int32) = 0 → A) ∧ (¬ (0 : Int32) = 0 → B) := ⟨fun _ => h, fun c => absurd rfl c⟩
def o_station (σ : ST) (x1 x2 : Int32) : Int32 × ST :=
  if InR x1 0 3 ∧ InR x2 0 999 then (if vS (sV σ) < 6 then (nI (vS (sV σ)), uV σ (addS (sV σ) (nt x1) (nt x2) 20)) else (fnd 1, uF σ 1)) else (fnd 0, uF σ 0)
section Ops
variable {c : Nat} {σ : ST} {h : HP} {Q : Int32 → HP → Prop}
theorem c_station {x1 x2 : Int32} (hW : WS c σ) (hI : CI σ h) (hQ : ∀ h', CI (o_station σ x1 x2).2 h' → LoF h h' → Q (o_station σ x1 x2).1 h') : f_X7_station x1 x2 h Q := by
  unfold f_X7_station
  unfold o_station at hQ
  refine c_in (a := 0) (b := 3) rfl rfl (fun p1 => br1 ?_) (fun p1 => br0 ?_)
  · refine c_in (a := 0) (b := 999) rfl rfl (fun p2 => br1 ?_) (fun p2 => br0 ?_)
    · rw [if_pos ⟨p1, p2⟩] at hQ
      have hs := hW.small
      rw [hI.1.1.2.2.1, lit 6]
      by_cases q : vS (sV σ) < 6
      · rw [if_pos q] at hQ
        refine ⟨fun _ => ?_, fun z => absurd (nI_ltI (by omega) (by omega) |>.mpr q) z⟩
        rw [nt_nI p1.1, nt_nI p2.1]
        exact c_addStation hI.1 q hs.2.1 (fun h' hC f => hQ h' (hI.world hW hC f) (f.lo (by intro a k; simp only [cellsC]; omega)))
      · rw [if_neg q] at hQ
        refine ⟨fun z => absurd (nI_ltI (by omega) (by omega) |>.mp z) q, fun _ => ?_⟩
        exact c_found (by omega) hI hQ fnd1 hs
    · rw [if_neg (fun z => p2 z.2)] at hQ
      exact c_found (by omega) hI hQ fnd0 hW.small
  · rw [if_neg (fun z => p1 z.1)] at hQ
    exact c_found (by omega) hI hQ fnd0 hW.small
theorem m_station {x1 x2 : Int32} (hW : WS c σ) (hI : MI σ h) (hQ : ∀ h', MI (o_station σ x1 x2).2 h' → HiF h h' → Q (o_station σ x1 x2).1 h') : f_X8_station x1 x2 h Q := by
  unfold f_X8_station
  unfold o_station at hQ
  refine m_in (a := 0) (b := 3) rfl rfl (fun p1 => br1 ?_) (fun p1 => br0 ?_)
  · refine m_in (a := 0) (b := 999) rfl rfl (fun p2 => br1 ?_) (fun p2 => br0 ?_)
    · rw [if_pos ⟨p1, p2⟩] at hQ
      have hs := hW.small
      rw [hI.1.1.2.2.1, lit 6]
      by_cases q : vS (sV σ) < 6
      · rw [if_pos q] at hQ
        refine ⟨fun z => absurd ((nI_eq (by omega) (by omega)).mp z) (by omega), fun _ => ?_⟩
        rw [nt_nI p1.1, nt_nI p2.1]
        refine m_addStation hI.1 q (fun h' hM f => ?_)
        rw [hM.1.2.2.1, lit 1, show vS (addS (sV σ) (nt x1) (nt x2) 20) = vS (sV σ) + 1 from rfl, nI_sub (by omega), Nat.add_sub_cancel]
        exact hQ h' (hI.world hM f) (f.hi (by intro a k; simp only [cellsM]; omega))
      · rw [if_neg q] at hQ
        refine ⟨fun _ => ?_, fun z => absurd ((nI_eq (by omega) (by omega)).mpr (by omega)) z⟩
        exact m_finds (by omega) hI hQ fnd1
    · rw [if_neg (fun z => p2 z.2)] at hQ
      exact m_finds (by omega) hI hQ fnd0
  · rw [if_neg (fun z => p1 z.1)] at hQ
    exact m_finds (by omega) hI hQ fnd0
end Ops
