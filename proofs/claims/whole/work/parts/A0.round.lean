/-! rounds of the stream, pure -/
abbrev XS : Type := (Nat → Nat) × (Nat → Nat)
noncomputable def sxQ (v : WV) (a b : Nat) (F : Nat → Nat) : Nat := sxN v F (sxX v F a) a 6 b 99999
noncomputable def sxS (v : WV) (a b : Nat) (s : XS) : XS := (sxU v (sxX v s.1 a) a (sxQ v a b s.1) 6 b s.1, xup s.2 ((sxX v s.1 a).1 b) (s.2 ((sxX v s.1 a).1 b) + sxQ v a b s.1))
noncomputable def sxG (v : WV) (a b : Nat) : Nat → XS → XS
  | 0, s => s
  | n + 1, s => if (sxX v s.1 a).1 b = 1000000 then s else sxG v a b n (sxS v a b s)
def SXI (v : WV) (a : Nat) (s : XS) : Prop := (∃ T π, Pot v s.1 a T π) ∧ (∀ l, l < vL v → s.1 l ≤ xro v l) ∧ sm s.2 121 + sxM v a s.1 ≤ 3000
section Rx
variable {v : WV} {a b m B : Nat} {s : XS}
theorem xro_le {l : Nat} (hF : WF m B v) (hl : l < vL v) : xro v l ≤ 300 := by
  obtain ⟨a0, a1, a2, a3, a4, a5, a6, a7, a8, a9, a10⟩ := hF.2.2.1 l hl
  have hm := hF.2.2.2.2.1
  have := roomV_le (kind := vl v l 0) (length := vl v l 4) (tide := vl v l 5) (shift := vl v l 7) (t := vT v) (more := 0) (b := 100) (width := vl v l 3) (later := vl v l 6) (by omega) (by omega)
  unfold xro
  omega
theorem SXI.start (hF : WF m B v) : SXI v a (fun _ => 0, fun _ => 0) := by
  refine ⟨⟨fun _ => True, fun _ => 0, ⟨trivial, rfl⟩, fun e he hr _ => ⟨trivial, ?_⟩⟩, fun l _ => Nat.zero_le _, ?_⟩
  · unfold xrs at hr
    split
    · exact Nat.zero_le _
    · rename_i q
      rw [if_neg q] at hr
      exact absurd hr (Nat.lt_irrefl 0)
  · have h1 : sm (fun _ => 0) 121 = 0 := sm_0 (fun _ _ => rfl)
    have h2 : sxM v a (fun _ => 0) ≤ vL v * 300 := by
      unfold sxM
      refine sm_bound (fun l hl => ?_)
      have := xro_le hF hl
      unfold sxL
      split
      · omega
      · split
        · exact Nat.zero_le _
        · omega
    have := hF.1.2.2
    have h3 : vL v * 300 ≤ 10 * 300 := Nat.mul_le_mul_right _ this
    show sm (fun _ => 0) 121 + sxM v a (fun _ => 0) ≤ 3000
    omega
theorem SXI.next (hF : WF m B v) (ha : a < 6) (hab : b ≠ a) (hI : SXI v a s) (hf : (sxX v s.1 a).1 b ≠ 1000000) :
    SXI v a (sxS v a b s) ∧ sxM v a (sxS v a b s).1 + sxQ v a b s.1 = sxM v a s.1 ∧ 1 ≤ sxQ v a b s.1 ∧ (sxX v s.1 a).1 b ≤ 75 ∧ b < 6 ∧ sm (sxS v a b s).2 121 = sm s.2 121 + sxQ v a b s.1 := by
  obtain ⟨⟨T, π, hP⟩, hl, hm⟩ := hI
  obtain ⟨d75, b6⟩ := sx_D75 hF hP ha hf
  have hR : RI v s.1 a T π (2 * vL v * 5) (sxX v s.1 a) := RI.run hF hP 5
  have hx := sx_fx hF hP ha
  have hi : sxI v s.1 (sxX v s.1 a) a b s.1 := ⟨hl, fun _ _ _ _ => rfl, fun e _ q => Or.inl q⟩
  have hA : sxA v (sxX v s.1 a) a (fun t => sxQ v a b s.1 ≤ sxR v s.1 ((sxX v s.1 a).2.1 t)) 6 b := sxN_all 6 b 99999
  have hM := sxM_U hF hx hR 5 b s.1 hab hf (sxK_5 b6) hi hA
  have hM' : sxM v a (sxS v a b s).1 + sxQ v a b s.1 = sxM v a s.1 := hM
  have pos := sxN_pos hF hR 6 b 99999 (by omega) hf
  have pos' : 1 ≤ sxQ v a b s.1 := pos
  obtain ⟨u, hu⟩ := sxI.go hF hx hR 6 b s.1 hf hi hA
  have hs := sm_upd (f := s.2) (j := (sxX v s.1 a).1 b) (x := s.2 ((sxX v s.1 a).1 b) + sxQ v a b s.1) 121 (by omega)
  have hs' : sm (sxS v a b s).2 121 + s.2 ((sxX v s.1 a).1 b) = sm s.2 121 + (s.2 ((sxX v s.1 a).1 b) + sxQ v a b s.1) := hs
  refine ⟨⟨⟨fun t => (sxX v s.1 a).1 t ≠ 1000000, (sxX v s.1 a).1, ⟨(fun z => by rw [hR.1.1] at z; omega : (sxX v s.1 a).1 a ≠ 1000000), hR.1.1⟩, fun e he hr hT => ?_⟩, hu.1, by omega⟩, hM', pos', d75, b6, by omega⟩
  rcases hu.2.2 e he hr with q | q
  · have n := hx e he
    have le : (sxX v s.1 a).1 (xh v e) ≤ xnw v (sxX v s.1 a).1 e := by
      apply Nat.le_of_not_lt
      exact fun z => n ⟨hT, q, z⟩
    have dt := (sx_D75 hF hP ha hT).1
    have tk := (takesL_le2 (l := e / 2) hF (by omega)).2
    have pt := hP.2 e he q ((hR.2.1 _).2.2 hT).1
    have pd := ((hR.2.1 _).2.2 hT).2
    unfold xnw at le
    by_cases k : e % 2 = 0
    · rw [if_pos k] at le ⊢
      exact ⟨by omega, by omega⟩
    · rw [if_neg k] at le pt ⊢
      exact ⟨by omega, by omega⟩
  · exact q
theorem sxG_I (hF : WF m B v) (ha : a < 6) (hab : b ≠ a) : ∀ n s, SXI v a s → SXI v a (sxG v a b n s)
  | 0, s, h => h
  | n + 1, s, h => by
    unfold sxG
    split
    · exact h
    · rename_i q
      exact sxG_I hF ha hab n _ (SXI.next hF ha hab h q).1
end Rx
