/-! peak, busy lines, who can still send -/
def sxV (v : WV) (l i : Nat) : Nat := if i = 0 then vl v l 8 else 0
def PKS (v : WV) (f : Nat → Nat) (l pk : Nat) : Prop := (∀ i, i < 25 → 0 < f (300 + (25 * l + i)) → f (300 + (25 * l + i)) + sxV v l i ≤ pk) ∧ (pk ≠ 0 → ∃ i, i < 25 ∧ 0 < f (300 + (25 * l + i)) ∧ pk = f (300 + (25 * l + i)) + sxV v l i)
section Pk
variable {m B w : Nat} {v : WV} {R : Nat → Nat → Nat} {g n : Nat} {hl : Int32} {ht : Nat} {h : HP} {Q : Int32 → HP → Prop} {A V : Nat} {σ en lf lev : Nat → Nat}
theorem c_peak {l : Nat} (hF : WF m B v) (hn : n ≤ 24) (hR : ∀ l i, R l i ≤ 100000) (hx : NX w v g hl ht h) (hd : FLD v R g n A V σ en lf lev h) (hl' : l < vL v) (hQ : ∀ pk, pk ≤ 5000000 → PKS v (fG A σ lf) l pk → Q (nI pk) h) : f_X1_peak (nI l) h Q := by
  have h6 := hF.1
  have hA := hd.1.1
  have h68 := hA.1.1
  have hS := hd.1.2.1
  have hs300 := (hF.2.2.1 l hl').2.2.2.2.2.2.2.2.2.2
  have cle : ∀ a, a < 550 → nC (tn v R g n) a ≤ 4000000 := fun a ha => tnC_le hF hR ha
  unfold f_X1_peak
  have key := loop_up (L := fun c j => ∀ pk, pk ≤ 5000000 → (∀ j', j' < j → ∀ i, i < 25 → σ j' = 300 + (25 * l + i) → 0 < lf (2 * j' + 1) → lf (2 * j' + 1) + sxV v l i ≤ pk) → (pk ≠ 0 → ∃ j' i, j' < j ∧ i < 25 ∧ σ j' = 300 + (25 * l + i) ∧ 0 < lf (2 * j' + 1) ∧ pk = lf (2 * j' + 1) + sxV v l i) → f_X1_peak_L4 (nI l) Q c (nI pk) (nI (2 * j)) h) A 0 (by omega) (fun c pk k0 k1 k2 => ?_) (fun j c _ hj ih pk k0 k1 k2 => ?_)
  · obtain ⟨c, hc⟩ := key
    exact ⟨c, hc 0 (by omega) (fun j' hj' => by omega) (fun z => absurd rfl z)⟩
  · unfold f_X1_peak_L4
    rw [hA.1.2]
    refine br_le (by omega) (by omega) (fun _ => hQ pk k0 ⟨fun i hi hf => ?_, fun z => ?_⟩) (fun z => by omega)
    · by_cases z : ∃ j', j' < A ∧ σ j' = 300 + (25 * l + i)
      · obtain ⟨j', j1, j2⟩ := z
        rw [← j2, fG_at hS j1] at hf ⊢
        exact k1 j' j1 i hi j2 hf
      · rw [fG_no (fun j hj q => z ⟨j, hj, q⟩)] at hf; omega
    · obtain ⟨j', i, j1, hi, j2, j3, j4⟩ := k2 z
      refine ⟨i, hi, ?_, ?_⟩
      · rw [← j2, fG_at hS j1]; exact j3
      · rw [← j2, fG_at hS j1]; exact j4
  · unfold f_X1_peak_L4
    have b := hS.1 j hj
    have cb := cle _ b.1
    have b1 := hA.2.1 (2 * j + 1) (by omega)
    have o := hd.1.2.2.2.2 j hj
    rw [hA.1.2, nI_1, ix_nI (by omega), b1.2.2.2.1, b1.2.2.1, lit 2, nI_div (by omega) (by omega) (by omega), show 2 * j / 2 = j by omega, ix_nI (by omega), ix_nI (by omega), o]
    refine br_le (by omega) (by omega) (fun z => by omega) (fun _ => ⟨vp_in_nI (by omega) (by decide), ?_⟩)
    intro x4 e4
    refine ⟨vp_in_nI (by omega) (by decide), ?_⟩
    have stp : ∀ x : Int32, x = nI (2 * j) + nI 2 → x = nI (2 * (j + 1)) := fun x ex => by rw [ex, nI_add, Nat.mul_succ]
    have ow : oww (σ j) = nI l ↔ ∃ i, i < 25 ∧ σ j = 300 + (25 * l + i) := by
      unfold oww
      have := b.1
      by_cases z : σ j < 300
      · rw [if_pos z]
        exact ⟨fun q => absurd q.symm (nI_nm1 (by omega)), fun q => by obtain ⟨i, _, q2⟩ := q; omega⟩
      · rw [if_neg z, nI_eq (by omega) (by omega)]
        exact ⟨fun q => ⟨(σ j - 300) % 25, by omega, by omega⟩, fun q => by obtain ⟨i, _, q2⟩ := q; omega⟩
    have skip : (∀ i, i < 25 → σ j = 300 + (25 * l + i) → ¬ 0 < lf (2 * j + 1)) → ∀ x : Int32, x = nI (2 * j) + nI 2 → f_X1_peak_L4 (nI l) Q c (nI pk) x h := by
      intro q x ex
      rw [stp x ex]
      refine ih pk k0 (fun j' hj' i hi hs hlf => ?_) (fun z => ?_)
      · by_cases e : j' = j
        · rw [e] at hs hlf; exact absurd hlf (q i hi hs)
        · exact k1 j' (by omega) i hi hs hlf
      · obtain ⟨j', i, j1, hi, j2⟩ := k2 z
        exact ⟨j', i, by omega, hi, j2⟩
    rw [e4]
    refine ⟨fun z => ?_, fun z => skip (fun i hi hs => absurd (ow.mpr ⟨i, hi, hs⟩) z)⟩
    obtain ⟨i, hi, hs⟩ := ow.mp z
    refine br_le (b := 0) (by omega) (by omega) (fun z2 => skip (fun _ _ _ => by omega)) (fun z2 => ⟨vp_in_nI (by omega) (by decide), ?_⟩)
    intro x5 e5
    have tl : en (2 * j + 1) = nd g (vl v l 1) i := by
      rw [b.2.2.1, hs]; exact (tn_l (v := v) (R := R) (g := g) (n := n) (l := l) hi).1
    have vld : l < vL v ∧ vl v l 1 ≠ g ∧ i + takesL v l ≤ n := by
      have := b.2.2.2.2
      rw [hs, (tn_l (v := v) (R := R) (g := g) (n := n) (l := l) hi).2.2] at this
      apply Decidable.byContradiction
      intro q; rw [if_neg q] at this; omega
    have hll := hF.2.2.1 l hl'
    have e5' : x5 = if i = 0 then 1 else 0 := by
      rw [e5, tl]
      unfold nd
      rw [if_neg vld.2.1]
      by_cases q : i = 0
      · rw [if_pos q, if_neg (fun z => by have := (nI_leI (a := 6) (by omega) (by omega)).mp z; omega)]
      · have p6 : (6 : Int32) ≤ nI (6 * i + vl v l 1) := nI_le (a := 6) (by omega) (by omega)
        rw [if_neg q, if_pos p6]
    refine ⟨fun _ => ⟨hx.kd, vp_in_nI (by omega) (by decide)⟩, ?_⟩
    rw [hx.1.1, show w + 2 + 7 + 2 * l = w + 9 + 2 * l by omega, hx.2.1.2.2.1 l hl' 8 (by omega)]
    have eY : (if x5 = 0 then nI (lf (2 * j + 1)) else nI (lf (2 * j + 1)) + nI (vl v l 8)) = nI (lf (2 * j + 1) + sxV v l i) := by
      rw [e5']
      unfold sxV
      by_cases q : i = 0
      · rw [if_pos q, if_neg n10, if_pos q, nI_add]
      · rw [if_neg q, if_pos rfl, if_neg q]; rfl
    rw [eY]
    have sx : sxV v l i ≤ 300 := by unfold sxV; split <;> omega
    intro x2 e2 x3 e3
    rw [stp x3 e3]
    by_cases q : pk < lf (2 * j + 1) + sxV v l i
    · rw [if_pos (nI_lt q (by omega))] at e2
      rw [e2]
      refine ih _ (by omega) (fun j' hj' i' hi' hs' hlf => ?_) (fun _ => ⟨j, i, by omega, hi, hs, z2, rfl⟩)
      by_cases e : j' = j
      · rw [e] at hs' ⊢
        have : i' = i := by omega
        rw [this]; exact Nat.le_refl _
      · have := k1 j' (by omega) i' hi' hs' hlf; omega
    · rw [if_neg (nI_nlt (by omega) (by omega))] at e2
      rw [e2]
      refine ih pk k0 (fun j' hj' i' hi' hs' hlf => ?_) (fun z3 => ?_)
      · by_cases e : j' = j
        · rw [e] at hs' ⊢
          have : i' = i := by omega
          rw [this]; omega
        · exact k1 j' (by omega) i' hi' hs' hlf
      · obtain ⟨j', i', j1, hi', j2⟩ := k2 z3
        exact ⟨j', i', by omega, hi', j2⟩
theorem PKS.uniq {f : Nat → Nat} {l a b : Nat} (h1 : PKS v f l a) (h2 : PKS v f l b) : a = b := by
  have k : ∀ x y, PKS v f l x → PKS v f l y → x ≤ y := by
    intro x y hx hy
    by_cases z : x = 0
    · omega
    · obtain ⟨i, i1, i2, i3⟩ := hx.2 z
      have := hy.1 i i1 i2
      omega
  exact Nat.le_antisymm (k a b h1 h2) (k b a h2 h1)
noncomputable def pkF (v : WV) (f : Nat → Nat) (l : Nat) : Nat := Classical.epsilon (fun x => PKS v f l x)
theorem pkF_eq {f : Nat → Nat} {l pk : Nat} (hp : PKS v f l pk) : pkF v f l = pk := (Classical.epsilon_spec (p := fun x => PKS v f l x) ⟨pk, hp⟩).uniq hp
theorem c_busyLines (hF : WF m B v) (hn : n ≤ 24) (hR : ∀ l i, R l i ≤ 100000) (hx : NX w v g hl ht h) (hd : FLD v R g n A V σ en lf lev h) (hQ : Q (btF (fun l => decide (0 < pkF v (fG A σ lf) l)) (vL v)) h) : f_X1_busyLines h Q := by
  have h6 := hF.1
  unfold f_X1_busyLines
  refine loop_up (L := fun c l => f_X1_busyLines_L4 Q c (btF (fun l => decide (0 < pkF v (fG A σ lf) l)) l) (nI l) h) (vL v) 0 (by omega) (fun c => ?_) (fun l c _ hl' ih => ?_)
  · unfold f_X1_busyLines_L4
    refine ⟨hx.kd, ?_⟩
    rw [hx.1.1, hx.2.1.1.2.2.2]
    exact br_le (by omega) (by omega) (fun _ => hQ) (fun z => by omega)
  · unfold f_X1_busyLines_L4
    refine ⟨hx.kd, ?_⟩
    rw [hx.1.1, hx.2.1.1.2.2.2]
    refine br_le (by omega) (by omega) (fun z => by omega) (fun _ => ?_)
    refine c_peak hF hn hR hx hd hl' (fun pk p1 p2 => ?_)
    have pe := pkF_eq p2
    refine br_le (b := 0) (by omega) (by omega) (fun z x ex => ?_) (fun z x ex y ey => ?_)
    · rw [ex, nI_1]
      unfold btF at ih
      rw [if_neg (by rw [pe, decide_eq_true_iff]; omega)] at ih
      exact ih
    · rw [ex, ey, nI_1]
      unfold btF at ih
      rw [if_pos (by rw [pe, decide_eq_true_iff]; exact z)] at ih
      exact ih
theorem c_canStill {s : Nat} (hx : NX w v g hl ht h) (hg : g < 6) (hs : s < 6) (hd : FLD v R g n A V σ en lf lev h) (h1 : lvB lev (nd g s 0) = true → Q 1 h) (h0 : ¬ lvB lev (nd g s 0) = true → Q 0 h) : f_X1_canStillSendFrom (nI s) h Q := by
  unfold f_X1_canStillSendFrom
  refine c_node (k := 0) hx hg hs ?_
  have nl := nd_lt (g := g) (s := s) (i := 0) hs (by omega)
  have lb := hd.2.2.2.2.2.1.2.1 (nd g s 0) (by omega)
  rw [ix_nI (by omega), hd.2.2.2.2.2.2.2 _ (by omega)]
  refine ⟨vp_in_nI (by omega) (by decide), ?_⟩
  unfold lvB at h1 h0
  rw [decide_eq_true_iff] at h1 h0
  by_cases z : lev (nd g s 0) = 0
  · rw [z, cd_0, if_pos (by decide +kernel)]
    exact h0 (fun q => q.2 z)
  · obtain ⟨y, hy⟩ : ∃ y, lev (nd g s 0) = y + 1 := ⟨lev (nd g s 0) - 1, by omega⟩
    rw [hy, cd_s, if_neg (by rw [i32_lt, nI_toInt (by omega), i32_0]; omega)]
    exact h1 ⟨by omega, z⟩
end Pk
