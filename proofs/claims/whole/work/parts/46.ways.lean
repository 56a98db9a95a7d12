/-! ways -/
def itP (σ : SB) (p : Nat) : Nat → Nat
  | 0 => p
  | j + 1 => bP σ (itP σ p j)
theorem itP_shift {σ : SB} {p : Nat} : ∀ j, itP σ p (j + 1) = itP σ (bP σ p) j
  | 0 => rfl
  | j + 1 => by rw [itP, itP_shift j, itP]
section Br
variable {v : WV} {R : Nat → Nat → Nat} {g n m B : Nat} {f : Nat → Nat} {σ : SB} {h : HP}
theorem path_ex (hv : SIv v R g n f σ) : ∀ r p, p < 25 * vS v → bB σ p ≠ 0 → bR σ p < r → ∃ K, (∀ j, j ≤ K → itP σ p j < 25 * vS v ∧ bB σ (itP σ p j) ≠ 0) ∧ (∀ j, j < K → bB σ (itP σ p j) ≠ 1) ∧ bB σ (itP σ p K) = 1 := by
  intro r
  induction r with
  | zero => intro p _ _ z; omega
  | succ r ih =>
    intro p hp hb hr
    by_cases e : bB σ p = 1
    · refine ⟨0, fun j hj => ?_, fun j hj => by omega, e⟩
      have : j = 0 := by omega
      subst this; exact ⟨hp, hb⟩
    · obtain ⟨v1, v2, v3, v4, v5, v6⟩ := hv.1 p hp hb
      rcases v6 with ⟨q, _⟩ | ⟨q1, q2, q3, q4, q5⟩
      · exact absurd q e
      · obtain ⟨K, k1, k2, k3⟩ := ih (bP σ p) q2 q3 (by omega)
        refine ⟨K + 1, fun j hj => ?_, fun j hj => ?_, by rw [itP_shift]; exact k3⟩
        · cases j with
          | zero => exact ⟨hp, hb⟩
          | succ j => rw [itP_shift]; exact k1 j (by omega)
        · cases j with
          | zero => exact e
          | succ j => rw [itP_shift]; exact k2 j (by omega)
/-- all of a way -/
def Way (v : WV) (σ : SB) (p K : Nat) : Prop := (∀ j, j ≤ K → itP σ p j < 25 * vS v ∧ bB σ (itP σ p j) ≠ 0) ∧ (∀ j, j < K → bB σ (itP σ p j) ≠ 1) ∧ bB σ (itP σ p K) = 1
theorem way_step (hv : SIv v R g n f σ) {p K j : Nat} (hw : Way v σ p K) (hj : j < K) : bR σ (itP σ p (j + 1)) < bR σ (itP σ p j) ∧ StpR v R g n f (bB σ (itP σ p j)) (itP σ p j) (itP σ p (j + 1)) := by
  have h1 := hw.1 j (by omega)
  obtain ⟨v1, v2, v3, v4, v5, v6⟩ := hv.1 _ h1.1 h1.2
  rcases v6 with ⟨q, _⟩ | ⟨q1, q2, q3, q4, q5⟩
  · exact absurd q (hw.2.1 j hj)
  · exact ⟨q4, q5⟩
theorem way_rank (hv : SIv v R g n f σ) {p K : Nat} (hw : Way v σ p K) : ∀ d i, i + d + 1 ≤ K → bR σ (itP σ p (i + d + 1)) < bR σ (itP σ p i) := by
  intro d
  induction d with
  | zero => intro i hi; exact (way_step hv hw (by omega)).1
  | succ d ih =>
    intro i hi
    have h1 := ih i (by omega)
    have h2 := (way_step hv hw (j := i + d + 1) (by omega)).1
    rw [show i + (d + 1) + 1 = i + d + 1 + 1 by omega]
    omega
theorem way_ne (hv : SIv v R g n f σ) {p K i j : Nat} (hw : Way v σ p K) (hij : i < j) (hj : j ≤ K) : itP σ p i ≠ itP σ p j := by
  intro e
  have := way_rank hv hw (j - i - 1) i (by omega)
  rw [show i + (j - i - 1) + 1 = j by omega, e] at this
  omega
theorem ndp_inj {p p' : Nat} (hp : p < 150) (hp' : p' < 150) (hg : p / 25 ≠ g) (hg' : p' / 25 ≠ g) (e : ndp g p = ndp g p') : p = p' := by
  unfold ndp nd at e
  rw [if_neg hg, if_neg hg'] at e
  omega
theorem ndp_lt {p : Nat} (hp : p < 150) (hg : p / 25 ≠ g) : ndp g p < 150 := by
  unfold ndp nd
  rw [if_neg hg]
  omega
abbrev wyA (σ : SB) (p j : Nat) : Nat := arO (bB σ (itP σ p j)) (itP σ p j) (itP σ p (j + 1))
theorem way_arc (hF : WF m B v) (hn : n ≤ 24) (hv : SIv v R g n f σ) {p K j : Nat} (hw : Way v σ p K) (hj : j < K) : wyA σ p j < 550 ∧ (((bB σ (itP σ p j) = 3 ∨ 30 ≤ bB σ (itP σ p j)) ∧ 0 < f (wyA σ p j) ∧ nT (tn v R g n) (wyA σ p j) = ndp g (itP σ p j) ∧ nH (tn v R g n) (wyA σ p j) = ndp g (itP σ p (j + 1))) ∨ (¬ (bB σ (itP σ p j) = 3 ∨ 30 ≤ bB σ (itP σ p j)) ∧ f (wyA σ p j) < nC (tn v R g n) (wyA σ p j) ∧ nT (tn v R g n) (wyA σ p j) = ndp g (itP σ p (j + 1)) ∧ nH (tn v R g n) (wyA σ p j) = ndp g (itP σ p j))) := by
  have h1 := hw.1 j (by omega)
  have h2 := hw.1 (j + 1) (by omega)
  have a1 := hv.1 _ h1.1 h1.2
  have a2 := hv.1 _ h2.1 h2.2
  exact stp_arc hF hn h1.1 h2.1 a1.1 a2.1 a1.2.1 a2.2.1 (way_step hv hw hj).2
theorem way_inj (hF : WF m B v) (hn : n ≤ 24) (hv : SIv v R g n f σ) {p K i j : Nat} (hw : Way v σ p K) (hij : i < j) (hj : j < K) : wyA σ p i ≠ wyA σ p j := by
  intro e
  have h6 := hF.1
  obtain ⟨_, b1⟩ := way_arc hF hn hv hw (j := i) (by omega)
  obtain ⟨_, b2⟩ := way_arc hF hn hv hw hj
  have s : ∀ k, k ≤ K → itP σ p k < 150 ∧ itP σ p k / 25 ≠ g := fun k hk => by
    have h1 := hw.1 k hk
    exact ⟨by omega, (hv.1 _ h1.1 h1.2).1⟩
  have n1 := way_ne hv hw hij (by omega : j ≤ K)
  have n2 := way_ne hv hw (i := i) (j := j + 1) (by omega) (by omega)
  have t1 := s i (by omega)
  have t2 := s j (by omega)
  have t3 := s (j + 1) (by omega)
  have c1 : ndp g (itP σ p i) ≠ ndp g (itP σ p j) := fun z => n1 (ndp_inj t1.1 t2.1 t1.2 t2.2 z)
  have c2 : ndp g (itP σ p i) ≠ ndp g (itP σ p (j + 1)) := fun z => n2 (ndp_inj t1.1 t3.1 t1.2 t3.2 z)
  rw [e] at b1
  rcases b1 with ⟨_, _, x1, x2⟩ | ⟨_, _, x1, x2⟩ <;> rcases b2 with ⟨_, _, y1, y2⟩ | ⟨_, _, y1, y2⟩
  · exact c1 (x1.symm.trans y1)
  · exact c2 (x1.symm.trans y1)
  · exact c2 (x2.symm.trans y2)
  · exact c1 (x2.symm.trans y2)
theorem tnC_le (hF : WF m B v) (hR : ∀ l i, R l i ≤ 100000) {a : Nat} (ha : a < 550) : nC (tn v R g n) a ≤ 4000000 := by
  rcases arc3 ha with ⟨s, i, hs, hi, rfl⟩ | ⟨s, i, hs, hi, rfl⟩ | ⟨l, i, hl, hi, rfl⟩
  · rw [(tn_s (v := v) (R := R) (g := g) (n := n) hs hi).2.2]
    split
    · rename_i z; exact cmV_le hF z.1
    · omega
  · rw [(tn_y (v := v) (R := R) (g := g) (n := n) hs hi).2.2]
    split
    · rename_i z
      have : holdsS v s (vT v + i) ≤ 99999 := holdsV_le (hF.2.1 s z.1).2
      omega
    · omega
  · rw [(tn_l (v := v) (R := R) (g := g) (n := n) (l := l) hi).2.2]
    split
    · have := hR l i; omega
    · omega
/-- the least of what a way can carry -/
theorem m_L59 {k111 : Int32 → Int32 → HP → Prop} {Q : Int32 → HP → Prop} {x1 x2 x3 x5 x6 : Int32} {p K w0 : Nat} (hF : WF m B v) (hn : n ≤ 24) (hfB : fB R f) (hM : HM v h) (hR : RS v R f h) (hv : SIv v R g n f σ) (hh : SIh v σ h) (hw : Way v σ p K) (h0 : 1 ≤ w0) (h1 : w0 ≤ 4000000)
    (hk : ∀ w, 1 ≤ w → w ≤ w0 → (∀ j, j < K → w ≤ lfO v R g n f (bB σ (itP σ p j)) (itP σ p j) (itP σ p (j + 1))) → k111 (nI w) (nI (itP σ p K)) h) : ∃ c, f_X8_brings_L59 x1 x2 x3 x5 x6 k111 Q c (nI w0) (nI p) h := by
  have h6 := hF.1
  have key := loop_up (L := fun c k => ∀ w, 1 ≤ w → w ≤ w0 → (∀ j, j < k → w ≤ lfO v R g n f (bB σ (itP σ p j)) (itP σ p j) (itP σ p (j + 1))) → f_X8_brings_L59 x1 x2 x3 x5 x6 k111 Q c (nI w) (nI (itP σ p k)) h) K 0 (by omega) (fun c w k1 k2 k3 => ?_) (fun k c _ hk' ih w k1 k2 k3 => ?_)
  · obtain ⟨c, hc⟩ := key
    exact ⟨c, hc w0 h0 (Nat.le_refl _) (fun j hj => by omega)⟩
  · unfold f_X8_brings_L59
    have a1 := hw.1 K (Nat.le_refl _)
    rw [ix_nI (by omega), hh.1 _ a1.1, hw.2.2]
    exact ⟨vp_in_nI (by omega) (by decide), ⟨fun _ => hk w k1 k2 k3, fun z => absurd rfl z⟩⟩
  · unfold f_X8_brings_L59
    have a1 := hw.1 k (by omega)
    have a2 := hw.1 (k + 1) (by omega)
    have b1 := hv.1 _ a1.1 a1.2
    have b2 := hv.1 _ a2.1 a2.2
    have st := (way_step hv hw hk').2
    have ar := way_arc hF hn hv hw hk'
    rw [ix_nI (by omega), hh.1 _ a1.1]
    refine ⟨vp_in_nI (by omega) (by decide), ?_⟩
    refine br_eq (b := 1) (by omega) (by omega) (fun z => absurd z (hw.2.1 k hk')) (fun _ => ?_)
    refine m_behind hF hn hM hR a1.1 (hh.1 _ a1.1) st ?_
    refine m_leftFor hF hn hR a1.1 a2.1 b1.1 b2.1 b1.2.1 b2.2.1 (hh.1 _ a1.1) st ?_
    have lf1 : 1 ≤ lfO v R g n f (bB σ (itP σ p k)) (itP σ p k) (itP σ p (k + 1)) ∧ lfO v R g n f (bB σ (itP σ p k)) (itP σ p k) (itP σ p (k + 1)) ≤ 4000000 := by
      unfold lfO
      have t1 := hfB.2 (wyA σ p k)
      have t2 := tnC_le (g := g) (n := n) hF hfB.1 ar.1
      rcases ar.2 with ⟨q1, q2, _⟩ | ⟨q1, q2, _⟩
      · rw [if_pos q1]; exact ⟨q2, t1⟩
      · rw [if_neg q1]
        show 1 ≤ nC (tn v R g n) (wyA σ p k) - f (wyA σ p k) ∧ nC (tn v R g n) (wyA σ p k) - f (wyA σ p k) ≤ 4000000
        omega
    intro x7 e7
    have e7' : x7 = nI (if w ≤ lfO v R g n f (bB σ (itP σ p k)) (itP σ p k) (itP σ p (k + 1)) then w else lfO v R g n f (bB σ (itP σ p k)) (itP σ p k) (itP σ p (k + 1))) := by
      rw [e7]
      by_cases q : w ≤ lfO v R g n f (bB σ (itP σ p k)) (itP σ p k) (itP σ p (k + 1))
      · rw [if_pos q, if_pos ((nI_leI (by omega) (by omega)).mpr q)]
      · rw [if_neg q, if_neg (fun z => q ((nI_leI (by omega) (by omega)).mp z))]
    rw [e7']
    refine ih _ (by split <;> omega) (by split <;> omega) (fun j hj => ?_)
    by_cases e : j = k
    · rw [e]; split <;> omega
    · have := k3 j (by omega)
      split <;> omega
end Br
