/-! a phase: levels are filled -/
abbrev Adm (en lf lev : Nat → Nat) (e : Nat) : Prop := 0 < lf e ∧ lev (en e) ≠ 0 ∧ lev (en e) + 1 = lev (en (xr e))
/-- where each node stands in its row of arcs -/
def TUR (A : Nat) (en lf lev tu : Nat → Nat) : Prop := ∀ w, w < 152 → (tu w = 0 ∨ ∃ e, e < 2 * A ∧ tu w = e + 1 ∧ en (xr e) = w) ∧ ∀ e, e < 2 * A → en (xr e) = w → tu w ≤ e → ¬ Adm en lf lev e
section Fi
variable {A : Nat} {en lf lev tu P : Nat → Nat} {h : HP} {Q : Int32 → HP → Prop}
theorem c_leads {e w : Nat} (hA : AR (2 * A) (fun e => en (xr e)) en lf h) (hl : ∀ w, w < 152 → gi h 94 w = cd (lev w)) (hlv : ∀ w, w < 152 → lev w ≤ 152) (hlb : ∀ e, e < 2 * A → lf e < 2 ^ 31) (he : e < 2 * A) (hw : w < 152) (ht : en (xr e) = w) (h2 : 2 ≤ lev w) (h1 : Adm en lf lev e → Q 1 h) (h0 : ¬ Adm en lf lev e → Q 0 h) : f_X1_leadsDown (nI w) (nI e) h Q := by
  have b := hA.2.1 e he
  have hA1 := hA.1.1
  have l1 := hlb e he
  unfold f_X1_leadsDown
  rw [ix_nI (by omega), b.2.2.1, b.2.2.2.1, ix_nI (by omega), ix_nI (by omega), hl _ b.2.1, hl w hw]
  refine ⟨vp_in_nI (by omega) (by decide), ?_⟩
  refine br_le (b := 0) (by omega) (by omega) (fun z => h0 (fun q => by have := q.1; omega)) (fun z => ⟨vp_in_nI (by omega) (by decide), vp_in_nI b.2.1 (by decide), vp_in_nI hw (by decide), ?_⟩)
  have lw := hlv w hw
  have le := hlv _ b.2.1
  obtain ⟨y, hy⟩ : ∃ y, lev w = y + 1 + 1 := ⟨lev w - 2, by omega⟩
  rw [hy, cd_s, lit 1, nI_sub (by omega), Nat.add_sub_cancel]
  by_cases z2 : lev (en e) = 0
  · rw [z2, cd_0]
    exact ⟨fun q => absurd q.symm (nI_nm1 (by omega)), fun _ => h0 (fun q => q.2.1 z2)⟩
  · obtain ⟨x, hx⟩ : ∃ x, lev (en e) = x + 1 := ⟨lev (en e) - 1, by omega⟩
    rw [hx, cd_s]
    refine br_eq (by omega) (by omega) (fun q => h1 ⟨z, z2, by rw [ht]; omega⟩) (fun q => h0 (fun a => q ?_))
    have := a.2.2
    rw [ht] at this
    omega
theorem c_nextDown {w : Nat} (hA : AR (2 * A) (fun e => en (xr e)) en lf h) (hl : ∀ w, w < 152 → gi h 94 w = cd (lev w)) (hlv : ∀ w, w < 152 → lev w ≤ 152) (hlb : ∀ e, e < 2 * A → lf e < 2 ^ 31) (htu : ∀ w, w < 152 → gi h 95 w = cd (tu w)) (hT : TUR A en lf lev tu) (hw : w < 152) (h2 : 2 ≤ lev w)
    (h0 : ∀ h', TUR A en lf lev (upN tu w 0) → (∀ w', w' < 152 → gi h' 95 w' = cd (upN tu w 0 w')) → (∀ e, e < 2 * A → en (xr e) = w → ¬ Adm en lf lev e) → FrI (fun a _ => a = 95) h h' → Q (-1) h')
    (h1 : ∀ e h', e < 2 * A → en (xr e) = w → Adm en lf lev e → TUR A en lf lev (upN tu w (e + 1)) → (∀ w', w' < 152 → gi h' 95 w' = cd (upN tu w (e + 1) w')) → FrI (fun a _ => a = 95) h h' → Q (nI e) h') : f_X1_nextDown (nI w) h Q := by
  have hA1 := hA.1.1
  unfold f_X1_nextDown
  refine ⟨vp_in_nI hw (by decide), ?_⟩
  intro x2 e2
  rw [ix_nI (by omega), htu w hw] at e2
  rw [e2]
  have put : ∀ k : Nat, ∀ h5, h5 = si h 95 w (cd k) → (∀ w', w' < 152 → gi h5 95 w' = cd (upN tu w k w')) ∧ FrI (fun a _ => a = 95) h h5 := by
    intro k h5 e5
    refine ⟨fun w' hw' => ?_, by rw [e5]; exact FrI.si rfl⟩
    rw [e5, gi_si]
    by_cases z : w' = w
    · rw [if_pos ⟨rfl, z⟩, z, upN_eq]
    · rw [if_neg (fun q => z q.2), upN_ne z]; exact htu w' hw'
  have none' : (∀ e, e < 2 * A → en (xr e) = w → ¬ Adm en lf lev e) → ∀ h5, h5 = si h 95 w (cd 0) → Q (-1) h5 := by
    intro q h5 e5
    have p := put 0 h5 e5
    refine h0 h5 (fun w' hw' => ?_) p.1 q p.2
    by_cases z : w' = w
    · rw [z, upN_eq]; exact ⟨Or.inl rfl, fun e he ht _ => q e he ht⟩
    · rw [upN_ne z]; exact hT w' hw'
  have key : ∀ f k j, k < f → (k = 0 ∨ ∃ e, e < 2 * A ∧ k = e + 1 ∧ en (xr e) = w) → j + k ≤ 1068 → (∀ e, e < 2 * A → en (xr e) = w → k ≤ e → ¬ Adm en lf lev e) → f_X1_nextDown_L9 (nI w) Q f (cd k) (nI j) h := by
    intro f
    induction f with
    | zero => intros; omega
    | succ f ih =>
      intro k j k1 k2 k3 k4
      unfold f_X1_nextDown_L9
      refine br_le (a := 1068) (by omega) (by omega) (fun z => ⟨vp_in_nI hw (by decide), ?_⟩) (fun z => ?_)
      · intro h5 e5
        have k0 : k = 0 := by omega
        rw [k0, ix_nI (by omega)] at e5
        rw [k0, cd_0]
        exact none' (fun e he ht => k4 e he ht (by omega)) h5 e5
      · refine cd_neg (by omega) (fun z0 => ⟨vp_in_nI hw (by decide), ?_⟩) (fun e ee => ?_)
        · intro h8 e8
          rw [z0, ix_nI (by omega)] at e8
          rw [z0, cd_0]
          exact none' (fun e he ht => k4 e he ht (by omega)) h8 e8
        · have k2' : e < 2 * A ∧ en (xr e) = w := by
            rcases k2 with q | ⟨e', q1, q2, q3⟩
            · omega
            · have : e' = e := by omega
              rw [← this]; exact ⟨q1, q3⟩
          rw [ee, cd_s]
          refine c_leads hA hl hlv hlb k2'.1 hw k2'.2 h2 (fun a => br1 ⟨vp_in_nI hw (by decide), ?_⟩) (fun a => br0 ⟨vp_in_nI (by omega) (by decide), ?_⟩)
          · intro h13 e13
            rw [ix_nI (by omega), ← cd_s] at e13
            have p := put (e + 1) h13 e13
            refine h1 e h13 k2'.1 k2'.2 a (fun w' hw' => ?_) p.1 p.2
            by_cases z2 : w' = w
            · rw [z2, upN_eq]; exact ⟨Or.inr ⟨e, k2'.1, rfl, k2'.2⟩, fun e' he' ht' hle => k4 e' he' ht' (by omega)⟩
            · rw [upN_ne z2]; exact hT w' hw'
          · intro x ex y ey
            have nx : gi h 90 e = cd (pv (fun e => en (xr e)) w e) := by
              have t := (hA.2.1 e k2'.1).2.2.2.2
              have q := k2'.2
              rw [← q]; exact t
            rw [ix_nI (by omega), nx] at ex
            rw [ex, ey, nI_1]
            have pl := pv_le (fun e => en (xr e)) w e
            refine ih _ (j + 1) (by omega) ?_ (by omega) (fun e' he' ht' hle => ?_)
            · cases hp : pv (fun e => en (xr e)) w e with
              | zero => exact Or.inl rfl
              | succ e' =>
                have := pv_some hp
                exact Or.inr ⟨e', by omega, rfl, this.2.1⟩
            · by_cases z2 : e' = e
              · rw [z2]; exact a
              · by_cases z3 : e < e'
                · exact k4 e' he' ht' (by omega)
                · exfalso
                  cases hp : pv (fun e => en (xr e)) w e with
                  | zero => exact pv_none hp e' (by omega) ht'
                  | succ e2 => exact (pv_some hp).2.2 e' (by omega) (by omega) ht'
  have t0 := hT w hw
  have tl : tu w ≤ 2 * A := by
    rcases t0.1 with q | ⟨e, q1, q2, _⟩ <;> omega
  exact ⟨tu w + 1, key (tu w + 1) (tu w) 0 (by omega) t0.1 (by omega) t0.2⟩
/-- a phase under way: lev0 the levels at its start -/
def PHS (A : Nat) (en lf lev0 lev tu P : Nat → Nat) (D : Nat) : Prop :=
  (∀ w, w < 152 → lev w = lev0 w ∨ lev w = 0) ∧ (lev 150 = 1 ∧ ∀ w, w < 152 → lev w = 1 → w = 150) ∧ TUR A en lf lev tu ∧ PTH A en lf lev P (lev0 151) D ∧
  (∀ w, w < 152 → lev w = 0 → lev0 w ≠ 0 → ∀ e, e < 2 * A → en (xr e) = w → 0 < lf e → lev0 (en e) + 1 = lev0 w → lev (en e) = 0) ∧
  (∀ e, e < 2 * A → 0 < lf e → (if lev0 (en (xr e)) = 0 then lev0 151 else lev0 (en (xr e))) ≤ (if lev0 (en e) = 0 then lev0 151 else lev0 (en e)) + 1) ∧
  (∀ e, e < 2 * A → lf e + lf (xr e) ≤ 4000000)
def Kn (A : Nat) (en lev0 lf : Nat → Nat) : Nat := sm (fun e => if Adm en lf lev0 e then 1 else 0) (2 * A)
def Zn (lev : Nat → Nat) : Nat := sm (fun w => if lev w = 0 then 0 else 1) 152
theorem sm_lt {f g : Nat → Nat} {n k : Nat} (h : ∀ i, i < n → f i ≤ g i) (hk : k < n) (hlt : f k < g k) : sm f n < sm g n := by
  induction n with
  | zero => omega
  | succ n ih =>
    simp only [sm]
    have a : ∀ m, (∀ i, i < m → f i ≤ g i) → sm f m ≤ sm g m := by
      intro m
      induction m with
      | zero => intro _; exact Nat.le_refl _
      | succ m ih2 =>
        intro hm
        simp only [sm]
        have := ih2 (fun i hi => hm i (by omega))
        have := hm m (by omega)
        omega
    by_cases z : k = n
    · have := a n (fun i hi => h i (by omega))
      rw [z] at hlt
      omega
    · have := ih (fun i hi => h i (by omega)) (by omega)
      have := h n (by omega)
      omega
/-- behind a push -/
theorem PHS.push {lf2 lev0 : Nat → Nat} {D g fu : Nat} (hen : ∀ e, e < 2 * A → en e < 152) (hS : PHS A en lf lev0 lev tu P D) (hp : PSH A en lf lf2 P D g fu) : PHS A en lf2 lev0 lev tu P fu ∧ Kn A en lev0 lf2 < Kn A en lev0 lf := by
  obtain ⟨a1, a2, a3, a4, a5, a6, a7⟩ := hS
  obtain ⟨p1, p2, p3, p4, p5, p6, _⟩ := hp
  have lv : ∀ j, j ≤ D → lev0 (pnd en P j) + j = lev0 151 ∧ 1 ≤ lev0 (pnd en P j) := fun j hj => by
    have b := a4.2 j hj
    rcases a1 _ b.1 with z | z
    · rw [← z]; exact ⟨b.2.1, b.2.2⟩
    · omega
  -- how an arc has changed: it has less, or leads up
  have ch : ∀ e, e < 2 * A → (lf2 e ≤ lf e) ∨ (∃ j, j < D ∧ e = xr (P j)) := by
    intro e he
    by_cases z : ∃ j, j < D ∧ (e = P j ∨ e = xr (P j))
    · obtain ⟨j, j1, j2 | j2⟩ := z
      · left; rw [j2, (p5 j j1).1]; omega
      · right; exact ⟨j, j1, j2⟩
    · left
      rw [p6 e (fun j hj => ⟨fun q => z ⟨j, hj, Or.inl q⟩, fun q => z ⟨j, hj, Or.inr q⟩⟩)]
      exact Nat.le_refl _
  have upw : ∀ j, j < D → lev0 (en (xr (P j))) = lev0 (en (xr (xr (P j)))) + 1 ∧ lev (en (xr (P j))) = lev (en (xr (xr (P j)))) + 1 ∧ lev0 (en (xr (xr (P j)))) ≠ 0 := by
    intro j hj
    have b := a4.1 j hj
    rw [xr_xr, b.2.1]
    have c1 := lv j (by omega)
    have c2 := lv (j + 1) (by omega)
    have c3 := a4.2 j (by omega)
    have c4 := a4.2 (j + 1) (by omega)
    have e1 : pnd en P (j + 1) = en (P j) := rfl
    rw [e1] at c2 c4
    omega
  have dn : ∀ e, e < 2 * A → lev0 (en e) + 1 = lev0 (en (xr e)) → lf2 e ≤ lf e := by
    intro e he hd
    rcases ch e he with z | ⟨j, j1, j2⟩
    · exact z
    · have := upw j j1
      rw [← j2] at this
      omega
  have dn2 : ∀ e, e < 2 * A → lev (en e) + 1 = lev (en (xr e)) → lf2 e ≤ lf e := by
    intro e he hd
    rcases ch e he with z | ⟨j, j1, j2⟩
    · exact z
    · have := upw j j1
      rw [← j2] at this
      omega
  refine ⟨⟨a1, a2, fun w hw => ⟨(a3 w hw).1, fun e he ht hle ad => ?_⟩, ⟨fun j hj => ?_, fun j hj => a4.2 j (by omega)⟩, fun w hw h1 h2 e he ht hl hd => ?_, fun e he hl => ?_, fun e he => ?_⟩, ?_⟩
  · have := dn2 e he ad.2.2
    exact (a3 w hw).2 e he ht hle ⟨by have := ad.1; omega, ad.2⟩
  · have b := a4.1 j (by omega)
    refine ⟨b.1, b.2.1, ?_⟩
    rw [(p5 j (by omega)).1]
    have := p4 j hj
    omega
  · have := dn e he (by rw [ht]; exact hd)
    exact a5 w hw h1 h2 e he ht (by omega) hd
  · rcases ch e he with z | ⟨j, j1, j2⟩
    · exact a6 e he (by omega)
    · have := upw j j1
      rw [← j2] at this
      rw [if_neg this.2.2, if_neg (by omega)]
      omega
  · by_cases z : ∃ j, j < D ∧ (e = P j ∨ e = xr (P j))
    · obtain ⟨j, j1, j2 | j2⟩ := z
      · have b := p5 j j1
        have := a7 e he
        rw [j2] at this ⊢
        rw [b.1, b.2.2]; omega
      · have b := p5 j j1
        have := a7 e he
        rw [j2, xr_xr] at this ⊢
        rw [b.1, b.2.2]; omega
    · have q1 := p6 e (fun j hj => ⟨fun q => z ⟨j, hj, Or.inl q⟩, fun q => z ⟨j, hj, Or.inr q⟩⟩)
      have q2 := p6 (xr e) (fun j hj => ⟨fun q => z ⟨j, hj, Or.inr (by rw [← q, xr_xr])⟩, fun q => z ⟨j, hj, Or.inl (by rw [← xr_xr e, q, xr_xr])⟩⟩)
      rw [q1, q2]; exact a7 e he
  · unfold Kn
    have b := a4.1 fu p2
    refine sm_lt (k := P fu) (fun e he => ?_) b.1 ?_
    · by_cases z : Adm en lf2 lev0 e
      · have := dn e he z.2.2
        have z' : Adm en lf lev0 e := ⟨by have := z.1; omega, z.2⟩
        rw [if_pos z, if_pos z']; exact Nat.le_refl _
      · rw [if_neg z]; exact Nat.zero_le _
    · have c1 := lv fu (by omega)
      have c2 := lv (fu + 1) (by omega)
      have e1 : pnd en P (fu + 1) = en (P fu) := rfl
      rw [e1] at c2
      have z' : Adm en lf lev0 (P fu) := ⟨b.2.2, by omega, by rw [b.2.1]; omega⟩
      have z : ¬ Adm en lf2 lev0 (P fu) := fun q => by
        have q1 := q.1
        rw [(p5 fu p2).1, p3] at q1
        omega
      rw [if_neg z, if_pos z']; exact Nat.one_pos
end Fi
