/-! a whole phase -/
def BLK (A : Nat) (en lf2 lev0 : Nat → Nat) : Prop :=
  (∀ e, e < 2 * A → 0 < lf2 e → (if lev0 (en (xr e)) = 0 then lev0 151 else lev0 (en (xr e))) ≤ (if lev0 (en e) = 0 then lev0 151 else lev0 (en e)) + 1) ∧
  ∃ lev : Nat → Nat, (∀ w, w < 152 → lev w = lev0 w ∨ lev w = 0) ∧ lev 150 = 1 ∧ ∀ e, e < 2 * A → 0 < lf2 e → lev (en e) ≠ 0 → lev0 (en e) + 1 = lev0 (en (xr e)) → lev (en (xr e)) ≠ 0 ∧ en (xr e) ≠ 151
abbrev cellsF : Nat → Nat → Prop := fun a k => a = 92 ∨ (94 ≤ a ∧ a ≤ 97) ∨ (a = 88 ∧ k = 5)
section Fi
variable {A : Nat} {en : Nat → Nat} {h : HP} {Q : HP → Prop}
theorem blk_up {lf lf2 lev0 lev1 : Nat → Nat} (hen : ∀ e, e < 2 * A → en e < 152) (h0 : LVS A en lf lev0) (hd : lev0 151 ≠ 0) (hb : BLK A en lf2 lev0) (h1 : LVS A en lf2 lev1) (hd1 : lev1 151 ≠ 0) : lev0 151 < lev1 151 := by
  obtain ⟨b1, lev, b2, b3, b4⟩ := hb
  have le0 := (h0.2.2.2 hd).1
  have key : ∀ k w, w < 152 → lev1 w = k + 1 → (if lev0 w = 0 then lev0 151 else lev0 w) ≤ k + 1 ∧ (lev0 w = k + 1 → lev w ≠ 0 ∧ w ≠ 151) := by
    intro k
    induction k with
    | zero =>
      intro w hw hk
      have e := h1.1.2.1 w hw hk
      have q : lev0 150 = 1 := h0.1.1
      rw [e, q]
      refine ⟨by rw [if_neg (by omega)]; omega, fun _ => ⟨by omega, by omega⟩⟩
    | succ k ih =>
      intro w hw hk
      obtain ⟨e, e1, e2, e3, e4, e5⟩ := h1.1.2.2 w hw (by omega)
      have i1 := ih (en e) (hen e e1) (by omega)
      have i2 := b1 e e1 e3
      rw [e2] at i2
      refine ⟨by omega, fun q => ?_⟩
      have lw := le0 w hw
      rw [if_neg (show ¬ lev0 w = 0 by omega)] at i2
      by_cases z : lev0 (en e) = 0
      · rw [if_pos z] at i1 i2
        omega
      · rw [if_neg z] at i1 i2
        have i3 := i1.2 (by omega)
        have := b4 e e1 e3 i3.1 (by rw [e2]; omega)
        rw [e2] at this
        exact this
  obtain ⟨k, hk⟩ : ∃ k, lev1 151 = k + 1 := ⟨lev1 151 - 1, by omega⟩
  have := key k 151 (by omega) hk
  rw [if_neg hd] at this
  apply Decidable.byContradiction
  intro z
  exact (this.2 (by omega)).2 rfl
/-- what the heap shows of a phase -/
def PHH (A : Nat) (en lf lev tu P : Nat → Nat) (D F : Nat) (h : HP) : Prop := AR (2 * A) (fun e => en (xr e)) en lf h ∧ (∀ w, w < 152 → gi h 94 w = cd (lev w)) ∧ (∀ w, w < 152 → gi h 95 w = cd (tu w)) ∧ (∀ j, j < D → gi h 96 j = nI (P j)) ∧ gi h 88 5 = nI F
theorem c_fill {F : Nat} {lf lev0 : Nat → Nat} (hA : AR (2 * A) (fun e => en (xr e)) en lf h) (hlev : ∀ w, w < 152 → gi h 94 w = cd (lev0 w)) (hLV : LVS A en lf lev0) (h151 : lev0 151 ≠ 0) (hlb : ∀ e, e < 2 * A → lf e + lf (xr e) ≤ 4000000) (hfl : gi h 88 5 = nI F)
    (hQ : ∀ lf2 G h', AR (2 * A) (fun e => en (xr e)) en lf2 h' → BLK A en lf2 lev0 → (∀ e, e < 2 * A → lf2 e + lf2 (xr e) = lf e + lf (xr e)) → gi h' 88 5 = nI (F + G) → (∀ w, ex (NP A en lf2) (fP lf2) w = ex (NP A en lf) (fP lf) w + (G : Int) * (bi 150 w - bi 151 w)) → FrI cellsF h h' → Q h') : f_X1_fill h Q := by
  have hA1 := hA.1.1
  have hen : ∀ e, e < 2 * A → en e < 152 := fun e he => (hA.2.1 e he).2.1
  have h150 : lev0 150 = 1 := hLV.1.1
  have l152 := hLV.2.1
  have le0 := (hLV.2.2.2 h151).1
  unfold f_X1_fill
  refine ⟨by decide +kernel, ?_⟩
  intro h2 e2
  have i0 : ix (0 : Int32) = 0 := by decide +kernel
  have i152 : ix (152 : Int32) = 152 := by decide +kernel
  rw [i0, i152] at e2
  have f2 : FrI cellsF h h2 := by rw [e2]; exact FrI.cpi (fun _ => Or.inr (Or.inl (by omega)))
  have A2 : AR (2 * A) (fun e => en (xr e)) en lf h2 := by
    have : FrI (fun a _ => a = 95) h h2 := by rw [e2]; exact FrI.cpi (fun _ => rfl)
    exact hA.frame this (by intro x k; omega)
  have u2 : ∀ a k, a ≠ 95 → gi h2 a k = gi h a k := fun a k z => by rw [e2, gi_cpi, if_neg (fun q => z q.1)]
  have key : ∀ f lf1 lev tu P D F1 i h1, PHS A en lf1 lev0 lev tu P D → PHH A en lf1 lev tu P D F1 h1 → (∀ e, e < 2 * A → lf1 e + lf1 (xr e) = lf e + lf (xr e)) → F ≤ F1 → (∀ w, ex (NP A en lf1) (fP lf1) w = ex (NP A en lf) (fP lf) w + ((F1 - F : Nat) : Int) * (bi 150 w - bi 151 w)) → FrI cellsF h h1 → 152 * Kn A en lev0 lf1 + 2 * Zn lev + (152 - D) < f → i + (152 * Kn A en lev0 lf1 + 2 * Zn lev + (152 - D)) ≤ 170000 → f_X1_fill_L24 Q f (nI D) (nI (pnd en P D)) (nI i) h1 := by
    intro f
    induction f with
    | zero => intros; omega
    | succ f ih =>
      have J : ∀ lf1 lev tu P D F1 i h1, PHS A en lf1 lev0 lev tu P D → PHH A en lf1 lev tu P D F1 h1 → (∀ e, e < 2 * A → lf1 e + lf1 (xr e) = lf e + lf (xr e)) → F ≤ F1 → (∀ w, ex (NP A en lf1) (fP lf1) w = ex (NP A en lf) (fP lf) w + ((F1 - F : Nat) : Int) * (bi 150 w - bi 151 w)) → FrI cellsF h h1 → pnd en P D ≠ 150 → 152 * Kn A en lev0 lf1 + 2 * Zn lev + (152 - D) ≤ f → i + (152 * Kn A en lev0 lf1 + 2 * Zn lev + (152 - D)) ≤ 170000 → f_X1_fill_J57 (nI D) (nI (pnd en P D)) (nI i) (f_X1_fill_L24 Q f) Q h1 := by
        intro lf1 lev tu P D F1 i h1 s hh sm1 hF1 hex fr nt k1 k2
        obtain ⟨s1, s2, s3, s4, s5, s6, s7⟩ := s
        obtain ⟨g1, g2, g3, g4, g5⟩ := hh
        have pD := s4.2 D (Nat.le_refl _)
        have al : lev (pnd en P D) = lev0 (pnd en P D) := by
          rcases s1 _ pD.1 with z | z
          · exact z
          · omega
        have lv2 : 2 ≤ lev (pnd en P D) := by
          apply Decidable.byContradiction
          intro z
          exact nt (s2.2 _ pD.1 (by omega))
        have d152 := l152 151 (by omega)
        have lvle : ∀ w, w < 152 → lev w ≤ 152 := fun w hw => by
          rcases s1 w hw with z | z
          · rw [z]; exact l152 w hw
          · omega
        have lb31 : ∀ e, e < 2 * A → lf1 e < 2 ^ 31 := fun e he => by have := s7 e he; omega
        unfold f_X1_fill_J57
        refine c_nextDown g1 g2 lvle lb31 g3 s3 pD.1 lv2 (fun h5 t1 t2 t3 t4 => ?_) (fun e h5 t0 t1 t2 t3 t4 t5 => ?_)
        · -- none
          refine ⟨fun _ => ?_, fun z => absurd (by decide +kernel) z⟩
          have fr5 : FrI cellsF h h5 := fr.trans (t4.mono (fun a k z => Or.inr (Or.inl (by omega))))
          have A5 := g1.frame t4 (by intro x k; omega)
          refine br_le (b := 0) (by omega) (by omega) (fun z => ?_) (fun z => ?_)
          · have D0 : D = 0 := by omega
            subst D0
            refine hQ lf1 (F1 - F) h5 A5 ⟨s6, lev, s1, s2.1, fun e he hl hne hdn => ?_⟩ sm1 (by rw [t4.1 _ _ (by omega), g5]; congr 1; omega) hex fr5
            have el : lev (en e) = lev0 (en e) := by
              rcases s1 _ (hen e he) with q | q
              · exact q
              · exact absurd q hne
            have n1 : en (xr e) ≠ 151 := fun q => t3 e he q ⟨hl, hne, by
              have al' : lev 151 = lev0 151 := al
              rw [q] at hdn ⊢
              rw [el, al']; exact hdn⟩
            refine ⟨fun q => hne (s5 _ (hen _ (xr_lt he)) q (by omega) e he rfl hl hdn), n1⟩
          · have p0 := s4.1 (D - 1) (by omega)
            refine ⟨vp_in_nI pD.1 (by decide), ?_⟩
            intro h10 e10 x1 ex1
            rw [ix_nI (by omega)] at e10
            have ex1' : x1 = nI (D - 1) := by
              rw [ex1, ← Int32.sub_eq_add_neg]
              show nI D - nI 1 = _
              rw [nI_sub (by omega)]
            have f10 : FrI (fun a _ => a = 94) h5 h10 := by rw [e10]; exact FrI.si rfl
            have A10 := A5.frame f10 (by intro x k; omega)
            have p10 : ∀ j, j < D → gi h10 96 j = nI (P j) := fun j hj => by rw [f10.1 _ _ (by omega), t4.1 _ _ (by omega)]; exact g4 j hj
            rw [ex1', ix_nI (by omega), p10 (D - 1) (by omega), nI_xor (by omega), ix_nI (by have := xr_lt p0.1; omega), (A10.2.1 _ (xr_lt p0.1)).2.2.1, p0.2.1]
            refine ⟨vp_in_nI (by omega) (by decide), vp_in_nI (by have := xr_lt p0.1; omega) (by decide), ?_⟩
            intro x2 ex2 x3 ex3
            rw [ex2, ex3, nI_1]
            have ad : ∀ e, Adm en lf1 (upN lev (pnd en P D) 0) e → Adm en lf1 lev e := by
              intro e q
              have n1 : en e ≠ pnd en P D := fun z2 => q.2.1 (by rw [z2, upN_eq])
              have n2 : en (xr e) ≠ pnd en P D := fun z2 => by have := q.2.2; rw [z2, upN_eq] at this; omega
              have q2 := q.2
              rw [upN_ne n1, upN_ne n2] at q2
              exact ⟨q.1, q2⟩
            have zn : Zn (upN lev (pnd en P D) 0) + 1 = Zn lev := by
              unfold Zn
              have := sm_up (F := fun w => if upN lev (pnd en P D) 0 w = 0 then 0 else 1) (G := fun w => if lev w = 0 then 0 else 1) pD.1 (fun j _ hj => by rw [upN_ne hj])
              simp only [upN_eq] at this
              rw [if_pos True.intro, if_neg (show ¬ lev (pnd en P D) = 0 by omega)] at this
              omega
            refine ih lf1 (upN lev (pnd en P D) 0) (upN tu (pnd en P D) 0) P (D - 1) F1 (i + 1) h10 ⟨fun w hw => ?_, ⟨by rw [upN_ne (fun q => nt q.symm)]; exact s2.1, fun w hw hw1 => ?_⟩, fun w hw => ⟨(t1 w hw).1, fun e he ht hle q => (t1 w hw).2 e he ht hle (ad e q)⟩, ⟨fun j hj => s4.1 j (by omega), fun j hj => ?_⟩, fun w hw h1 h2 e he ht hl hdn => ?_, s6, s7⟩ ⟨A10, fun w hw => ?_, fun w hw => ?_, fun j hj => p10 j (by omega), ?_⟩ sm1 hF1 hex (fr5.trans (f10.mono (fun a k z => Or.inr (Or.inl (by omega))))) (by omega) (by omega)
            · by_cases z2 : w = pnd en P D
              · right; rw [z2, upN_eq]
              · rw [upN_ne z2]; exact s1 w hw
            · by_cases z2 : w = pnd en P D
              · rw [z2, upN_eq] at hw1; omega
              · rw [upN_ne z2] at hw1; exact s2.2 w hw hw1
            · have b := s4.2 j (by omega)
              have ne : pnd en P j ≠ pnd en P D := fun q => by rw [q] at b; omega
              rw [upN_ne ne]; exact b
            · by_cases z2 : w = pnd en P D
              · apply Decidable.byContradiction
                intro q
                have n1 : en e ≠ pnd en P D := fun z3 => q (by rw [z3, upN_eq])
                rw [upN_ne n1] at q
                have el : lev (en e) = lev0 (en e) := by
                  rcases s1 _ (hen e he) with q1 | q1
                  · exact q1
                  · exact absurd q1 q
                refine t3 e he (ht.trans z2) ⟨hl, q, ?_⟩
                rw [ht, z2, al, el, ← z2]; exact hdn
              · rw [upN_ne z2] at h1
                have := s5 w hw h1 h2 e he ht hl hdn
                by_cases z3 : en e = pnd en P D
                · rw [z3, upN_eq]
                · rw [upN_ne z3]; exact this
            · rw [e10, gi_si]
              by_cases z2 : w = pnd en P D
              · rw [if_pos ⟨rfl, z2⟩, z2, upN_eq, cd_0]
              · rw [if_neg (fun q => z2 q.2), upN_ne z2, t4.1 _ _ (by omega)]; exact g2 w hw
            · rw [f10.1 _ _ (by omega)]; exact t2 w hw
            · rw [f10.1 _ _ (by omega), t4.1 _ _ (by omega)]; exact g5
        · -- one more arc
          have he68 : e < 1068 := by omega
          refine br_lt (b := 0) (by omega) (by omega) (fun z => by omega) (fun _ => ⟨vp_in_nI (by omega) (by decide), ?_⟩)
          intro h17 e17 x1 ex1
          rw [ix_nI (by omega)] at e17
          have f17 : FrI (fun a _ => a = 96) h5 h17 := by rw [e17]; exact FrI.si rfl
          have A17 := (g1.frame t5 (by intro x k; omega)).frame f17 (by intro x k; omega)
          rw [ix_nI (by omega), (A17.2.1 e t0).2.2.1, ex1, nI_1]
          refine ⟨vp_in_nI he68 (by decide), ?_⟩
          intro x2 ex2 x3 ex3
          rw [ex2, ex3, nI_1]
          have pe : ∀ j, j ≤ D → pnd en (upN P D e) j = pnd en P j := fun j hj => by
            cases j with
            | zero => rfl
            | succ j => show en (upN P D e j) = en (P j); rw [upN_ne (by omega)]
          have pn : pnd en (upN P D e) (D + 1) = en e := by show en (upN P D e D) = en e; rw [upN_eq]
          rw [← pn]
          have fr17 : FrI cellsF h h17 := (fr.trans (t5.mono (fun a k z => Or.inr (Or.inl (by omega))))).trans (f17.mono (fun a k z => Or.inr (Or.inl (by omega))))
          refine ih lf1 lev (upN tu (pnd en P D) (e + 1)) (upN P D e) (D + 1) F1 (i + 1) h17 ⟨s1, s2, t3, ⟨fun j hj => ?_, fun j hj => ?_⟩, s5, s6, s7⟩ ⟨A17, fun w hw => ?_, fun w hw => ?_, fun j hj => ?_, ?_⟩ sm1 hF1 hex fr17 (by omega) (by omega)
          · rw [pe j (by omega)]
            by_cases z2 : j = D
            · rw [z2, upN_eq]; exact ⟨t0, t1, t2.1⟩
            · rw [upN_ne z2]; exact s4.1 j (by omega)
          · by_cases z2 : j = D + 1
            · rw [z2, pn]
              have := t2.2.2
              rw [t1] at this
              exact ⟨hen e t0, by omega, by have := t2.2.1; omega⟩
            · rw [pe j (by omega)]; exact s4.2 j (by omega)
          · rw [f17.1 _ _ (by omega), t5.1 _ _ (by omega)]; exact g2 w hw
          · rw [f17.1 _ _ (by omega)]; exact t4 w hw
          · rw [e17, gi_si]
            by_cases z2 : j = D
            · rw [if_pos ⟨rfl, z2⟩, z2, upN_eq]
            · rw [if_neg (fun q => z2 q.2), upN_ne z2, t5.1 _ _ (by omega)]; exact g4 j (by omega)
          · rw [f17.1 _ _ (by omega), t5.1 _ _ (by omega)]; exact g5
      intro lf1 lev tu P D F1 i h1 s hh sm1 hF1 hex fr k1 k2
      unfold f_X1_fill_L24
      refine br_le (a := 1000000) (by omega) (by omega) (fun z => by omega) (fun _ => ?_)
      have pD := s.2.2.2.1.2 D (Nat.le_refl _)
      have d152 := l152 151 (by omega)
      refine br_eq (b := 150) (by omega) (by omega) (fun z => ?_) (fun z => J lf1 lev tu P D F1 i h1 s hh sm1 hF1 hex fr z (by omega) k2)
      have D1 : 0 < D := by
        apply Decidable.byContradiction
        intro q
        have D0 : D = 0 := by omega
        rw [D0] at z
        exact absurd z (by show ¬ (151 : Nat) = 150; omega)
      refine c_push (lev := lev) (d := lev0 151) hh.1 s.2.2.2.2.2.2 s.2.2.2.1 D1 (by omega) z hh.2.2.2.1 hh.2.2.2.2 (fun lf2 g fu h3 p1 p2 p3 p4 => ?_)
      have sp := s.push hen p1
      have pf := s.2.2.2.1.1 fu p1.2.1
      have g96 : gi h3 96 fu = nI (P fu) := by rw [p4.1 _ _ (by simp only [cellsP]; omega)]; exact hh.2.2.2.1 fu p1.2.1
      have xl := xr_lt pf.1
      have fu1 := p1.2.1
      rw [ix_nI (by omega), g96, nI_xor (by omega), ix_nI (by omega), (p2.2.1 _ xl).2.2.1, pf.2.1]
      refine ⟨vp_in_nI (by omega) (by decide), vp_in_nI (by omega) (by decide), ?_⟩
      intro x2 ex2
      rw [ex2]
      have lfu := s.2.2.2.1.2 fu (by omega)
      have n150 : pnd en P fu ≠ 150 := fun q => by
        rw [q] at lfu
        rw [z] at pD
        omega
      refine J lf2 lev tu P fu (F1 + g) i h3 sp.1 ⟨p2, fun w hw => ?_, fun w hw => ?_, fun j hj => ?_, p3⟩ (fun e he => ?_) (by omega) (fun w => ?_) (fr.trans (p4.mono (fun a k q => by simp only [cellsP] at q; simp only [cellsF]; omega))) n150 (by omega) (by omega)
      · rw [p4.1 _ _ (by simp only [cellsP]; omega)]; exact hh.2.1 w hw
      · rw [p4.1 _ _ (by simp only [cellsP]; omega)]; exact hh.2.2.1 w hw
      · rw [p4.1 _ _ (by simp only [cellsP]; omega)]; exact hh.2.2.2.1 j (by omega)
      · rw [← sm1 e he]
        have q5 := p1.2.2.2.2.1
        have q6 := p1.2.2.2.2.2.1
        by_cases z2 : ∃ j, j < D ∧ (e = P j ∨ e = xr (P j))
        · obtain ⟨j, j1, j2 | j2⟩ := z2
          · have b := q5 j j1
            rw [j2, b.1, b.2.2]; omega
          · have b := q5 j j1
            rw [j2, xr_xr, b.1, b.2.2]; omega
        · have r1 := q6 e (fun j hj => ⟨fun q => z2 ⟨j, hj, Or.inl q⟩, fun q => z2 ⟨j, hj, Or.inr q⟩⟩)
          have r2 := q6 (xr e) (fun j hj => ⟨fun q => z2 ⟨j, hj, Or.inr (by rw [← q, xr_xr])⟩, fun q => z2 ⟨j, hj, Or.inl (by rw [← xr_xr e, q, xr_xr])⟩⟩)
          rw [r1, r2]
      · rw [p1.2.2.2.2.2.2 w, hex w, Int.add_assoc, ← Int.add_mul]
        congr 2
        omega
  have kn0 : Kn A en lev0 lf ≤ 1068 := by
    unfold Kn
    have := sm_bound (f := fun e => if Adm en lf lev0 e then 1 else 0) (n := 2 * A) (b := 1) (fun i _ => by split <;> omega)
    omega
  have zn0 : Zn lev0 ≤ 152 := by
    unfold Zn
    have := sm_bound (f := fun w => if lev0 w = 0 then 0 else 1) (n := 152) (b := 1) (fun i _ => by split <;> omega)
    omega
  refine ⟨170001, key 170001 lf lev0 (fun w => pv (fun e => en (xr e)) w (2 * A)) (fun _ => 0) 0 F 0 h2 ⟨fun w _ => Or.inl rfl, ⟨h150, hLV.1.2.1⟩, fun w hw => ⟨?_, fun e he ht hle _ => ?_⟩, ⟨fun j hj => by omega, fun j hj => ?_⟩, fun w hw q1 q2 => absurd q1 q2, fun e he hl => (hLV.2.2.2 h151).2 e he hl, hlb⟩ ⟨A2, fun w hw => by rw [u2 _ _ (by omega)]; exact hlev w hw, fun w hw => ?_, fun j hj => by omega, by rw [u2 _ _ (by omega)]; exact hfl⟩ (fun e _ => rfl) (Nat.le_refl _) (fun w => by rw [Nat.sub_self]; simp) f2 (by omega) (by omega)⟩
  · cases hp : pv (fun e => en (xr e)) w (2 * A) with
    | zero => exact Or.inl hp
    | succ e => have := pv_some hp; exact Or.inr ⟨e, this.1, hp, this.2.1⟩
  · cases hp : pv (fun e => en (xr e)) w (2 * A) with
    | zero => exact pv_none hp e he ht
    | succ e2 =>
      have := pv_some hp
      have hle' : pv (fun e => en (xr e)) w (2 * A) ≤ e := hle
      exact this.2.2 e (by omega) he ht
  · have : j = 0 := by omega
    subst this
    exact ⟨by show (151 : Nat) < 152; omega, rfl, by show 1 ≤ lev0 151; omega⟩
  · rw [e2, gi_cpi, if_pos ⟨rfl, by omega, by omega⟩, Nat.zero_add, Nat.sub_zero]
    exact hA.2.2 w hw
end Fi
