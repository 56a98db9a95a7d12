/-! a tick goes -/
theorem sm_upd {f : Nat → Nat} {j x : Nat} : ∀ n, j < n → sm (fun i => if i = j then x else f i) n + f j = sm f n + x
  | 0, h => by omega
  | n + 1, h => by
    rw [sm, sm]
    by_cases e : n = j
    · subst e
      have : sm (fun i => if i = n then x else f i) n = sm f n := sm_congr (fun i hi => if_neg (by omega))
      rw [this, if_pos rfl]
      omega
    · rw [if_neg e]
      have := sm_upd (f := f) (j := j) (x := x) n (by omega)
      omega
theorem stk_setS {v : WV} {s x : Nat} (hs : s < vS v) : stk (setS v s 1 x) + vs v s 1 = stk v + x := by
  unfold stk
  have e : (fun s' => vs (setS v s 1 x) s' 1) = (fun s' => if s' = s then x else vs v s' 1) := by
    funext s'
    rw [vs_setS]
    by_cases q : s' = s
    · rw [if_pos ⟨q, rfl⟩, if_pos q]
    · rw [if_neg (fun z => q z.1), if_neg q]
  rw [e]
  exact sm_upd (f := fun s' => vs v s' 1) (vS v) hs
theorem wyl_setY {v : WV} {l k x : Nat} (hk : k < 16) : wyl (setY v l k x) l + vy v l k = wyl v l + x := by
  unfold wyl
  have e : (fun k' => vy (setY v l k x) l k') = (fun k' => if k' = k then x else vy v l k') := by
    funext k'
    rw [vy_setY]
    by_cases q : k' = k
    · rw [if_pos ⟨rfl, q⟩, if_pos q]
    · rw [if_neg (fun z => q z.2), if_neg q]
  rw [e]
  exact sm_upd (f := fun k' => vy v l k') 16 hk
theorem wyl_setY_ne {v : WV} {l l' k x : Nat} (h : l' ≠ l) : wyl (setY v l k x) l' = wyl v l' := by
  unfold wyl
  apply sm_congr
  intro k' _
  rw [vy_setY, if_neg (fun z => h z.1)]
theorem wya_setY {v : WV} {l k x : Nat} (hl : l < vL v) (hk : k < 16) : wya (setY v l k x) + vy v l k = wya v + x := by
  have h1 : wya (setY v l k x) = sm (fun l' => if l' = l then wyl (setY v l k x) l else wyl v l') (vL v) := by
    unfold wya
    apply sm_congr
    intro l' _
    by_cases q : l' = l
    · rw [if_pos q, q]
    · rw [if_neg q]; exact wyl_setY_ne q
  have h2 := sm_upd (f := fun l' => wyl v l') (j := l) (x := wyl (setY v l k x) l) (vL v) hl
  have h3 := wyl_setY (v := v) (l := l) (x := x) hk
  rw [h1]
  unfold wya
  omega
theorem stk_same {v u : WV} (h1 : v.1 = u.1) (h2 : v.2.1 = u.2.1) : stk v = stk u := by unfold stk vs vS; rw [h1, h2]
theorem wya_same {v u : WV} (h1 : v.1 = u.1) (h2 : v.2.2.2 = u.2.2.2) : wya v = wya u := by unfold wya wyl vy vL; rw [h1, h2]
/-- what is above HOLDS at station s is lost -/
def stepA (u : WV) (s : Nat) : WV := if holdsS u s (vT u) < vs u s 1 then setS (setLo u (vLo u + (vs u s 1 - holdsS u s (vT u)))) s 1 (holdsS u s (vT u)) else u
def itA (v : WV) : Nat → WV
  | 0 => v
  | i + 1 => stepA (itA v i) i
/-- what comes by line l in this tick -/
def stepB (u : WV) (l : Nat) : WV := setY (setS (setL u l 8 0) (vl u l 2) 1 (vs u (vl u l 2) 1 + vy u l (vT u % 16))) l (vT u % 16) 0
def itB (v : WV) : Nat → WV
  | 0 => v
  | i + 1 => stepB (itB v i) i
def tickV (v : WV) : WV := itB (setT (itA v (vS v)) (vT v + 1)) (vL v)
theorem stepA_1 (u : WV) (s : Nat) : vT (stepA u s) = vT u ∧ vS (stepA u s) = vS u ∧ vL (stepA u s) = vL u ∧ (stepA u s).2.2 = u.2.2 := by
  unfold stepA
  split <;> exact ⟨rfl, rfl, rfl, rfl⟩
theorem itA_1 (v : WV) : ∀ i, vT (itA v i) = vT v ∧ vS (itA v i) = vS v ∧ vL (itA v i) = vL v ∧ (itA v i).2.2 = v.2.2
  | 0 => ⟨rfl, rfl, rfl, rfl⟩
  | i + 1 => by
    have h1 := itA_1 v i
    have h2 := stepA_1 (itA v i) i
    exact ⟨h2.1.trans h1.1, h2.2.1.trans h1.2.1, h2.2.2.1.trans h1.2.2.1, h2.2.2.2.trans h1.2.2.2⟩
theorem itB_1 (v : WV) : ∀ i, vT (itB v i) = vT v ∧ vS (itB v i) = vS v ∧ vL (itB v i) = vL v ∧ vLo (itB v i) = vLo v
  | 0 => ⟨rfl, rfl, rfl, rfl⟩
  | i + 1 => itB_1 v i
theorem itB_2 (v : WV) : ∀ i l k, k < 8 → vl (itB v i) l k = vl v l k
  | 0, _, _, _ => rfl
  | i + 1, l, k, hk => by
    show vl (setL (itB v i) i 8 0) l k = _
    rw [vl_setL, if_neg (by omega)]
    exact itB_2 v i l k hk
theorem WF_stepA {m B : Nat} {u : WV} (hF : WF m B u) {s : Nat} (hs : s < vS u) : WF m B (stepA u s) := by
  unfold stepA
  split
  · rename_i hc
    refine ⟨hF.1, fun s' hs' => ?_, hF.2.2.1, ?_, hF.2.2.2.2⟩
    · have h1 := hF.2.1 s' hs'
      have e0 : vs (setS (setLo u (vLo u + (vs u s 1 - holdsS u s (vT u)))) s 1 (holdsS u s (vT u))) s' 0 = vs u s' 0 := by rw [vs_setS, if_neg (by omega)]; rfl
      have e2 : vs (setS (setLo u (vLo u + (vs u s 1 - holdsS u s (vT u)))) s 1 (holdsS u s (vT u))) s' 2 = vs u s' 2 := by rw [vs_setS, if_neg (by omega)]; rfl
      rw [e0, e2]
      exact h1
    · have h1 := stk_setS (v := setLo u (vLo u + (vs u s 1 - holdsS u s (vT u)))) (x := holdsS u s (vT u)) hs
      have h2 : stk (setLo u (vLo u + (vs u s 1 - holdsS u s (vT u)))) = stk u := rfl
      have h3 : vs (setLo u (vLo u + (vs u s 1 - holdsS u s (vT u)))) s 1 = vs u s 1 := rfl
      have h4 : wya (setS (setLo u (vLo u + (vs u s 1 - holdsS u s (vT u)))) s 1 (holdsS u s (vT u))) = wya u := rfl
      have h5 : vLo (setS (setLo u (vLo u + (vs u s 1 - holdsS u s (vT u)))) s 1 (holdsS u s (vT u))) = vLo u + (vs u s 1 - holdsS u s (vT u)) := rfl
      have h6 := hF.2.2.2.1
      rw [h4, h5]
      rw [h2, h3] at h1
      omega
  · exact hF
theorem WF_itA {m B : Nat} {v : WV} (hF : WF m B v) : ∀ i, i ≤ vS v → WF m B (itA v i)
  | 0, _ => hF
  | i + 1, h => WF_stepA (WF_itA hF i (by omega)) (by rw [(itA_1 v i).2.1]; omega)
theorem WF_stepB {m B : Nat} {u : WV} (hF : WF m B u) {l : Nat} (hl : l < vL u) : WF m B (stepB u l) := by
  have hto := (hF.2.2.1 l hl).2.2.1
  have hp : vT u % 16 < 16 := by omega
  refine ⟨hF.1, fun s' hs' => ?_, fun l' hl' => ?_, ?_, hF.2.2.2.2⟩
  · have h1 := hF.2.1 s' hs'
    have e0 : vs (stepB u l) s' 0 = vs u s' 0 := by
      show vs (setS (setL u l 8 0) (vl u l 2) 1 _) s' 0 = _
      rw [vs_setS, if_neg (by omega)]; rfl
    have e2 : vs (stepB u l) s' 2 = vs u s' 2 := by
      show vs (setS (setL u l 8 0) (vl u l 2) 1 _) s' 2 = _
      rw [vs_setS, if_neg (by omega)]; rfl
    rw [e0, e2]
    exact h1
  · have h1 := hF.2.2.1 l' hl'
    have e : ∀ k, k < 8 → vl (stepB u l) l' k = vl u l' k := fun k hk => by
      show vl (setL u l 8 0) l' k = _
      rw [vl_setL, if_neg (by omega)]
    have e8 : vl (stepB u l) l' 8 ≤ 300 := by
      show vl (setL u l 8 0) l' 8 ≤ 300
      rw [vl_setL]
      split
      · omega
      · exact h1.2.2.2.2.2.2.2.2.2.2
    rw [e 0 (by omega), e 1 (by omega), e 2 (by omega), e 3 (by omega), e 4 (by omega), e 5 (by omega), e 6 (by omega), e 7 (by omega)]
    exact ⟨h1.1, h1.2.1, h1.2.2.1, h1.2.2.2.1, h1.2.2.2.2.1, h1.2.2.2.2.2.1, h1.2.2.2.2.2.2.1, h1.2.2.2.2.2.2.2.1, h1.2.2.2.2.2.2.2.2.1, h1.2.2.2.2.2.2.2.2.2.1, e8⟩
  · have h1 := stk_setS (v := setL u l 8 0) (x := vs u (vl u l 2) 1 + vy u l (vT u % 16)) hto
    have h2 := wya_setY (v := setS (setL u l 8 0) (vl u l 2) 1 (vs u (vl u l 2) 1 + vy u l (vT u % 16))) (x := 0) hl hp
    have e1 : stk (stepB u l) = stk (setS (setL u l 8 0) (vl u l 2) 1 (vs u (vl u l 2) 1 + vy u l (vT u % 16))) := rfl
    have e2 : stk (setL u l 8 0) = stk u := rfl
    have e3 : vs (setL u l 8 0) (vl u l 2) 1 = vs u (vl u l 2) 1 := rfl
    have e4 : wya (setS (setL u l 8 0) (vl u l 2) 1 (vs u (vl u l 2) 1 + vy u l (vT u % 16))) = wya u := rfl
    have e5 : vy (setS (setL u l 8 0) (vl u l 2) 1 (vs u (vl u l 2) 1 + vy u l (vT u % 16))) l (vT u % 16) = vy u l (vT u % 16) := rfl
    have e6 : vLo (stepB u l) = vLo u := rfl
    have e7 : wya (stepB u l) = wya (setY (setS (setL u l 8 0) (vl u l 2) 1 (vs u (vl u l 2) 1 + vy u l (vT u % 16))) l (vT u % 16) 0) := rfl
    have h6 := hF.2.2.2.1
    rw [e4, e5, ← e7] at h2
    rw [e2, e3, ← e1] at h1
    rw [e6]
    omega
theorem WF_itB {m B : Nat} {v : WV} (hF : WF m B v) : ∀ i, i ≤ vL v → WF m B (itB v i)
  | 0, _ => hF
  | i + 1, h => WF_stepB (WF_itB hF i (by omega)) (by rw [(itB_1 v i).2.2.1]; omega)
theorem WF_setT {m B : Nat} {v : WV} (hF : WF m B v) {t : Nat} (ht : t ≤ 100100) : WF m B (setT v t) := ⟨⟨ht, hF.1.2⟩, hF.2⟩
theorem WF_tick {m B : Nat} {v : WV} (hF : WF m B v) (ht : vT v < 100100) : WF m B (tickV v) := by
  have h1 := itA_1 v (vS v)
  exact WF_itB (WF_setT (WF_itA hF _ (Nat.le_refl _)) (by omega)) _ (by show vL v ≤ vL (itA v (vS v)); rw [h1.2.2.1]; exact Nat.le_refl _)
theorem c_passTick {m B w : Nat} {v : WV} {h : HP} {Q : HP → Prop} (hF : WF m B v) (hC : HC w v h) (ht : vT v < 100100) (hQ : ∀ h', HC w (tickV v) h' → FrI (cellsC w) h h' → Q h') : f_X6_passTick w h Q := by
  have hn := hF.1
  unfold f_X6_passTick
  have key := loop_up (L := fun f i => ∀ h1, HC w (itA v i) h1 → FrI (cellsC w) h h1 → f_X6_passTick_L2 w (fun h12 =>
      ∀ h13 : HP, h13 = si h12 w 0 ((gi h12 w 0) + 1) →
      ∀ x1 : Int32, x1 = ((gi h13 w 0) - (gi h13 w 0) / 16 * 16) →
      ∃ n25, f_X6_passTick_L89 w x1 Q n25 0 h13) Q f (nI i) h1) (vS v) 0 (by omega) (fun f h1 hC1 hf1 => ?_) (fun i f _ hi ih h1 hC1 hf1 => ?_)
  · obtain ⟨f, hf⟩ := key
    exact ⟨f, hf h hC FrI.rf⟩
  · unfold f_X6_passTick_L2
    have e1 := itA_1 v (vS v)
    refine ⟨fun _ => ?_, fun c => absurd (by rw [hC1.1.2.2.1, e1.2.1]; exact nI_le (Nat.le_refl _) (by omega)) c⟩
    intro h13 e13 x1 ex1
    rw [hC1.1.1, e1.1, nI_1] at e13
    have hC2 : HC w (setT (itA v (vS v)) (vT v + 1)) h13 := by rw [e13]; exact hc_setT hC1
    have hf2 : FrI (cellsC w) h h13 := hf1.trans (by rw [e13]; exact FrI.si (by show w ≤ w ∧ w < w + 29; omega))
    have hF2 : WF m B (setT (itA v (vS v)) (vT v + 1)) := WF_setT (WF_itA hF _ (Nat.le_refl _)) (by omega)
    have ex2 : x1 = nI ((vT v + 1) % 16) := by
      rw [ex1, hC2.1.1, lit 16]
      exact nI_rem (by show vT v + 1 < _; omega) (by omega) (by omega)
    clear ex1
    subst ex2
    generalize hu : setT (itA v (vS v)) (vT v + 1) = u at *
    have huT : vT u = vT v + 1 := by rw [← hu]; rfl
    have huL : vL u = vL v := by rw [← hu]; exact e1.2.2.1
    have huS : vS u = vS v := by rw [← hu]; exact e1.2.1
    have key2 := loop_up (L := fun f i => ∀ h3, HC w (itB u i) h3 → FrI (cellsC w) h h3 → f_X6_passTick_L89 w (nI ((vT v + 1) % 16)) Q f (nI i) h3) (vL u) 0 (by omega) (fun f h3 hC3 hf3 => ?_) (fun i f _ hi ih h3 hC3 hf3 => ?_)
    · obtain ⟨f, hf⟩ := key2
      exact ⟨f, hf h13 hC2 hf2⟩
    · unfold f_X6_passTick_L89
      have b1 := itB_1 u (vL u)
      refine ⟨fun _ => hQ h3 ?_ hf3, fun c => absurd (by rw [hC3.1.2.2.2, b1.2.2.1]; exact nI_le (Nat.le_refl _) (by omega)) c⟩
      have : tickV v = itB u (vL u) := by unfold tickV; rw [hu, huL]
      rw [this]
      exact hC3
    · unfold f_X6_passTick_L89
      have b1 := itB_1 u i
      have hFi := WF_itB hF2 i (by omega)
      have hil : i < vL (itB u i) := by rw [b1.2.2.1]; exact hi
      have hto := (hFi.2.2.1 i hil).2.2.1
      have hS6 : vS (itB u i) ≤ 6 := hFi.1.2.1
      have hL10 : vL (itB u i) ≤ 10 := hFi.1.2.2
      refine ⟨fun c => absurd (by rw [hC3.1.2.2.2, b1.2.2.1] at c; exact (nI_leI (by omega) (by omega)).mp c) (by omega), fun _ => ⟨vp_in_nI (by omega) (by decide), ?_⟩⟩
      rw [ix_nI (by omega), show w + 2 + 7 + 2 * i = w + 9 + 2 * i by omega]
      intro h18 e18
      have hC4 : HC w (setL (itB u i) i 8 0) h18 := by rw [e18]; exact hc_setL hC3 hS6 hL10 hil (by omega)
      have hf4 : FrI (cellsC w) h h18 := hf3.trans (by rw [e18]; exact FrI.si (by show w ≤ _ ∧ _ < w + 29; omega))
      have e2 : gi h18 (w + 9 + 2 * i) 2 = nI (vl (itB u i) i 2) := by
        rw [hC4.2.2.1 i hil 2 (by omega), vl_setL, if_neg (by omega)]
      rw [e2, ix_nI (by omega), show w + 1 + 2 + vl (itB u i) i 2 = w + 3 + vl (itB u i) i 2 by omega, show w + 9 + 2 * i + 1 = w + 10 + 2 * i by omega]
      have hp : (vT v + 1) % 16 < 16 := by omega
      refine ⟨vp_in_nI (by omega) (by decide), vp_in_nI hp (by decide), ?_⟩
      rw [ix_nI (by omega)]
      intro h21 e21
      rw [hC4.2.1 _ hto 1 (by omega), hC4.2.2.2 i hil _ hp, nI_add] at e21
      have hpT : vT (itB u i) % 16 = (vT v + 1) % 16 := by rw [b1.1, huT]
      have hC5 : HC w (setS (setL (itB u i) i 8 0) (vl (itB u i) i 2) 1 (vs (itB u i) (vl (itB u i) i 2) 1 + vy (itB u i) i (vT (itB u i) % 16))) h21 := by
        rw [e21, hpT]
        exact hc_setS hC4 hS6 hL10 hto (by omega)
      have hf5 : FrI (cellsC w) h h21 := hf4.trans (by rw [e21]; exact FrI.si (by show w ≤ _ ∧ _ < w + 29; omega))
      refine ⟨vp_in_nI hp (by decide), ?_⟩
      intro h23 e23 x2 ex2'
      rw [ex2', nI_1]
      refine ih h23 ?_ (hf5.trans (by rw [e23]; exact FrI.si (by show w ≤ _ ∧ _ < w + 29; omega)))
      show HC w (stepB (itB u i) i) h23
      unfold stepB
      rw [e23, hpT]
      have := hc_setY hC5 hS6 hL10 hil hp (x := 0)
      rw [hpT] at this
      exact this
  · unfold f_X6_passTick_L2
    have e1 := itA_1 v i
    have hFi := WF_itA hF i (by omega)
    have his : i < vS (itA v i) := by rw [e1.2.1]; exact hi
    have hS6 : vS (itA v i) ≤ 6 := hFi.1.2.1
    have hL10 : vL (itA v i) ≤ 10 := hFi.1.2.2
    have hst := hFi.stock his
    refine ⟨fun c => absurd (by rw [hC1.1.2.2.1, e1.2.1] at c; exact (nI_leI (by omega) (by omega)).mp c) (by omega), fun _ => ⟨vp_in_nI (by omega) (by decide), vp_in_nI (by omega) (by decide), ?_⟩⟩
    rw [ix_nI (by omega), show w + 1 + 2 + i = w + 3 + i by omega, hC1.1.1]
    have hTi : vT (itA v i) < 1000000 := by omega
    refine c_holds hFi hC1 his hTi ?_
    have hho : holdsS (itA v i) i (vT (itA v i)) ≤ 99999 := holdsV_le (hFi.2.1 i his).2
    intro x2 ex2
    rw [hC1.2.1 i his 1 (by omega)] at ex2
    generalize hh : holdsS (itA v i) i (vT (itA v i)) = ho at *
    generalize hk : vs (itA v i) i 1 = so at *
    have hsub : x2.toInt = (so : Int) - ho := by rw [ex2]; exact pk_sub_toInt (by omega) (by omega)
    refine ⟨fun c => ?_, fun c => ?_⟩
    · have c' : so ≤ ho := by
        rw [i32_le, hsub] at c
        have : (0 : Int32).toInt = 0 := rfl
        omega
      intro x3 ex3
      rw [ex3, nI_1]
      refine ih h1 ?_ hf1
      show HC w (stepA (itA v i) i) h1
      unfold stepA
      rw [hh, hk, if_neg (by omega)]
      exact hC1
    · have c' : ho < so := by
        rw [i32_le, hsub] at c
        have : (0 : Int32).toInt = 0 := rfl
        omega
      have ex3 : x2 = nI (so - ho) := by rw [ex2]; exact nI_sub (by omega)
      intro h9 e9
      rw [hC1.1.2.1, ex3, nI_add] at e9
      have hC2 : HC w (setLo (itA v i) (vLo (itA v i) + (so - ho))) h9 := by rw [e9]; exact hc_setLo hC1
      have hf2 : FrI (cellsC w) h h9 := hf1.trans (by rw [e9]; exact FrI.si (by show w ≤ w ∧ w < w + 29; omega))
      refine ⟨vp_in_nI (by omega) (by decide), ?_⟩
      intro h11 e11 x4 ex4
      have e12 : gi h9 (w + 3 + i) 1 = nI so := by rw [hC2.2.1 i his 1 (by omega)]; exact congrArg nI hk
      rw [e12, ex3, nI_sub (by omega), show so - (so - ho) = ho by omega] at e11
      rw [ex4, nI_1]
      refine ih h11 ?_ (hf2.trans (by rw [e11]; exact FrI.si (by show w ≤ _ ∧ _ < w + 29; omega)))
      show HC w (stepA (itA v i) i) h11
      unfold stepA
      rw [hh, hk, if_pos c', e11]
      exact hc_setS hC2 hS6 hL10 his (by omega)
theorem m_oneTick {m B : Nat} {v : WV} {h : HP} {Q : HP → Prop} (hF : WF m B v) (hM : HM v h) (ht : vT v < 100100) (hQ : ∀ h', HM (tickV v) h' → FrI cellsM h h' → Q h') : f_X8_oneTick h Q := by
  have hn := hF.1
  unfold f_X8_oneTick
  have key := loop_up (L := fun f i => ∀ h1, HM (itA v i) h1 → FrI cellsM h h1 → f_X8_oneTick_L2 (fun h12 =>
      ∀ h13 : HP, h13 = si h12 117 1 ((gi h12 117 1) + 1) →
      ∃ n27, f_X8_oneTick_L72 Q n27 0 h13) Q f (nI i) h1) (vS v) 0 (by omega) (fun f h1 hM1 hf1 => ?_) (fun i f _ hi ih h1 hM1 hf1 => ?_)
  · obtain ⟨f, hf⟩ := key
    exact ⟨f, hf h hM FrI.rf⟩
  · unfold f_X8_oneTick_L2
    have e1 := itA_1 v (vS v)
    refine ⟨fun _ => ?_, fun c => absurd (by rw [hM1.1.2.2.1, e1.2.1]; exact nI_le (Nat.le_refl _) (by omega)) c⟩
    intro h13 e13
    rw [hM1.1.1, e1.1, nI_1] at e13
    have hM2 : HM (setT (itA v (vS v)) (vT v + 1)) h13 := by rw [e13]; exact hm_setT hM1
    have hf2 : FrI cellsM h h13 := hf1.trans (by rw [e13]; exact FrI.si (by simp [cellsM]))
    have hF2 : WF m B (setT (itA v (vS v)) (vT v + 1)) := WF_setT (WF_itA hF _ (Nat.le_refl _)) (by omega)
    generalize hu : setT (itA v (vS v)) (vT v + 1) = u at *
    have huT : vT u = vT v + 1 := by rw [← hu]; rfl
    have huL : vL u = vL v := by rw [← hu]; exact e1.2.2.1
    have huS : vS u = vS v := by rw [← hu]; exact e1.2.1
    have key2 := loop_up (L := fun f i => ∀ h3, HM (itB u i) h3 → FrI cellsM h h3 → f_X8_oneTick_L72 Q f (nI i) h3) (vL u) 0 (by omega) (fun f h3 hM3 hf3 => ?_) (fun i f _ hi ih h3 hM3 hf3 => ?_)
    · obtain ⟨f, hf⟩ := key2
      exact ⟨f, hf h13 hM2 hf2⟩
    · unfold f_X8_oneTick_L72
      have b1 := itB_1 u (vL u)
      refine ⟨fun _ => hQ h3 ?_ hf3, fun c => absurd (by rw [hM3.1.2.2.2, b1.2.2.1]; exact nI_le (Nat.le_refl _) (by omega)) c⟩
      have : tickV v = itB u (vL u) := by unfold tickV; rw [hu, huL]
      rw [this]
      exact hM3
    · unfold f_X8_oneTick_L72
      have b1 := itB_1 u i
      have hFi := WF_itB hF2 i (by omega)
      have hil : i < vL (itB u i) := by rw [b1.2.2.1]; exact hi
      have hto := (hFi.2.2.1 i hil).2.2.1
      have hS6 : vS (itB u i) ≤ 6 := hFi.1.2.1
      have hL10 : vL (itB u i) ≤ 10 := hFi.1.2.2
      have hp : vT (itB u i) % 16 < 16 := by omega
      have hT : vT (itB u i) < 2 ^ 31 := by rw [b1.1, huT]; omega
      refine ⟨fun c => absurd (by rw [hM3.1.2.2.2, b1.2.2.1] at c; exact (nI_leI (by omega) (by omega)).mp c) (by omega), fun _ => ⟨vp_in_nI (by omega) (by decide), ?_⟩⟩
      rw [ix_nI (by omega)]
      intro h16 e16 x2 ex2
      have hM4 : HM (setL (itB u i) i 8 0) h16 := by rw [e16]; exact hm_setSent hM3
      have hf4 : FrI cellsM h h16 := hf3.trans (by rw [e16]; exact FrI.si (by simp [cellsM]))
      have ex3 : x2 = nI (16 * i + vT (itB u i) % 16) := by
        rw [ex2, hM4.1.1, lit 16]
        show nI 16 * nI i + (nI (vT (itB u i)) - nI (vT (itB u i)) / nI 16 * nI 16) = _
        rw [nI_rem hT (by omega) (by omega), nI_mul, nI_add]
      have hF4 : HM (setL (itB u i) i 8 0) h16 := hM4
      rw [lit 2, at_eq (by omega) (by omega), hM4.2.2.1 i hil 2 (by omega), vl_setL, if_neg (by omega), ex3, ix_nI (by omega), ix_nI (by omega)]
      refine ⟨vp_in_nI (by omega) (by decide), vp_in_nI (by omega) (by decide), vp_in_nI (by omega) (by decide), ?_⟩
      intro h23 e23
      rw [(hM4.2.1 _ hto).2.1, hM4.2.2.2.2.1 i hil _ hp, nI_add] at e23
      have hM5 : HM (setS (setL (itB u i) i 8 0) (vl (itB u i) i 2) 1 (vs (itB u i) (vl (itB u i) i 2) 1 + vy (itB u i) i (vT (itB u i) % 16))) h23 := by
        rw [e23]
        exact hm_setS hM4 (k := 1) (by omega)
      have hf5 : FrI cellsM h h23 := hf4.trans (by rw [e23]; exact FrI.si (by simp [cellsM]))
      refine ⟨vp_in_nI (by omega) (by decide), ?_⟩
      intro h25 e25 x1 ex1
      rw [ex1, nI_1]
      refine ih h25 ?_ (hf5.trans (by rw [e25]; exact FrI.si (by simp [cellsM])))
      show HM (stepB (itB u i) i) h25
      unfold stepB
      rw [e25]
      exact hm_setY hM5 hil hp (x := 0)
  · unfold f_X8_oneTick_L2
    have e1 := itA_1 v i
    have hFi := WF_itA hF i (by omega)
    have his : i < vS (itA v i) := by rw [e1.2.1]; exact hi
    have hst := hFi.stock his
    refine ⟨fun c => absurd (by rw [hM1.1.2.2.1, e1.2.1] at c; exact (nI_leI (by omega) (by omega)).mp c) (by omega), fun _ => ?_⟩
    rw [hM1.1.1]
    have hTi : vT (itA v i) < 1000000 := by omega
    refine m_holds hFi hM1 his hTi ?_
    have hho : holdsS (itA v i) i (vT (itA v i)) ≤ 99999 := holdsV_le (hFi.2.1 i his).2
    rw [ix_nI (by omega), (hM1.2.1 i his).2.1]
    generalize hh : holdsS (itA v i) i (vT (itA v i)) = ho at *
    generalize hk : vs (itA v i) i 1 = so at *
    refine ⟨vp_in_nI (by omega) (by decide), fun c => ?_, fun c => ?_⟩
    · have c' : so ≤ ho := (nI_leI (by omega) (by omega)).mp c
      intro x3 ex3
      rw [ex3, nI_1]
      refine ih h1 ?_ hf1
      show HM (stepA (itA v i) i) h1
      unfold stepA
      rw [hh, hk, if_neg (by omega)]
      exact hM1
    · have c' : ho < so := by
        apply Decidable.byContradiction
        intro q
        exact c (nI_le (by omega) (by omega))
      refine ⟨vp_in_nI (by omega) (by decide), ?_⟩
      intro h8 e8
      rw [hM1.1.2.1, nI_sub (by omega), nI_add] at e8
      have hM2 : HM (setLo (itA v i) (vLo (itA v i) + (so - ho))) h8 := by rw [e8]; exact hm_setLo hM1
      have hf2 : FrI cellsM h h8 := hf1.trans (by rw [e8]; exact FrI.si (by simp [cellsM]))
      refine ⟨vp_in_nI (by omega) (by decide), ?_⟩
      intro h10 e10 x4 ex4
      rw [ex4, nI_1]
      refine ih h10 ?_ (hf2.trans (by rw [e10]; exact FrI.si (by simp [cellsM])))
      show HM (stepA (itA v i) i) h10
      unfold stepA
      rw [hh, hk, if_pos c', e10]
      exact hm_setS hM2 (k := 1) (by omega)
