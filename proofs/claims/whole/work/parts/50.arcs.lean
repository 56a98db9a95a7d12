/-! the class's network: arcs in pairs -/
def xr (e : Nat) : Nat := if e % 2 = 0 then e + 1 else e - 1
theorem xr_xr (e : Nat) : xr (xr e) = e := by unfold xr; split <;> split <;> omega
theorem xr_lt {e A : Nat} (h : e < 2 * A) : xr e < 2 * A := by unfold xr; split <;> omega
theorem xr_ne (e : Nat) : xr e ≠ e := by unfold xr; split <;> omega
theorem xr_div (e : Nat) : xr e / 2 = e / 2 := by unfold xr; split <;> omega
theorem nI_xor {e : Nat} (h : e < 1068) : nI e ^^^ 1 = nI (xr e) := by
  have : ∀ e, e < 1068 → nI e ^^^ 1 = nI (xr e) := by decide +kernel
  exact this e h
/-- the greatest e below m whose tail is w, and one more; 0: none -/
def pv (t : Nat → Nat) (w : Nat) : Nat → Nat
  | 0 => 0
  | m + 1 => if t m = w then m + 1 else pv t w m
theorem pv_le (t : Nat → Nat) (w : Nat) : ∀ m, pv t w m ≤ m
  | 0 => Nat.le_refl _
  | m + 1 => by
    unfold pv
    split
    · exact Nat.le_refl _
    · exact Nat.le_trans (pv_le t w m) (by omega)
theorem pv_some {t : Nat → Nat} {w e : Nat} : ∀ {m}, pv t w m = e + 1 → e < m ∧ t e = w ∧ ∀ e', e < e' → e' < m → t e' ≠ w
  | 0, h => by simp [pv] at h
  | m + 1, h => by
    unfold pv at h
    split at h
    · rename_i q
      have : m = e := by omega
      subst this
      exact ⟨by omega, q, fun e' h1 h2 => by omega⟩
    · rename_i q
      have := pv_some h
      refine ⟨by omega, this.2.1, fun e' h1 h2 => ?_⟩
      by_cases z : e' = m
      · rw [z]; exact q
      · exact this.2.2 e' h1 (by omega)
theorem pv_none {t : Nat → Nat} {w : Nat} : ∀ {m}, pv t w m = 0 → ∀ e', e' < m → t e' ≠ w
  | 0, _, e', h2 => by omega
  | m + 1, h, e', h2 => by
    unfold pv at h
    split at h
    · omega
    · rename_i q
      by_cases z : e' = m
      · rw [z]; exact q
      · exact pv_none h e' (by omega)
theorem pv_congr {t t' : Nat → Nat} {w : Nat} : ∀ {m}, (∀ e, e < m → t e = t' e) → pv t w m = pv t' w m
  | 0, _ => rfl
  | m + 1, h => by
    unfold pv
    rw [h m (by omega), pv_congr (fun e he => h e (by omega))]
def cd (k : Nat) : Int32 := nI k - 1
theorem cd_0 : cd 0 = -1 := by decide +kernel
theorem cd_s (e : Nat) : cd (e + 1) = nI e := by
  show nI (e + 1) - nI 1 = nI e
  rw [nI_sub (by omega), Nat.add_sub_cancel]
theorem cd_neg {A B : Prop} {k : Nat} (hk : k < 2 ^ 31) (h1 : k = 0 → A) (h2 : ∀ e, k = e + 1 → B) : (cd k < 0 → A) ∧ (¬ cd k < 0 → B) := by
  cases k with
  | zero => exact ⟨fun _ => h1 rfl, fun z => absurd (by decide +kernel) z⟩
  | succ e =>
    refine ⟨fun z => ?_, fun _ => h2 e rfl⟩
    rw [cd_s, i32_lt, nI_toInt (by omega), i32_0] at z
    omega
/-- a arcs: tails t, heads en, what is left lf -/
def AR (a : Nat) (t en lf : Nat → Nat) (h : HP) : Prop :=
  (a ≤ 1068 ∧ gi h 88 6 = nI a) ∧ (∀ e, e < a → t e < 152 ∧ en e < 152 ∧ gi h 91 e = nI (en e) ∧ gi h 92 e = nI (lf e) ∧ gi h 90 e = cd (pv t (t e) e)) ∧ ∀ w, w < 152 → gi h 89 w = cd (pv t w a)
theorem AR.frame {P : Nat → Nat → Prop} {a : Nat} {t en lf : Nat → Nat} {h h' : HP} (hA : AR a t en lf h) (hf : FrI P h h') (hd : ∀ x k, (x = 88 ∧ k = 6) ∨ (89 ≤ x ∧ x ≤ 92) → ¬ P x k) : AR a t en lf h' := by
  obtain ⟨⟨a1, a2⟩, b, c⟩ := hA
  refine ⟨⟨a1, by rw [hf.1 _ _ (hd _ _ (by omega))]; exact a2⟩, fun e he => ⟨(b e he).1, (b e he).2.1, ?_, ?_, ?_⟩, fun w hw => ?_⟩
  · rw [hf.1 _ _ (hd _ _ (by omega))]; exact (b e he).2.2.1
  · rw [hf.1 _ _ (hd _ _ (by omega))]; exact (b e he).2.2.2.1
  · rw [hf.1 _ _ (hd _ _ (by omega))]; exact (b e he).2.2.2.2
  · rw [hf.1 _ _ (hd _ _ (by omega))]; exact c w hw
abbrev cellsA : Nat → Nat → Prop := fun a k => (a = 88 ∧ k = 6) ∨ (89 ≤ a ∧ a ≤ 93)
theorem c_putArc {a : Nat} {t en lf : Nat → Nat} {h : HP} {Q : HP → Prop} {x y r : Nat} (hA : AR a t en lf h) (ha : a < 1068) (hx : x < 152) (hy : y < 152) (hQ : ∀ h', AR (a + 1) (upN t a x) (upN en a y) (upN lf a r) h' → FrI (fun b k => (b = 88 ∧ k = 6) ∨ (89 ≤ b ∧ b ≤ 92)) h h' → Q h') : f_X1_putArc (nI x) (nI y) (nI r) h Q := by
  obtain ⟨⟨a1, a2⟩, b, c⟩ := hA
  unfold f_X1_putArc
  rw [a2, ix_nI (by omega), ix_nI (by omega)]
  refine ⟨vp_in_nI ha (by decide), ?_⟩
  intro h2 e2
  have g2 : gi h2 88 6 = nI a := by rw [e2, gi_si, if_neg (by omega)]; exact a2
  rw [g2, ix_nI (by omega)]
  refine ⟨vp_in_nI ha (by decide), ?_⟩
  intro h4 e4
  have g4 : gi h4 88 6 = nI a := by rw [e4, gi_si, if_neg (by omega)]; exact g2
  rw [g4, ix_nI (by omega)]
  refine ⟨vp_in_nI hx (by decide), vp_in_nI ha (by decide), ?_⟩
  intro h7 e7
  have g7 : gi h7 88 6 = nI a := by rw [e7, gi_si, if_neg (by omega)]; exact g4
  rw [g7]
  refine ⟨vp_in_nI hx (by decide), ?_⟩
  intro h9 e9 h10 e10
  have g9 : gi h9 88 6 = nI a := by rw [e9, gi_si, if_neg (by omega)]; exact g7
  rw [g9, nI_1] at e10
  have k4 : gi h4 89 x = cd (pv t x a) := by rw [e4, gi_si, if_neg (by omega), e2, gi_si, if_neg (by omega)]; exact c x hx
  rw [k4] at e7
  have up : ∀ b k, gi h10 b k = if b = 88 ∧ k = 6 then nI (a + 1) else if b = 89 ∧ k = x then nI a else if b = 90 ∧ k = a then cd (pv t x a) else if b = 92 ∧ k = a then nI r else if b = 91 ∧ k = a then nI y else gi h b k := by
    intro b k
    rw [e10, gi_si, e9, gi_si, e7, gi_si, e4, gi_si, e2, gi_si]
  have pvu : ∀ w m, m ≤ a → pv (upN t a x) w m = pv t w m := fun w m hm => pv_congr (fun e he => upN_ne (by omega))
  refine hQ h10 ⟨⟨by omega, by rw [up, if_pos ⟨rfl, rfl⟩]⟩, fun e he => ?_, fun w hw => ?_⟩ ?_
  · by_cases q : e = a
    · subst q
      rw [upN_eq, upN_eq, upN_eq, pvu _ _ (Nat.le_refl _)]
      refine ⟨hx, hy, ?_, ?_, ?_⟩
      · rw [up, if_neg (by omega), if_neg (by omega), if_neg (by omega), if_neg (by omega), if_pos ⟨rfl, rfl⟩]
      · rw [up, if_neg (by omega), if_neg (by omega), if_neg (by omega), if_pos ⟨rfl, rfl⟩]
      · rw [up, if_neg (by omega), if_neg (by omega), if_pos ⟨rfl, rfl⟩]
    · rw [upN_ne q, upN_ne q, upN_ne q, pvu _ _ (by omega)]
      have z := b e (by omega)
      refine ⟨z.1, z.2.1, ?_, ?_, ?_⟩
      · rw [up, if_neg (by omega), if_neg (by omega), if_neg (by omega), if_neg (by omega), if_neg (by omega)]; exact z.2.2.1
      · rw [up, if_neg (by omega), if_neg (by omega), if_neg (by omega), if_neg (by omega), if_neg (by omega)]; exact z.2.2.2.1
      · rw [up, if_neg (by omega), if_neg (by omega), if_neg (by omega), if_neg (by omega), if_neg (by omega)]; exact z.2.2.2.2
  · rw [up, if_neg (by omega)]
    show _ = cd (if upN t a x a = w then a + 1 else pv (upN t a x) w a)
    rw [upN_eq, pvu _ _ (Nat.le_refl _)]
    by_cases q : w = x
    · rw [if_pos ⟨rfl, q⟩, if_pos q.symm, cd_s]
    · rw [if_neg (fun z => q z.2), if_neg (by omega), if_neg (by omega), if_neg (by omega), if_neg (fun z => q z.symm)]; exact c w hw
  · refine ⟨fun b k hb => ?_, fun b k => ?_, fun j => ?_⟩
    · rw [up, if_neg (by omega), if_neg (by omega), if_neg (by omega), if_neg (by omega), if_neg (by omega)]
    · rw [e10, e9, e7, e4, e2]; rfl
    · rw [e10, e9, e7, e4, e2]; rfl
theorem c_addArc {A : Nat} {t en lf : Nat → Nat} {h : HP} {Q : HP → Prop} {x y r : Nat} {ow : Int32} (hA : AR (2 * A) t en lf h) (hr : r < 2 ^ 31) (ha : A < 534) (hx : x < 152) (hy : y < 152) (h0 : r = 0 → Q h) (hQ : 0 < r → ∀ h', AR (2 * (A + 1)) (upN (upN t (2 * A) x) (2 * A + 1) y) (upN (upN en (2 * A) y) (2 * A + 1) x) (upN (upN lf (2 * A) r) (2 * A + 1) 0) h' → (∀ j, j < 534 → gi h' 93 j = if j = A then ow else gi h 93 j) → FrI cellsA h h' → Q h') : f_X1_addArc (nI x) (nI y) (nI r) ow h Q := by
  unfold f_X1_addArc
  refine br_le (b := 0) (by omega) (by omega) (fun z => h0 (by omega)) (fun z => ?_)
  have a2 := hA.1.2
  rw [a2, lit 2, nI_add, nI_div (by omega) (by omega) (by omega), show 2 * A / 2 = A by omega, ix_nI (by omega)]
  refine br_le (b := 1068) (by omega) (by omega) (fun _ => ⟨vp_in_nI ha (by decide), ?_⟩) (fun z => by omega)
  intro h4 e4
  have f4 : FrI (fun a _ => a = 93) h h4 := by rw [e4]; exact FrI.si rfl
  refine c_putArc (hA.frame f4 (by intro a k; omega)) (by omega) hx hy (fun h5 A5 f5 => ?_)
  refine c_putArc (r := 0) A5 (by omega) hy hx (fun h6 A6 f6 => ?_)
  refine hQ z h6 A6 (fun j hj => ?_) (((f4.mono ?_).trans (f5.mono ?_)).trans (f6.mono ?_))
  · rw [f6.1 _ _ (by omega), f5.1 _ _ (by omega), e4, gi_si]
    by_cases q : j = A
    · rw [if_pos ⟨rfl, q⟩, if_pos q]
    · rw [if_neg (fun z => q z.2), if_neg q]
  · intro a k; simp only [cellsA]; omega
  · intro a k; simp only [cellsA]; omega
  · intro a k; simp only [cellsA]; omega
