/-! the first operations, in halves: what the class does, what the reference does -/
def uV (σ : ST) (v : WV) : ST := (v, σ.2)
def uF (σ : ST) (k : Nat) : ST := (σ.1, σ.2.1, fun j => if j = k then sF σ j + 1 else sF σ j, σ.2.2.2)
def uK (σ : ST) (f : Nat) (v : WV) : ST := (σ.1, (f, v), σ.2.2)
def uT (σ : ST) (n : Nat) (b : Nat → Int32) : ST := (σ.1, σ.2.1, σ.2.2.1, (n, b), σ.2.2.2.2)
theorem WF_up {m B B' : Nat} {v : WV} (h : WF m B v) (h1 : B ≤ B') (h2 : B' ≤ 4000000) : WF m B' v := ⟨h.1, h.2.1, h.2.2.1, Nat.le_trans h.2.2.2.1 h1, h.2.2.2.2.1, h2⟩
theorem WS.up {c c' : Nat} {σ : ST} (h : WS c σ) (h1 : c ≤ c') (h2 : c' ≤ 512) : WS c' σ :=
  ⟨h2, ⟨WF_up h.2.1.1 (by omega) (by omega), h.2.1.2⟩, ⟨h.2.2.1.1, fun k => ⟨WF_up (h.2.2.1.2 k).1 (by omega) (by omega), (h.2.2.1.2 k).2⟩⟩, fun k hk => Nat.le_trans (h.2.2.2.1 k hk) h1, h.2.2.2.2⟩
theorem WS_F {c k : Nat} {σ : ST} (h : WS c σ) (h2 : c < 512) : WS (c + 1) (uF σ k) := by
  have h' := h.up (Nat.le_succ c) h2
  refine ⟨h'.1, h'.2.1, h'.2.2.1, fun j hj => ?_, h'.2.2.2.2⟩
  have := h.2.2.2.1 j hj
  show (if j = k then sF σ j + 1 else sF σ j) ≤ c + 1
  split <;> omega
theorem WS_V {c : Nat} {σ : ST} {v : WV} (h : WS c σ) (h2 : c < 512) (hv : WF 99 (7000 * (c + 1)) v) (ht : vT v ≤ 99999) : WS (c + 1) (uV σ v) := by
  have h' := h.up (Nat.le_succ c) h2
  exact ⟨h'.1, ⟨hv, ht⟩, h'.2.2⟩
theorem WS_K1 {c : Nat} {σ : ST} (h : WS c σ) : WS c (uK σ 1 (sV σ)) := ⟨h.1, h.2.1, ⟨Nat.le_refl _, fun _ => h.2.1⟩, h.2.2.2⟩
theorem WS_K0 {c : Nat} {σ : ST} {v : WV} (h : WS c σ) : WS c (uK σ 0 v) := ⟨h.1, h.2.1, ⟨by show 0 ≤ 1; omega, fun q => absurd (show (0 : Nat) = 1 from q) (by decide)⟩, h.2.2.2⟩
theorem c_found {σ : ST} {h : HP} {k : Nat} (hk : k < 8) (hI : CI σ h) {Q : Int32 → HP → Prop} (hQ : ∀ h', CI (uF σ k) h' → LoF h h' → Q (fnd k) h') {x : Int32} (hx : x = fnd k) (hS : vS (sV σ) ≤ 6 ∧ vL (sV σ) ≤ 10 ∧ (sK σ = 1 → vS (sKv σ) ≤ 6 ∧ vL (sKv σ) ≤ 10)) : f_X7_found x h Q := by
  subst hx
  refine t_found hk (hQ _ ?_ (LoF.si (by omega)))
  have f : FrI (fun a _ => a = 108) h (si h 108 k (gi h 108 k + 1)) := FrI.si rfl
  obtain ⟨a, ⟨b1, b2⟩, c', ⟨d1, d2⟩, e⟩ := hI
  refine ⟨a.frame f (by intro a k h1 h2; omega) hS.1 hS.2.1, ⟨by rw [f.1 _ _ (by omega)]; exact b1, fun q => (b2 q).frame f (by intro a k h1 h2; omega) (hS.2.2 q).1 (hS.2.2 q).2⟩, fun j hj => ?_, ⟨by rw [f.1 _ _ (by omega)]; exact d1, fun i hi => by rw [f.1 _ _ (by omega)]; exact d2 i hi⟩, fun s hs => ?_⟩
  · rw [gi_si]
    show _ = nI (if j = k then sF σ j + 1 else sF σ j)
    by_cases q : j = k
    · rw [if_pos ⟨rfl, q⟩, if_pos q, q, c' k hk, nI_1]
    · rw [if_neg (fun z => q z.2), if_neg q]; exact c' j hj
  · rw [f.1 _ _ (by omega), f.1 _ _ (by omega)]
    exact ⟨(e s hs).1, (e s hs).2.1, fun i hi => by rw [f.2.1]; exact (e s hs).2.2 i hi⟩
theorem HK.frame {P : Nat → Nat → Prop} {a : Nat} {v : WV} {h h' : HP} (hK : HK a v h) (hf : FrI P h h') (hd : ∀ k, ¬ P a k) : HK a v h' := by
  obtain ⟨⟨x1, x2, x3, x4⟩, y, z, u, p, q⟩ := hK
  refine ⟨⟨?_, ?_, ?_, ?_⟩, fun s hs => ⟨?_, ?_, ?_⟩, fun l hl k hk => ?_, fun l hl => ?_, fun l hl k hk => ?_, fun l h1 h2 k hk => ?_⟩
  · rw [hf.1 _ _ (hd _)]; exact x1
  · rw [hf.1 _ _ (hd _)]; exact x2
  · rw [hf.1 _ _ (hd _)]; exact x3
  · rw [hf.1 _ _ (hd _)]; exact x4
  · rw [hf.1 _ _ (hd _)]; exact (y s hs).1
  · rw [hf.1 _ _ (hd _)]; exact (y s hs).2.1
  · rw [hf.1 _ _ (hd _)]; exact (y s hs).2.2
  · rw [hf.1 _ _ (hd _)]; exact z l hl k hk
  · rw [hf.1 _ _ (hd _)]; exact u l hl
  · rw [hf.1 _ _ (hd _)]; exact p l hl k hk
  · rw [hf.1 _ _ (hd _)]; exact q l h1 h2 k hk
theorem m_finds {σ : ST} {h : HP} {k : Nat} (hk : k < 8) (hI : MI σ h) {Q : Int32 → HP → Prop} (hQ : ∀ h', MI (uF σ k) h' → HiF h h' → Q (fnd k) h') {x : Int32} (hx : x = fnd k) : f_X8_finds x h Q := by
  subst hx
  refine t_finds hk (hQ _ ?_ (HiF.si (by omega)))
  have f : FrI (fun a _ => a = 118) h (si h 118 k (gi h 118 k + 1)) := FrI.si rfl
  obtain ⟨a, ⟨b1, b2⟩, c', ⟨d1, d2⟩, e⟩ := hI
  refine ⟨a.frame f (by intro a k h1 h2; simp only [cellsM] at h1; omega), ⟨by rw [f.1 _ _ (by omega)]; exact b1, fun q => (b2 q).frame f (by intro k h2; omega)⟩, fun j hj => ?_, ⟨by rw [f.1 _ _ (by omega)]; exact d1, fun i hi => by rw [f.1 _ _ (by omega)]; exact d2 i hi⟩, fun s hs => ?_⟩
  · rw [gi_si]
    show _ = nI (if j = k then sF σ j + 1 else sF σ j)
    by_cases q : j = k
    · rw [if_pos ⟨rfl, q⟩, if_pos q, q, c' k hk, nI_1]
    · rw [if_neg (fun z => q z.2), if_neg q]; exact c' j hj
  · rw [f.1 _ _ (by omega), f.1 _ _ (by omega)]
    exact ⟨(e s hs).1, (e s hs).2.1, fun i hi => by rw [f.2.1]; exact (e s hs).2.2 i hi⟩
theorem WS.small {c : Nat} {σ : ST} (h : WS c σ) : vS (sV σ) ≤ 6 ∧ vL (sV σ) ≤ 10 ∧ (sK σ = 1 → vS (sKv σ) ≤ 6 ∧ vL (sKv σ) ≤ 10) := ⟨h.2.1.1.1.2.1, h.2.1.1.1.2.2, fun q => ⟨(h.2.2.1.2 q).1.1.2.1, (h.2.2.1.2 q).1.1.2.2⟩⟩
/-- the class has a new world -/
theorem CI.world {c : Nat} {σ : ST} {v : WV} {h h' : HP} (hI : CI σ h) (hW : WS c σ) (hC : HC 1 v h') (f : FrI (cellsC 1) h h') : CI (uV σ v) h' := by
  obtain ⟨a, ⟨b1, b2⟩, c', ⟨d1, d2⟩, e⟩ := hI
  refine ⟨hC, ⟨by rw [f.1 _ _ (by omega)]; exact b1, fun q => (b2 q).frame f (by intro a k h1 h2; omega) (hW.small.2.2 q).1 (hW.small.2.2 q).2⟩, fun j hj => by rw [f.1 _ _ (by omega)]; exact c' j hj, ⟨by rw [f.1 _ _ (by omega)]; exact d1, fun i hi => by rw [f.1 _ _ (by omega)]; exact d2 i hi⟩, fun s hs => ?_⟩
  rw [f.1 _ _ (by omega), f.1 _ _ (by omega)]
  exact ⟨(e s hs).1, (e s hs).2.1, fun i hi => by rw [f.2.1]; exact (e s hs).2.2 i hi⟩
theorem MI.world {σ : ST} {v : WV} {h h' : HP} (hI : MI σ h) (hM : HM v h') (f : FrI cellsM h h') : MI (uV σ v) h' := by
  obtain ⟨a, ⟨b1, b2⟩, c', ⟨d1, d2⟩, e⟩ := hI
  refine ⟨hM, ⟨by rw [f.1 _ _ (by simp [cellsM])]; exact b1, fun q => (b2 q).frame f (by intro k; simp [cellsM])⟩, fun j hj => by rw [f.1 _ _ (by simp [cellsM])]; exact c' j hj, ⟨by rw [f.1 _ _ (by simp [cellsM])]; exact d1, fun i hi => by rw [f.1 _ _ (by simp [cellsM])]; exact d2 i hi⟩, fun s hs => ?_⟩
  rw [f.1 _ _ (by simp [cellsM]), f.1 _ _ (by simp [cellsM])]
  exact ⟨(e s hs).1, (e s hs).2.1, fun i hi => by rw [f.2.1]; exact (e s hs).2.2 i hi⟩
theorem c_image {c : Nat} {σ : ST} {h : HP} {Q : Int32 → HP → Prop} (hW : WS c σ) (hI : CI σ h) (hQ : ∀ h', CI (uK σ 1 (sV σ)) h' → LoF h h' → Q 1 h') : f_X7_image h Q := by
  unfold f_X7_image
  refine c_become hW.2.1.1 hI.1 (Or.inr (by omega)) (fun h1 hC f => ?_)
  intro h2 e2
  have f2 : FrI (fun a _ => a = 0) h1 h2 := by rw [e2]; exact FrI.si rfl
  have f3 : FrI (fun a k => a = 0 ∨ cellsC 30 a k) h h2 := (f.mono (fun _ _ q => Or.inr q)).trans (f2.mono (fun _ _ q => Or.inl q))
  obtain ⟨a, ⟨b1, b2⟩, c', ⟨d1, d2⟩, e⟩ := hI
  refine hQ h2 ⟨a.frame f3 (by intro a k h1 h2; simp only [cellsC]; omega) hW.small.1 hW.small.2.1, ⟨by rw [e2, gi_si, if_pos ⟨rfl, rfl⟩]; rfl, fun q => hC.frame f2 (by intro a k h1 h2; omega) hW.small.1 hW.small.2.1⟩, fun j hj => by rw [f3.1 _ _ (by simp only [cellsC]; omega)]; exact c' j hj, ⟨by rw [f3.1 _ _ (by simp only [cellsC]; omega)]; exact d1, fun i hi => by rw [f3.1 _ _ (by simp only [cellsC]; omega)]; exact d2 i hi⟩, fun s hs => ?_⟩ (f3.lo (by intro a k; simp only [cellsC]; omega))
  rw [f3.1 _ _ (by simp only [cellsC]; omega), f3.1 _ _ (by simp only [cellsC]; omega)]
  exact ⟨(e s hs).1, (e s hs).2.1, fun i hi => by rw [f3.2.1]; exact (e s hs).2.2 i hi⟩
theorem m_image {c : Nat} {σ : ST} {h : HP} {Q : Int32 → HP → Prop} (hW : WS c σ) (hI : MI σ h) (hQ : ∀ h', MI (uK σ 1 (sV σ)) h' → HiF h h' → Q 1 h') : f_X8_image h Q := by
  unfold f_X8_image
  refine m_keeps hW.2.1.1 hI.1 (Or.inl rfl) (fun h1 hK f => ?_)
  intro h2 e2
  have f2 : FrI (fun a k => a = 117 ∧ k = 39) h1 h2 := by rw [e2]; exact FrI.si ⟨rfl, rfl⟩
  have f3 : FrI (fun a k => (a = 117 ∧ k = 39) ∨ a = 144) h h2 := (f.mono (fun _ _ q => Or.inr q)).trans (f2.mono (fun _ _ q => Or.inl q))
  obtain ⟨a, ⟨b1, b2⟩, c', ⟨d1, d2⟩, e⟩ := hI
  refine hQ h2 ⟨a.frame f3 (by intro a k h1; simp only [cellsM] at h1; omega), ⟨by rw [e2, gi_si, if_pos ⟨rfl, rfl⟩]; rfl, fun q => hK.frame f2 (by intro k; omega)⟩, fun j hj => by rw [f3.1 _ _ (by omega)]; exact c' j hj, ⟨by rw [f3.1 _ _ (by omega)]; exact d1, fun i hi => by rw [f3.1 _ _ (by omega)]; exact d2 i hi⟩, fun s hs => ?_⟩ (f3.hi (by intro a k; omega))
  rw [f3.1 _ _ (by omega), f3.1 _ _ (by omega)]
  exact ⟨(e s hs).1, (e s hs).2.1, fun i hi => by rw [f3.2.1]; exact (e s hs).2.2 i hi⟩
