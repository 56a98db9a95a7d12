/-! the whole state: world, kept world (with 1 while there is one), findings, tape, sheets (bits, size, numbers) -/
abbrev ST : Type := WV × (Nat × WV) × (Nat → Nat) × (Nat × (Nat → Int32)) × (Nat → Nat × Nat × (Nat → Int64))
def sV (σ : ST) : WV := σ.1
def sK (σ : ST) : Nat := σ.2.1.1
def sKv (σ : ST) : WV := σ.2.1.2
def sF (σ : ST) : Nat → Nat := σ.2.2.1
def sTn (σ : ST) : Nat := σ.2.2.2.1.1
def sTb (σ : ST) : Nat → Int32 := σ.2.2.2.1.2
def sB (σ : ST) (s : Nat) : Nat := (σ.2.2.2.2 s).1
def sZ (σ : ST) (s : Nat) : Nat := (σ.2.2.2.2 s).2.1
def sN (σ : ST) (s : Nat) : Nat → Int64 := (σ.2.2.2.2 s).2.2
/-- the class shows σ -/
def CI (σ : ST) (h : HP) : Prop :=
  HC 1 (sV σ) h ∧ (gi h 0 8 = nI (sK σ) ∧ (sK σ = 1 → HC 30 (sKv σ) h)) ∧ (∀ k, k < 8 → gi h 108 k = nI (sF σ k)) ∧
  (gi h 105 1 = nI (sTn σ) ∧ ∀ i, i < sTn σ → gi h 106 i = sTb σ i) ∧
  (∀ s, s < 4 → gi h (109 + 2 * s) 1 = nI (sB σ s) ∧ gi h (109 + 2 * s) 2 = nI (sZ σ s) ∧ ∀ i, i < 40 → gl h (110 + 2 * s) i = sN σ s i)
/-- the reference shows σ -/
def MI (σ : ST) (h : HP) : Prop :=
  HM (sV σ) h ∧ (gi h 117 39 = nI (sK σ) ∧ (sK σ = 1 → HK 144 (sKv σ) h)) ∧ (∀ k, k < 8 → gi h 118 k = nI (sF σ k)) ∧
  (gi h 117 26 = nI (sTn σ) ∧ ∀ i, i < sTn σ → gi h 138 i = sTb σ i) ∧
  (∀ s, s < 4 → gi h 140 s = nI (sB σ s) ∧ gi h 141 s = nI (sZ σ s) ∧ ∀ i, i < 40 → gl h 142 (40 * s + i) = sN σ s i)
/-- within bounds, c calls done -/
def WS (c : Nat) (σ : ST) : Prop :=
  c ≤ 512 ∧ (WF 99 (7000 * c) (sV σ) ∧ vT (sV σ) ≤ 99999) ∧ (sK σ ≤ 1 ∧ (sK σ = 1 → WF 99 (7000 * c) (sKv σ) ∧ vT (sKv σ) ≤ 99999)) ∧ (∀ k, k < 8 → sF σ k ≤ c) ∧
  (sTn σ ≤ 120 ∧ ∀ i, i < sTn σ → 0 ≤ (sTb σ i).toInt ∧ (sTb σ i).toInt < 256) ∧
  (∀ s, s < 4 → (sB σ s = 0 ∨ sB σ s = 16 ∨ sB σ s = 32 ∨ sB σ s = 64) ∧ sZ σ s ≤ 40 ∧ (sB σ s = 0 → sZ σ s = 0))
/-- only cells of the class have changed -/
def LoF (h h' : HP) : Prop := (∀ a k, 117 ≤ a → gi h' a k = gi h a k) ∧ ∀ a k, 117 ≤ a → gl h' a k = gl h a k
/-- only cells of the reference have changed -/
def HiF (h h' : HP) : Prop := (∀ a k, a < 117 ∨ a = 139 → gi h' a k = gi h a k) ∧ (∀ a k, a < 117 → gl h' a k = gl h a k) ∧ ∀ j, gw h' j = gw h j
theorem LoF.rf {h : HP} : LoF h h := ⟨fun _ _ _ => rfl, fun _ _ _ => rfl⟩
theorem HiF.rf {h : HP} : HiF h h := ⟨fun _ _ _ => rfl, fun _ _ _ => rfl, fun _ => rfl⟩
theorem LoF.trans {h h1 h2 : HP} (a : LoF h h1) (b : LoF h1 h2) : LoF h h2 := ⟨fun x k n => (b.1 x k n).trans (a.1 x k n), fun x k n => (b.2 x k n).trans (a.2 x k n)⟩
theorem HiF.trans {h h1 h2 : HP} (a : HiF h h1) (b : HiF h1 h2) : HiF h h2 := ⟨fun x k n => (b.1 x k n).trans (a.1 x k n), fun x k n => (b.2.1 x k n).trans (a.2.1 x k n), fun j => (b.2.2 j).trans (a.2.2 j)⟩
theorem FrI.lo {P : Nat → Nat → Prop} {h h' : HP} (f : FrI P h h') (hP : ∀ a k, P a k → a < 117) : LoF h h' := ⟨fun a k n => f.1 a k (fun q => by have := hP a k q; omega), fun a k _ => f.2.1 a k⟩
theorem FrI.hi {P : Nat → Nat → Prop} {h h' : HP} (f : FrI P h h') (hP : ∀ a k, P a k → 117 ≤ a ∧ a ≠ 139) : HiF h h' := ⟨fun a k n => f.1 a k (fun q => by have := hP a k q; omega), fun a k _ => f.2.1 a k, f.2.2⟩
theorem LoF.si {h : HP} {a k : Nat} {x : Int32} (ha : a < 117) : LoF h (si h a k x) := (FrI.si (P := fun b _ => b = a) rfl).lo (fun b _ q => by omega)
theorem HiF.si {h : HP} {a k : Nat} {x : Int32} (ha : 117 ≤ a ∧ a ≠ 139) : HiF h (si h a k x) := (FrI.si (P := fun b _ => b = a) rfl).hi (fun b _ q => by omega)
theorem HiF.fr {h h' : HP} (f : HiF h h') : (∀ w, w + 29 ≤ 117 → ∀ v, vS v ≤ 6 → vL v ≤ 10 → HC w v h → HC w v h') := by
  intro w hw v hS hL hC
  obtain ⟨⟨a1, a2, a3, a4⟩, b, c, d⟩ := hC
  refine ⟨⟨?_, ?_, ?_, ?_⟩, fun s hs k hk => ?_, fun l hl k hk => ?_, fun l hl k hk => ?_⟩
  · rw [f.1 _ _ (by omega)]; exact a1
  · rw [f.1 _ _ (by omega)]; exact a2
  · rw [f.1 _ _ (by omega)]; exact a3
  · rw [f.1 _ _ (by omega)]; exact a4
  · rw [f.1 _ _ (by omega)]; exact b s hs k hk
  · rw [f.1 _ _ (by omega)]; exact c l hl k hk
  · rw [f.1 _ _ (by omega)]; exact d l hl k hk
theorem CI.hi {c : Nat} {σ : ST} {h h' : HP} (hI : CI σ h) (hW : WS c σ) (f : HiF h h') : CI σ h' := by
  obtain ⟨a, ⟨b1, b2⟩, c', ⟨d1, d2⟩, e⟩ := hI
  obtain ⟨_, w1, w2, w3, w4, w5⟩ := hW
  refine ⟨f.fr 1 (by omega) _ w1.1.1.2.1 w1.1.1.2.2 a, ⟨by rw [f.1 _ _ (by omega)]; exact b1, fun k1 => f.fr 30 (by omega) _ (w2.2 k1).1.1.2.1 (w2.2 k1).1.1.2.2 (b2 k1)⟩, fun k hk => by rw [f.1 _ _ (by omega)]; exact c' k hk, ⟨by rw [f.1 _ _ (by omega)]; exact d1, fun i hi => by rw [f.1 _ _ (by omega)]; exact d2 i hi⟩, fun s hs => ?_⟩
  rw [f.1 _ _ (by omega), f.1 _ _ (by omega)]
  exact ⟨(e s hs).1, (e s hs).2.1, fun i hi => by rw [f.2.1 _ _ (by omega)]; exact (e s hs).2.2 i hi⟩
theorem MI.lo {σ : ST} {h h' : HP} (hI : MI σ h) (f : LoF h h') : MI σ h' := by
  obtain ⟨⟨⟨a1, a2, a3, a4⟩, b, c, d, e, g⟩, ⟨b1, b2⟩, c', ⟨d1, d2⟩, e'⟩ := hI
  refine ⟨⟨⟨?_, ?_, ?_, ?_⟩, fun s hs => ⟨?_, ?_, ?_⟩, fun l hl k hk => ?_, fun l hl => ?_, fun l hl k hk => ?_, fun l h1 h2 k hk => ?_⟩, ⟨by rw [f.1 _ _ (by omega)]; exact b1, fun k1 => ?_⟩, fun k hk => by rw [f.1 _ _ (by omega)]; exact c' k hk, ⟨by rw [f.1 _ _ (by omega)]; exact d1, fun i hi => by rw [f.1 _ _ (by omega)]; exact d2 i hi⟩, fun s hs => ?_⟩
  · rw [f.1 _ _ (by omega)]; exact a1
  · rw [f.1 _ _ (by omega)]; exact a2
  · rw [f.1 _ _ (by omega)]; exact a3
  · rw [f.1 _ _ (by omega)]; exact a4
  · rw [f.1 _ _ (by omega)]; exact (b s hs).1
  · rw [f.1 _ _ (by omega)]; exact (b s hs).2.1
  · rw [f.1 _ _ (by omega)]; exact (b s hs).2.2
  · rw [f.1 _ _ (by omega)]; exact c l hl k hk
  · rw [f.1 _ _ (by omega)]; exact d l hl
  · rw [f.1 _ _ (by omega)]; exact e l hl k hk
  · rw [f.1 _ _ (by omega)]; exact g l h1 h2 k hk
  · obtain ⟨⟨x1, x2, x3, x4⟩, y, z, u, p, q⟩ := b2 k1
    refine ⟨⟨?_, ?_, ?_, ?_⟩, fun s hs => ⟨?_, ?_, ?_⟩, fun l hl k hk => ?_, fun l hl => ?_, fun l hl k hk => ?_, fun l h1 h2 k hk => ?_⟩
    · rw [f.1 _ _ (by omega)]; exact x1
    · rw [f.1 _ _ (by omega)]; exact x2
    · rw [f.1 _ _ (by omega)]; exact x3
    · rw [f.1 _ _ (by omega)]; exact x4
    · rw [f.1 _ _ (by omega)]; exact (y s hs).1
    · rw [f.1 _ _ (by omega)]; exact (y s hs).2.1
    · rw [f.1 _ _ (by omega)]; exact (y s hs).2.2
    · rw [f.1 _ _ (by omega)]; exact z l hl k hk
    · rw [f.1 _ _ (by omega)]; exact u l hl
    · rw [f.1 _ _ (by omega)]; exact p l hl k hk
    · rw [f.1 _ _ (by omega)]; exact q l h1 h2 k hk
  · rw [f.1 _ _ (by omega), f.1 _ _ (by omega)]
    exact ⟨(e' s hs).1, (e' s hs).2.1, fun i hi => by rw [f.2 _ _ (by omega)]; exact (e' s hs).2.2 i hi⟩
