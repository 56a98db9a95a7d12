/-! changing a world -/
def setS (v : WV) (s k x : Nat) : WV := (v.1, fun s' k' => if s' = s ∧ k' = k then x else v.2.1 s' k', v.2.2)
def setL (v : WV) (l k x : Nat) : WV := (v.1, v.2.1, fun l' k' => if l' = l ∧ k' = k then x else v.2.2.1 l' k', v.2.2.2)
def setY (v : WV) (l k x : Nat) : WV := (v.1, v.2.1, v.2.2.1, fun l' k' => if l' = l ∧ k' = k then x else v.2.2.2 l' k')
def setT (v : WV) (x : Nat) : WV := ((x, v.1.2), v.2)
def setLo (v : WV) (x : Nat) : WV := ((v.1.1, x, v.1.2.2), v.2)
def setNs (v : WV) (x : Nat) : WV := ((v.1.1, v.1.2.1, x, v.1.2.2.2), v.2)
def setNl (v : WV) (x : Nat) : WV := ((v.1.1, v.1.2.1, v.1.2.2.1, x), v.2)
theorem vs_setS {v : WV} {s k x s' k' : Nat} : vs (setS v s k x) s' k' = if s' = s ∧ k' = k then x else vs v s' k' := rfl
theorem vl_setL {v : WV} {s k x s' k' : Nat} : vl (setL v s k x) s' k' = if s' = s ∧ k' = k then x else vl v s' k' := rfl
theorem vy_setY {v : WV} {s k x s' k' : Nat} : vy (setY v s k x) s' k' = if s' = s ∧ k' = k then x else vy v s' k' := rfl
/-- nothing has changed but at the places of P -/
def FrI (P : Nat → Nat → Prop) (h h' : HP) : Prop := (∀ a k, ¬ P a k → gi h' a k = gi h a k) ∧ (∀ a k, gl h' a k = gl h a k) ∧ ∀ j, gw h' j = gw h j
theorem FrI.rf {P : Nat → Nat → Prop} {h : HP} : FrI P h h := ⟨fun _ _ _ => rfl, fun _ _ => rfl, fun _ => rfl⟩
theorem FrI.trans {P : Nat → Nat → Prop} {h h1 h2 : HP} (a : FrI P h h1) (b : FrI P h1 h2) : FrI P h h2 := ⟨fun x k n => (b.1 x k n).trans (a.1 x k n), fun x k => (b.2.1 x k).trans (a.2.1 x k), fun j => (b.2.2 j).trans (a.2.2 j)⟩
theorem FrI.mono {P P' : Nat → Nat → Prop} {h h' : HP} (a : FrI P h h') (hp : ∀ x k, P x k → P' x k) : FrI P' h h' := ⟨fun x k n => a.1 x k (fun q => n (hp x k q)), a.2⟩
theorem FrI.si {P : Nat → Nat → Prop} {h : HP} {a k : Nat} {x : Int32} (hp : P a k) : FrI P h (si h a k x) := ⟨fun y j n => by rw [gi_si, if_neg (fun q => n (by rw [q.1, q.2]; exact hp))], fun _ _ => rfl, fun _ => rfl⟩
/-- the cells of a world of the class -/
abbrev cellsC (w : Nat) : Nat → Nat → Prop := fun a _ => w ≤ a ∧ a < w + 29
/-- the reference's world -/
abbrev cellsM : Nat → Nat → Prop := fun a k => (a = 117 ∧ (k = 1 ∨ k = 2 ∨ k = 3 ∨ k = 7)) ∨ (119 ≤ a ∧ a ≤ 124)
theorem HC.frame {P : Nat → Nat → Prop} {w : Nat} {v : WV} {h h' : HP} (hC : HC w v h) (hf : FrI P h h') (hd : ∀ a k, w ≤ a → a < w + 29 → ¬ P a k) (hS : vS v ≤ 6) (hL : vL v ≤ 10) : HC w v h' := by
  obtain ⟨⟨a1, a2, a3, a4⟩, b, c, d⟩ := hC
  refine ⟨⟨?_, ?_, ?_, ?_⟩, fun s hs k hk => ?_, fun l hl k hk => ?_, fun l hl k hk => ?_⟩
  · rw [hf.1 _ _ (hd _ _ (by omega) (by omega))]; exact a1
  · rw [hf.1 _ _ (hd _ _ (by omega) (by omega))]; exact a2
  · rw [hf.1 _ _ (hd _ _ (by omega) (by omega))]; exact a3
  · rw [hf.1 _ _ (hd _ _ (by omega) (by omega))]; exact a4
  · rw [hf.1 _ _ (hd _ _ (by omega) (by omega))]; exact b s hs k hk
  · rw [hf.1 _ _ (hd _ _ (by omega) (by omega))]; exact c l hl k hk
  · rw [hf.1 _ _ (hd _ _ (by omega) (by omega))]; exact d l hl k hk
theorem HM.frame {P : Nat → Nat → Prop} {v : WV} {h h' : HP} (hM : HM v h) (hf : FrI P h h') (hd : ∀ a k, cellsM a k → ¬ P a k) : HM v h' := by
  obtain ⟨⟨a1, a2, a3, a4⟩, b, c, d, e, f⟩ := hM
  refine ⟨⟨?_, ?_, ?_, ?_⟩, fun s hs => ⟨?_, ?_, ?_⟩, fun l hl k hk => ?_, fun l hl => ?_, fun l hl k hk => ?_, fun l h1 h2 k hk => ?_⟩
  · rw [hf.1 _ _ (hd _ _ (by simp [cellsM]))]; exact a1
  · rw [hf.1 _ _ (hd _ _ (by simp [cellsM]))]; exact a2
  · rw [hf.1 _ _ (hd _ _ (by simp [cellsM]))]; exact a3
  · rw [hf.1 _ _ (hd _ _ (by simp [cellsM]))]; exact a4
  · rw [hf.1 _ _ (hd _ _ (by simp [cellsM]))]; exact (b s hs).1
  · rw [hf.1 _ _ (hd _ _ (by simp [cellsM]))]; exact (b s hs).2.1
  · rw [hf.1 _ _ (hd _ _ (by simp [cellsM]))]; exact (b s hs).2.2
  · rw [hf.1 _ _ (hd _ _ (by simp [cellsM]))]; exact c l hl k hk
  · rw [hf.1 _ _ (hd _ _ (by simp [cellsM]))]; exact d l hl
  · rw [hf.1 _ _ (hd _ _ (by simp [cellsM]))]; exact e l hl k hk
  · rw [hf.1 _ _ (hd _ _ (by simp [cellsM]))]; exact f l h1 h2 k hk
section UC
variable {w : Nat} {v : WV} {h : HP}
theorem hc_setS (hC : HC w v h) (hS : vS v ≤ 6) (hL : vL v ≤ 10) {s k x : Nat} (hs : s < vS v) (hk : k < 3) : HC w (setS v s k x) (si h (w + 3 + s) k (nI x)) := by
  obtain ⟨⟨a1, a2, a3, a4⟩, b, c, d⟩ := hC
  refine ⟨⟨?_, ?_, ?_, ?_⟩, fun s' hs' k' hk' => ?_, fun l hl k' hk' => ?_, fun l hl k' hk' => ?_⟩
  · rw [gi_si, if_neg (by omega)]; exact a1
  · rw [gi_si, if_neg (by omega)]; exact a2
  · rw [gi_si, if_neg (by omega)]; exact a3
  · rw [gi_si, if_neg (by omega)]; exact a4
  · rw [gi_si, vs_setS]
    by_cases e : s' = s ∧ k' = k
    · rw [if_pos ⟨by omega, e.2⟩, if_pos e]
    · rw [if_neg (fun q => e ⟨by omega, q.2⟩), if_neg e]; exact b s' hs' k' hk'
  · have hs6 : s < 6 := by omega
    rw [gi_si, if_neg (by omega)]; exact c l hl k' hk'
  · have hs6 : s < 6 := by omega
    rw [gi_si, if_neg (by omega)]; exact d l hl k' hk'
theorem hc_setL (hC : HC w v h) (hS : vS v ≤ 6) (hL : vL v ≤ 10) {l k x : Nat} (hl : l < vL v) (hk : k < 9) : HC w (setL v l k x) (si h (w + 9 + 2 * l) k (nI x)) := by
  obtain ⟨⟨a1, a2, a3, a4⟩, b, c, d⟩ := hC
  refine ⟨⟨?_, ?_, ?_, ?_⟩, fun s' hs' k' hk' => ?_, fun l' hl' k' hk' => ?_, fun l' hl' k' hk' => ?_⟩
  · rw [gi_si, if_neg (by omega)]; exact a1
  · rw [gi_si, if_neg (by omega)]; exact a2
  · rw [gi_si, if_neg (by omega)]; exact a3
  · rw [gi_si, if_neg (by omega)]; exact a4
  · have hs6 : s' < 6 := Nat.lt_of_lt_of_le hs' hS
    rw [gi_si, if_neg (by omega)]; exact b s' hs' k' hk'
  · rw [gi_si, vl_setL]
    by_cases e : l' = l ∧ k' = k
    · rw [if_pos ⟨by omega, e.2⟩, if_pos e]
    · rw [if_neg (fun q => e ⟨by omega, q.2⟩), if_neg e]; exact c l' hl' k' hk'
  · rw [gi_si, if_neg (by omega)]; exact d l' hl' k' hk'
theorem hc_setY (hC : HC w v h) (hS : vS v ≤ 6) (hL : vL v ≤ 10) {l k x : Nat} (hl : l < vL v) (hk : k < 16) : HC w (setY v l k x) (si h (w + 10 + 2 * l) k (nI x)) := by
  obtain ⟨⟨a1, a2, a3, a4⟩, b, c, d⟩ := hC
  refine ⟨⟨?_, ?_, ?_, ?_⟩, fun s' hs' k' hk' => ?_, fun l' hl' k' hk' => ?_, fun l' hl' k' hk' => ?_⟩
  · rw [gi_si, if_neg (by omega)]; exact a1
  · rw [gi_si, if_neg (by omega)]; exact a2
  · rw [gi_si, if_neg (by omega)]; exact a3
  · rw [gi_si, if_neg (by omega)]; exact a4
  · have hs6 : s' < 6 := Nat.lt_of_lt_of_le hs' hS
    rw [gi_si, if_neg (by omega)]; exact b s' hs' k' hk'
  · rw [gi_si, if_neg (by omega)]; exact c l' hl' k' hk'
  · rw [gi_si, vy_setY]
    by_cases e : l' = l ∧ k' = k
    · rw [if_pos ⟨by omega, e.2⟩, if_pos e]
    · rw [if_neg (fun q => e ⟨by omega, q.2⟩), if_neg e]; exact d l' hl' k' hk'
theorem hc_setT (hC : HC w v h) {x : Nat} : HC w (setT v x) (si h w 0 (nI x)) := by
  obtain ⟨⟨a1, a2, a3, a4⟩, b, c, d⟩ := hC
  refine ⟨⟨?_, ?_, ?_, ?_⟩, fun s' hs' k' hk' => ?_, fun l' hl' k' hk' => ?_, fun l' hl' k' hk' => ?_⟩
  · rw [gi_si, if_pos ⟨rfl, rfl⟩]; rfl
  · rw [gi_si, if_neg (by omega)]; exact a2
  · rw [gi_si, if_neg (by omega)]; exact a3
  · rw [gi_si, if_neg (by omega)]; exact a4
  · rw [gi_si, if_neg (by omega)]; exact b s' hs' k' hk'
  · rw [gi_si, if_neg (by omega)]; exact c l' hl' k' hk'
  · rw [gi_si, if_neg (by omega)]; exact d l' hl' k' hk'
theorem hc_setLo (hC : HC w v h) {x : Nat} : HC w (setLo v x) (si h w 1 (nI x)) := by
  obtain ⟨⟨a1, a2, a3, a4⟩, b, c, d⟩ := hC
  refine ⟨⟨?_, ?_, ?_, ?_⟩, fun s' hs' k' hk' => ?_, fun l' hl' k' hk' => ?_, fun l' hl' k' hk' => ?_⟩
  · rw [gi_si, if_neg (by omega)]; exact a1
  · rw [gi_si, if_pos ⟨rfl, rfl⟩]; rfl
  · rw [gi_si, if_neg (by omega)]; exact a3
  · rw [gi_si, if_neg (by omega)]; exact a4
  · rw [gi_si, if_neg (by omega)]; exact b s' hs' k' hk'
  · rw [gi_si, if_neg (by omega)]; exact c l' hl' k' hk'
  · rw [gi_si, if_neg (by omega)]; exact d l' hl' k' hk'
end UC
section UM
variable {v : WV} {h : HP}
/-- where the reference keeps a station's numbers -/
theorem hm_setS (hM : HM v h) {s k x : Nat} (hk : k < 3) : HM (setS v s k x) (si h (119 + k) s (nI x)) := by
  obtain ⟨⟨a1, a2, a3, a4⟩, b, c, d, e, f⟩ := hM
  refine ⟨⟨?_, ?_, ?_, ?_⟩, fun s' hs' => ?_, fun l hl k' hk' => ?_, fun l hl => ?_, fun l hl k' hk' => ?_, fun l h1 h2 k' hk' => ?_⟩
  · rw [gi_si, if_neg (by omega)]; exact a1
  · rw [gi_si, if_neg (by omega)]; exact a2
  · rw [gi_si, if_neg (by omega)]; exact a3
  · rw [gi_si, if_neg (by omega)]; exact a4
  · have b' := b s' hs'
    simp only [gi_si, vs_setS]
    have hk' : k = 0 ∨ k = 1 ∨ k = 2 := by omega
    rcases hk' with rfl | rfl | rfl <;> by_cases q : s' = s <;> simp [q] <;> (try subst q) <;> simp [b'.1, b'.2.1, b'.2.2]
  · rw [gi_si, if_neg (by omega)]; exact c l hl k' hk'
  · rw [gi_si, if_neg (by omega)]; exact d l hl
  · rw [gi_si, if_neg (by omega)]; exact e l hl k' hk'
  · rw [gi_si, if_neg (by omega)]; exact f l h1 h2 k' hk'
theorem hm_setL (hM : HM v h) {l k x : Nat} (hk : k < 8) : HM (setL v l k x) (si h 122 (8 * l + k) (nI x)) := by
  obtain ⟨⟨a1, a2, a3, a4⟩, b, c, d, e, f⟩ := hM
  refine ⟨⟨?_, ?_, ?_, ?_⟩, fun s' hs' => ⟨?_, ?_, ?_⟩, fun l' hl' k' hk' => ?_, fun l' hl' => ?_, fun l' hl' k' hk' => ?_, fun l' h1 h2 k' hk' => ?_⟩
  · rw [gi_si, if_neg (by omega)]; exact a1
  · rw [gi_si, if_neg (by omega)]; exact a2
  · rw [gi_si, if_neg (by omega)]; exact a3
  · rw [gi_si, if_neg (by omega)]; exact a4
  · rw [gi_si, if_neg (by omega)]; exact (b s' hs').1
  · rw [gi_si, if_neg (by omega)]; exact (b s' hs').2.1
  · rw [gi_si, if_neg (by omega)]; exact (b s' hs').2.2
  · rw [gi_si, vl_setL]
    by_cases q : l' = l ∧ k' = k
    · rw [if_pos ⟨rfl, by omega⟩, if_pos q]
    · rw [if_neg (fun z => q ⟨by omega, by omega⟩), if_neg q]; exact c l' hl' k' hk'
  · rw [gi_si, if_neg (by omega), vl_setL, if_neg (by omega)]; exact d l' hl'
  · rw [gi_si, if_neg (by omega)]; exact e l' hl' k' hk'
  · rw [gi_si, if_neg (by omega)]; exact f l' h1 h2 k' hk'
theorem hm_setSent (hM : HM v h) {l x : Nat} : HM (setL v l 8 x) (si h 123 l (nI x)) := by
  obtain ⟨⟨a1, a2, a3, a4⟩, b, c, d, e, f⟩ := hM
  refine ⟨⟨?_, ?_, ?_, ?_⟩, fun s' hs' => ⟨?_, ?_, ?_⟩, fun l' hl' k' hk' => ?_, fun l' hl' => ?_, fun l' hl' k' hk' => ?_, fun l' h1 h2 k' hk' => ?_⟩
  · rw [gi_si, if_neg (by omega)]; exact a1
  · rw [gi_si, if_neg (by omega)]; exact a2
  · rw [gi_si, if_neg (by omega)]; exact a3
  · rw [gi_si, if_neg (by omega)]; exact a4
  · rw [gi_si, if_neg (by omega)]; exact (b s' hs').1
  · rw [gi_si, if_neg (by omega)]; exact (b s' hs').2.1
  · rw [gi_si, if_neg (by omega)]; exact (b s' hs').2.2
  · rw [gi_si, if_neg (by omega), vl_setL, if_neg (by omega)]; exact c l' hl' k' hk'
  · rw [gi_si, vl_setL]
    by_cases q : l' = l
    · rw [if_pos ⟨rfl, q⟩, if_pos ⟨q, rfl⟩]
    · rw [if_neg (fun z => q z.2), if_neg (fun z => q z.1)]; exact d l' hl'
  · rw [gi_si, if_neg (by omega)]; exact e l' hl' k' hk'
  · rw [gi_si, if_neg (by omega)]; exact f l' h1 h2 k' hk'
theorem hm_setY (hM : HM v h) {l k x : Nat} (hl : l < vL v) (hk : k < 16) : HM (setY v l k x) (si h 124 (16 * l + k) (nI x)) := by
  obtain ⟨⟨a1, a2, a3, a4⟩, b, c, d, e, f⟩ := hM
  refine ⟨⟨?_, ?_, ?_, ?_⟩, fun s' hs' => ⟨?_, ?_, ?_⟩, fun l' hl' k' hk' => ?_, fun l' hl' => ?_, fun l' hl' k' hk' => ?_, fun l' h1 h2 k' hk' => ?_⟩
  · rw [gi_si, if_neg (by omega)]; exact a1
  · rw [gi_si, if_neg (by omega)]; exact a2
  · rw [gi_si, if_neg (by omega)]; exact a3
  · rw [gi_si, if_neg (by omega)]; exact a4
  · rw [gi_si, if_neg (by omega)]; exact (b s' hs').1
  · rw [gi_si, if_neg (by omega)]; exact (b s' hs').2.1
  · rw [gi_si, if_neg (by omega)]; exact (b s' hs').2.2
  · rw [gi_si, if_neg (by omega)]; exact c l' hl' k' hk'
  · rw [gi_si, if_neg (by omega)]; exact d l' hl'
  · rw [gi_si, vy_setY]
    by_cases q : l' = l ∧ k' = k
    · rw [if_pos ⟨rfl, by omega⟩, if_pos q]
    · rw [if_neg (fun z => q ⟨by omega, by omega⟩), if_neg q]; exact e l' hl' k' hk'
  · have h1' : vL v ≤ l' := h1
    rw [gi_si, if_neg (by omega)]; exact f l' h1 h2 k' hk'
theorem hm_setT (hM : HM v h) {x : Nat} : HM (setT v x) (si h 117 1 (nI x)) := by
  obtain ⟨⟨a1, a2, a3, a4⟩, b, c, d, e, f⟩ := hM
  refine ⟨⟨?_, ?_, ?_, ?_⟩, fun s' hs' => ⟨?_, ?_, ?_⟩, fun l' hl' k' hk' => ?_, fun l' hl' => ?_, fun l' hl' k' hk' => ?_, fun l' h1 h2 k' hk' => ?_⟩
  · rw [gi_si, if_pos ⟨rfl, rfl⟩]; rfl
  · rw [gi_si, if_neg (by omega)]; exact a2
  · rw [gi_si, if_neg (by omega)]; exact a3
  · rw [gi_si, if_neg (by omega)]; exact a4
  · rw [gi_si, if_neg (by omega)]; exact (b s' hs').1
  · rw [gi_si, if_neg (by omega)]; exact (b s' hs').2.1
  · rw [gi_si, if_neg (by omega)]; exact (b s' hs').2.2
  · rw [gi_si, if_neg (by omega)]; exact c l' hl' k' hk'
  · rw [gi_si, if_neg (by omega)]; exact d l' hl'
  · rw [gi_si, if_neg (by omega)]; exact e l' hl' k' hk'
  · rw [gi_si, if_neg (by omega)]; exact f l' h1 h2 k' hk'
theorem hm_setLo (hM : HM v h) {x : Nat} : HM (setLo v x) (si h 117 2 (nI x)) := by
  obtain ⟨⟨a1, a2, a3, a4⟩, b, c, d, e, f⟩ := hM
  refine ⟨⟨?_, ?_, ?_, ?_⟩, fun s' hs' => ⟨?_, ?_, ?_⟩, fun l' hl' k' hk' => ?_, fun l' hl' => ?_, fun l' hl' k' hk' => ?_, fun l' h1 h2 k' hk' => ?_⟩
  · rw [gi_si, if_neg (by omega)]; exact a1
  · rw [gi_si, if_pos ⟨rfl, rfl⟩]; rfl
  · rw [gi_si, if_neg (by omega)]; exact a3
  · rw [gi_si, if_neg (by omega)]; exact a4
  · rw [gi_si, if_neg (by omega)]; exact (b s' hs').1
  · rw [gi_si, if_neg (by omega)]; exact (b s' hs').2.1
  · rw [gi_si, if_neg (by omega)]; exact (b s' hs').2.2
  · rw [gi_si, if_neg (by omega)]; exact c l' hl' k' hk'
  · rw [gi_si, if_neg (by omega)]; exact d l' hl'
  · rw [gi_si, if_neg (by omega)]; exact e l' hl' k' hk'
  · rw [gi_si, if_neg (by omega)]; exact f l' h1 h2 k' hk'
end UM
