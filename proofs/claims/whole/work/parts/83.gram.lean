/-! numbers and options of a text -/
def numF (n : Nat) (b : Nat → Int32) (lo hx p : Nat) : Except Nat (Nat × Nat) := if tK n b p = 2 ∧ lo ≤ tV n b p ∧ tV n b p < hx then .ok (tV n b p, tE n b p) else .error (tP n b p)
noncomputable def optF (n : Nat) (b : Nat → Int32) (w lo hx d p : Nat) : Except Nat (Nat × Nat) := by
  classical exact if wmt n b p w then numF n b lo hx (tE n b p) else .ok (d, p)
section Tok
variable {n p : Nat} {b : Nat → Int32} {h : HP}
theorem tP_le (hp : p ≤ n) : tP n b p ≤ n := (tP_b hp).2
theorem num_ok {lo hx v p' : Nat} (hp : p ≤ n) (h1 : numF n b lo hx p = .ok (v, p')) : lo ≤ v ∧ v < hx ∧ p' ≤ n ∧ p < p' := by
  have a := tP_b (b := b) hp
  have e := tE_b (b := b) hp
  unfold numF at h1
  split at h1
  · rename_i z
    injection h1 with h1
    injection h1 with h1 h2
    have := e.2.2 (by omega)
    omega
  · exact absurd h1 (by simp)
theorem num_er {lo hx q : Nat} (hp : p ≤ n) (h1 : numF n b lo hx p = .error q) : q ≤ n := by
  have a := tP_b (b := b) hp
  unfold numF at h1
  split at h1
  · exact absurd h1 (by simp)
  · injection h1 with h1
    omega
theorem opt_ok {w lo hx d v p' : Nat} (hp : p ≤ n) (hd : lo ≤ d ∧ d < hx) (h1 : optF n b w lo hx d p = .ok (v, p')) : lo ≤ v ∧ v < hx ∧ p' ≤ n ∧ p ≤ p' := by
  have a := tP_b (b := b) hp
  have e := tE_b (b := b) hp
  unfold optF at h1
  split at h1
  · have := num_ok (by omega) h1
    omega
  · injection h1 with h1
    injection h1 with h1 h2
    omega
theorem opt_er {w lo hx d q : Nat} (hp : p ≤ n) (h1 : optF n b w lo hx d p = .error q) : q ≤ n := by
  have e := tE_b (b := b) hp
  unfold optF at h1
  split at h1
  · exact num_er (by omega) h1
  · exact absurd h1 (by simp)
/-- the class reads, no fault yet -/
def TG (n : Nat) (b : Nat → Int32) (p : Nat) (h : HP) : Prop := TC n b p h ∧ gi h 105 2 = -1
abbrev cellsW : Nat → Nat → Prop := fun a k => a = 105 ∧ 2 ≤ k ∧ k ≤ 6
theorem TG.next {Q : HP → Prop} (hn : n ≤ 120) (hp : p ≤ n) (hT : TG n b p h) (hQ : ∀ h', TG n b (tE n b p) h' → FrI cellsW h h' → Q h') : f_X5_readToken h Q := by
  have e := tE_b (b := b) hp
  refine c_readToken (p := tE n b p) hn e.2.1 hT.1.1 hT.1.2.1 hT.1.2.2.2.2.1 (fun h' t f => hQ h' ⟨t, ?_⟩ (f.mono (by intro a k; simp only [cellsK, cellsW]; omega)))
  rw [f.1 _ _ (by simp only [cellsK]; omega)]; exact hT.2
theorem neg1 : ¬ (0 : Int32) ≤ (-1 : Int32) := by decide
theorem c_fail {Q : HP → Prop} (hT : TG n b p h) (hQ : ∀ h', gi h' 105 2 = nI (tP n b p) → FrI cellsW h h' → Q h') : f_X5_fail h Q := by
  unfold f_X5_fail
  rw [hT.2]
  refine ⟨fun q => absurd q neg1, fun _ h2 e2 => ?_⟩
  refine hQ h2 ?_ (by rw [e2]; exact FrI.si ⟨rfl, by omega, by omega⟩)
  rw [e2, gi_si, if_pos ⟨rfl, rfl⟩]; exact hT.1.2.2.2.1
theorem nn0 {q : Nat} (hq : q < 2 ^ 31) : (0 : Int32) ≤ nI q := by rw [i32_le, i32_0, nI_toInt hq]; omega
theorem b_fail {Q : HP → Prop} {q : Nat} (hq : q ≤ 120) (hT : gi h 105 2 = nI q) (hQ : Q h) : f_X5_fail h Q := by
  unfold f_X5_fail
  rw [hT]
  exact ⟨fun _ => hQ, fun z => absurd (nn0 (by omega)) z⟩
theorem b_num {Q : Int32 → HP → Prop} {q : Nat} {x y : Int32} (hq : q ≤ 120) (hT : gi h 105 2 = nI q) (hQ : Q x h) : f_X5_takeNumber x y h Q := by
  unfold f_X5_takeNumber
  refine ⟨fun _ => b_fail hq hT hQ, fun z => ?_⟩
  rw [hT] at z
  exact absurd (nn0 (by omega)) z
theorem b_word {Q : Int32 → HP → Prop} {a q : Nat} (hq : q ≤ 120) (hT : gi h 105 2 = nI q) (hQ : Q 0 h) : f_X5_takeWord a h Q := by
  unfold f_X5_takeWord f_X5_takeWord_J20
  refine ⟨fun _ => br0 hQ, fun z => ?_⟩
  rw [hT] at z
  exact absurd (nn0 (by omega)) z
theorem b_opt {Q : Int32 → HP → Prop} {a q : Nat} {x y d : Int32} (hq : q ≤ 120) (hT : gi h 105 2 = nI q) (hQ : Q d h) : f_X5_takeOption a x y d h Q := by
  unfold f_X5_takeOption
  exact b_word hq hT (br0 hQ)
theorem c_num {Q : Int32 → HP → Prop} {lo hx : Nat} {y : Int32} (hn : n ≤ 120) (hp : p ≤ n) (hlo : lo < 1000) (hhx : hx ≤ 1000) (hy : y.toInt = (hx : Int) - 1) (hT : TG n b p h) (hY : ∀ v p', numF n b lo hx p = .ok (v, p') → ∀ h', TG n b p' h' → FrI cellsW h h' → Q (nI v) h') (hN : ∀ q, numF n b lo hx p = .error q → ∀ h', gi h' 105 2 = nI q → FrI cellsW h h' → Q (nI lo) h') : f_X5_takeNumber (nI lo) y h Q := by
  unfold f_X5_takeNumber
  have kl : tK n b p ≤ 4 := by
    unfold tK
    have := kcF_pos (x := b (tP n b p))
    split <;> omega
  have eb := tE_b (b := b) hp
  refine ⟨fun q => absurd (by rw [hT.2] at q; exact q) neg1, fun _ => ?_⟩
  rw [hT.1.2.2.1]
  have bad : ¬ (tK n b p = 2 ∧ lo ≤ tV n b p ∧ tV n b p < hx) → f_X5_fail h (fun h2 => Q (nI lo) h2) := by
    intro z
    have e : numF n b lo hx p = .error (tP n b p) := by unfold numF; rw [if_neg z]
    exact c_fail hT (fun h' a f => hN _ e h' a f)
  refine br_eq (b := 2) (by omega) (by omega) (fun z => ?_) (fun z => bad (fun q => z q.1))
  have e6 := hT.1.2.2.2.2.2 z
  rw [e6]
  refine c_in (a := lo) (b := (hx : Int) - 1) (nI_toInt (by omega)) hy (fun q => br1 ?_) (fun q => br0 (bad (fun r => q ?_)))
  · have z2 : lo ≤ tV n b p ∧ tV n b p < hx := by
      have q1 := q.1
      have q2 := q.2
      rw [nI_toInt (by omega)] at q1 q2
      omega
    intro x3 e3
    rw [e6, show min (tV n b p) 1000 = tV n b p by omega] at e3
    have e : numF n b lo hx p = .ok (tV n b p, tE n b p) := by unfold numF; rw [if_pos ⟨z, z2⟩]
    rw [e3]
    exact hT.next hn hp (fun h' t f => hY _ _ e h' t f)
  · unfold InR
    rw [nI_toInt (by omega)]
    omega
theorem c_word {Q : Int32 → HP → Prop} {a w : Nat} (hn : n ≤ 120) (hp : p ≤ n) (hw : w < 16) (ha : a - 6000 = w) (hT : TG n b p h) (h1 : wmt n b p w → ∀ h', TG n b (tE n b p) h' → FrI cellsW h h' → Q 1 h') (h0 : ¬ wmt n b p w → Q 0 h) : f_X5_takeWord a h Q := by
  unfold f_X5_takeWord f_X5_takeWord_J20
  refine ⟨fun q => absurd (by rw [hT.2] at q; exact q) neg1, fun _ => ?_⟩
  exact c_isWord hn hp hw ha hT.1 (fun z => br1 (br1 (hT.next hn hp (fun h' t f => h1 z h' t f)))) (fun z => br0 (br0 (h0 z)))
theorem c_opt {Q : Int32 → HP → Prop} {a w lo hx d : Nat} {y : Int32} (hn : n ≤ 120) (hp : p ≤ n) (hw : w < 16) (ha : a - 6000 = w) (hlo : lo < 1000) (hhx : hx ≤ 1000) (hy : y.toInt = (hx : Int) - 1) (hT : TG n b p h) (hY : ∀ v p', optF n b w lo hx d p = .ok (v, p') → ∀ h', TG n b p' h' → FrI cellsW h h' → Q (nI v) h') (hN : ∀ q, optF n b w lo hx d p = .error q → ∀ x h', gi h' 105 2 = nI q → FrI cellsW h h' → Q (nI x) h') : f_X5_takeOption a (nI lo) y (nI d) h Q := by
  unfold f_X5_takeOption
  have eb := tE_b (b := b) hp
  refine c_word hn hp hw ha hT (fun z h1 t1 f1 => br1 ?_) (fun z => br0 ?_)
  · have e : optF n b w lo hx d p = numF n b lo hx (tE n b p) := by unfold optF; rw [if_pos z]
    rw [e] at hY hN
    exact c_num hn eb.2.1 hlo hhx hy t1 (fun v p' ev h' t f => hY v p' ev h' t (f1.trans f)) (fun q eq h' t f => hN q eq lo h' t (f1.trans f))
  · have e : optF n b w lo hx d p = .ok (d, p) := by unfold optF; rw [if_neg z]
    exact hY d p e h hT FrI.rf
/-- the reference reads -/
def TR (n : Nat) (b : Nat → Int32) (p : Nat) (h : HP) : Prop := TM n b p h ∧ WD h
abbrev cellsZ : Nat → Nat → Prop := fun a k => a = 117 ∧ 27 ≤ k ∧ k ≤ 32
theorem TR.next {Q : HP → Prop} (hn : n ≤ 120) (hp : p ≤ n) (hb : ∀ i, i < n → 0 ≤ (b i).toInt) (hT : TR n b p h) (hQ : ∀ h', TR n b (tE n b p) h' → FrI cellsQ h h' → Q h') : f_X8_next h Q := by
  have e := tE_b (b := b) hp
  refine m_next (p := tE n b p) hn e.2.1 hb hT.2 hT.1.1 hT.1.2.1 hT.1.2.2.2.2.1 (fun h' t f => hQ h' ⟨t, fun k hk => ?_⟩ f)
  rw [f.1 _ _ (by simp only [cellsQ]; omega)]; exact hT.2 k hk
theorem TR.keep {h' : HP} (hT : TR n b p h) (f : ∀ a k, (a = 117 ∧ 26 ≤ k ∧ k ≤ 30) ∨ a = 138 ∨ a = 139 → gi h' a k = gi h a k) : TR n b p h' := by
  obtain ⟨⟨a1, a2, a3, a4, a5, a6⟩, d⟩ := hT
  refine ⟨⟨?_, fun i hi => ?_, ?_, ?_, ?_, fun q r => ?_⟩, fun k hk => ?_⟩
  · rw [f _ _ (by omega)]; exact a1
  · rw [f _ _ (by omega)]; exact a2 i hi
  · rw [f _ _ (by omega)]; exact a3
  · rw [f _ _ (by omega)]; exact a4
  · rw [f _ _ (by omega)]; exact a5
  · rw [f _ _ (by omega)]; exact a6 q r
  · rw [f _ _ (by omega)]; exact d k hk
theorem m_num {Q : Int32 → HP → Prop} {lo hx : Nat} {y : Int32} (hn : n ≤ 120) (hp : p ≤ n) (hb : ∀ i, i < n → 0 ≤ (b i).toInt) (hlo : lo < 1000) (hhx : hx ≤ 1000) (hy : y.toInt = (hx : Int) - 1) (hT : TR n b p h) (hY : ∀ v p', numF n b lo hx p = .ok (v, p') → ∀ h', TR n b p' h' → gi h' 117 32 = nI v → FrI cellsZ h h' → Q 1 h') (hN : ∀ q, numF n b lo hx p = .error q → gi h 117 28 = nI q → Q 0 h) : f_X8_takesNumber (nI lo) y h Q := by
  unfold f_X8_takesNumber
  have bad : ¬ (tK n b p = 2 ∧ lo ≤ tV n b p ∧ tV n b p < hx) → Q 0 h := by
    intro z
    have e : numF n b lo hx p = .error (tP n b p) := by unfold numF; rw [if_neg z]
    exact hN _ e hT.1.2.2.2.1
  rw [hT.1.2.2.1]
  refine ⟨fun z => ?_, fun z => bad (fun q => z (kcd_n.mpr ⟨q.1, by omega⟩))⟩
  have zk := kcd_n.mp z
  rw [hT.1.2.2.2.2.2 zk.1 zk.2]
  refine m_in (a := lo) (b := (hx : Int) - 1) (by rw [w_toInt]; exact nI_toInt (by omega)) (by rw [w_toInt]; exact hy) (fun q => br1 ?_) (fun q => br0 (bad (fun r => q ?_)))
  · have z2 : lo ≤ tV n b p ∧ tV n b p < hx := by
      have q1 := q.1
      have q2 := q.2
      rw [nI_toInt (by omega)] at q1 q2
      omega
    intro h5 e5
    have e : numF n b lo hx p = .ok (tV n b p, tE n b p) := by unfold numF; rw [if_pos ⟨zk.1, z2⟩]
    have T5 : TR n b p h5 := hT.keep (fun a k q => by rw [e5, gi_si, if_neg (by omega)])
    have f5 : FrI cellsZ h h5 := by rw [e5]; exact FrI.si ⟨rfl, by omega, by omega⟩
    refine T5.next hn hp hb (fun h' t f => hY _ _ e h' t ?_ (f5.trans (f.mono (by intro a k; simp only [cellsQ, cellsZ]; omega))))
    rw [f.1 _ _ (by simp only [cellsQ]; omega), e5, gi_si, if_pos ⟨rfl, rfl⟩]
    exact hT.1.2.2.2.2.2 zk.1 zk.2
  · unfold InR
    rw [nI_toInt (by omega)]
    omega
theorem m_opt {Q : Int32 → HP → Prop} {w lo hx d : Nat} {y : Int32} (hn : n ≤ 120) (hp : p ≤ n) (hb : ∀ i, i < n → 0 ≤ (b i).toInt) (hw : w < 16) (hlo : lo < 1000) (hhx : hx ≤ 1000) (hy : y.toInt = (hx : Int) - 1) (hT : TR n b p h) (hY : ∀ v p', optF n b w lo hx d p = .ok (v, p') → ∀ h', TR n b p' h' → gi h' 117 32 = nI v → FrI cellsZ h h' → Q 1 h') (hN : ∀ q, optF n b w lo hx d p = .error q → ∀ h', gi h' 117 28 = nI q → FrI cellsZ h h' → Q 0 h') : f_X8_perhaps (nI w) (nI lo) y (nI d) h Q := by
  unfold f_X8_perhaps f_X8_isWord
  intro h1 e1
  have eb := tE_b (b := b) hp
  have T1 : TR n b p h1 := hT.keep (fun a k q => by rw [e1, gi_si, if_neg (by omega)])
  have f1 : FrI cellsZ h h1 := by rw [e1]; exact FrI.si ⟨rfl, by omega, by omega⟩
  rw [T1.1.2.2.1]
  by_cases z : wmt n b p w
  · have e : optF n b w lo hx d p = numF n b lo hx (tE n b p) := by unfold optF; rw [if_pos z]
    rw [e] at hY hN
    rw [if_pos ((kcd_w hw).mpr z)]
    refine br1 (T1.next hn hp hb (fun h5 t5 f5 => ?_))
    have f15 : FrI cellsZ h h5 := f1.trans (f5.mono (by intro a k; simp only [cellsQ, cellsZ]; omega))
    exact m_num hn eb.2.1 hb hlo hhx hy t5 (fun v p' ev h' t g f => hY v p' ev h' t g (f15.trans f)) (fun q eq g => hN q eq h5 g f15)
  · have e : optF n b w lo hx d p = .ok (d, p) := by unfold optF; rw [if_neg z]
    rw [if_neg (fun q => z ((kcd_w hw).mp q))]
    exact br0 (hY d p e h1 T1 (by rw [e1, gi_si, if_pos ⟨rfl, rfl⟩]) f1)
end Tok
