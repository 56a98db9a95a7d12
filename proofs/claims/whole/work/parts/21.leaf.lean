/-! numbers as nI of naturals -/
theorem lit (n : Nat) : (OfNat.ofNat n : Int32) = nI n := rfl
theorem nI_div {a d : Nat} (ha : a < 2 ^ 31) (h0 : 0 < d) (hd : d < 2 ^ 31) : nI a / nI d = nI (a / d) := pk_div ha h0 hd
theorem nI_rem {a d : Nat} (ha : a < 2 ^ 31) (h0 : 0 < d) (hd : d < 2 ^ 31) : nI a - nI a / nI d * nI d = nI (a % d) := pk_rem ha h0 hd
theorem nI_mul (a b : Nat) : nI a * nI b = nI (a * b) := pk_mul a b
theorem nI_sub {a b : Nat} (h : b ≤ a) : nI a - nI b = nI (a - b) := pk_sub h
theorem nI_ite (c : Prop) [Decidable c] (a b : Nat) : (if c then nI a else nI b) = nI (if c then a else b) := by split <;> rfl
theorem ix_nI {k : Nat} (h : k < 2 ^ 31) : ix (nI k) = k := nI_clamp h
theorem nI_inj {a b : Nat} (ha : a < 2 ^ 31) (hb : b < 2 ^ 31) (h : nI a = nI b) : a = b := (nI_eq ha hb).mp h
/-- Station.holds -/
theorem t_holdsC {a kind store t : Nat} {h : HP} {Q : Int32 → HP → Prop} (h0 : gi h a 0 = nI kind) (h2 : gi h a 2 = nI store) (hk : kind < 4) (hs : store < 1000) (ht : t < 1000000) (hQ : Q (nI (holdsV kind store t)) h) : f_X3_holds a (nI t) h Q := by
  unfold f_X3_holds
  simp (disch := omega) only [h0, h2, lit, nI_rem, nI_eq, nI_add]
  have hk' : kind = 0 ∨ kind = 1 ∨ kind = 2 ∨ kind = 3 := by omega
  unfold holdsV at hQ
  rcases hk' with rfl | rfl | rfl | rfl <;> simp at hQ ⊢ <;> (try split at hQ) <;> simp_all
/-- holds of the reference -/
theorem t_holdsM {s kind store t : Nat} {h : HP} {Q : Int32 → HP → Prop} (hs6 : s < 6) (h0 : gi h 119 s = nI kind) (h2 : gi h 121 s = nI store) (hk : kind < 4) (hs : store < 1000) (ht : t < 1000000) (hQ : Q (nI (holdsV kind store t)) h) : f_X8_holds (nI s) (nI t) h Q := by
  unfold f_X8_holds
  have hi : vp_in (nI s) 6 := vp_in_nI hs6 (by decide)
  simp (disch := omega) only [ix_nI, h0, h2, lit, nI_rem, nI_eq, nI_add, hi]
  have hk' : kind = 0 ∨ kind = 1 ∨ kind = 2 ∨ kind = 3 := by omega
  unfold holdsV at hQ
  rcases hk' with rfl | rfl | rfl | rfl <;> simp at hQ ⊢ <;> (try split at hQ) <;> simp_all
/-- Line.room -/
theorem t_roomC {a kind width length tide later shift t : Nat} {h : HP} {Q : Int32 → HP → Prop} (h0 : gi h a 0 = nI kind) (h3 : gi h a 3 = nI width) (h4 : gi h a 4 = nI length) (h5 : gi h a 5 = nI tide) (h6 : gi h a 6 = nI later) (h7 : gi h a 7 = nI shift) (hk : kind < 6) (hw : width < 1000) (hl : length < 1000) (htd : tide < 1000) (hla : later < 1000) (hsh : shift < 1000000) (ht : t < 1000000) (hQ : Q (nI (roomV kind width length tide later shift t 0)) h) : f_X0_room a (nI t) h Q := by
  unfold f_X0_room
  intro road er
  intro rail ea
  intro ferry ef
  have hro : (if shift ≤ t then later else width) < 1000 := by split <;> omega
  have er' : road = nI (if shift ≤ t then later else width) := by
    rw [er, h7, h3, h6]
    by_cases c : shift ≤ t
    · rw [if_neg (nI_nlt c (by omega)), if_pos c]
    · rw [if_pos (nI_lt (by omega) (by omega)), if_neg c]
  have ea' : rail = nI (if t % 2 = 0 then (if shift ≤ t then later else width) else 0) := by
    rw [ea, er', lit 2, nI_rem (by omega) (by omega) (by omega)]
    by_cases c : t % 2 = 0
    · rw [if_pos c, if_pos (by rw [c]; rfl)]
    · rw [if_neg c, if_neg (show ¬ nI (t % 2) = (0 : Int32) from fun q : nI (t % 2) = nI 0 => c (nI_inj (b := 0) (by omega) (by omega) q))]; rfl
  have ef' : ferry = nI (if t % 6 < tide then 0 else (if shift ≤ t then later else width)) := by
    rw [ef, er', h5, lit 6, nI_rem (by omega) (by omega) (by omega)]
    by_cases c : t % 6 < tide
    · rw [if_pos c, if_neg (fun q => absurd ((nI_leI (by omega) (by omega)).mp q) (by omega))]; rfl
    · rw [if_neg c, if_pos (nI_le (by omega) (by omega))]
  generalize hR : (if shift ≤ t then later else width) = ro at *
  unfold roomV at hQ
  simp only [hR, Nat.zero_add] at hQ
  simp (disch := omega) only [h0, h4, er', ea', ef', lit, nI_eq, nI_leI, nI_mul, nI_ite]
  have hk' : kind = 0 ∨ kind = 1 ∨ kind = 2 ∨ kind = 3 ∨ kind = 4 ∨ kind = 5 := by omega
  rcases hk' with rfl | rfl | rfl | rfl | rfl | rfl
  · simpa using hQ
  · simpa using hQ
  · simpa using hQ
  · have e : nI (if t % 2 = 0 then ro else 0) / nI 2 = nI (if t % 2 = 0 then ro / 2 else 0) := by
      rw [nI_div (by split <;> omega) (by omega) (by omega)]
      split <;> rfl
    simpa [e] using hQ
  · simpa using hQ
  · have e : (if length ≤ 4 then ro else 2 * ro) = (if 4 < length then 2 * ro else ro) := by
      by_cases c : length ≤ 4
      · rw [if_pos c, if_neg (by omega)]
      · rw [if_neg c, if_pos (by omega)]
    simpa [e] using hQ
/-- Line.takes -/
theorem t_takesC {a kind length tide : Nat} {h : HP} {Q : Int32 → HP → Prop} (h0 : gi h a 0 = nI kind) (h4 : gi h a 4 = nI length) (h5 : gi h a 5 = nI tide) (hk : kind < 6) (hl : length < 1000) (htd : tide < 1000) (hQ : Q (nI (takesV kind length tide)) h) : f_X0_takes a h Q := by
  unfold f_X0_takes
  unfold takesV at hQ
  simp (disch := omega) only [h0, h4, h5, lit, nI_eq, nI_ltI, nI_add, nI_div, nI_ite]
  have hk' : kind = 0 ∨ kind = 1 ∨ kind = 2 ∨ kind = 3 ∨ kind = 4 ∨ kind = 5 := by omega
  rcases hk' with rfl | rfl | rfl | rfl | rfl | rfl
  · simpa using hQ
  · have e : (if 1 < length / 2 then length / 2 else 1) = (if length < 2 then 1 else length / 2) := by
      by_cases c : length < 2
      · rw [if_pos c, if_neg (by omega)]
      · rw [if_neg c]
        by_cases c2 : 1 < length / 2
        · rw [if_pos c2]
        · rw [if_neg c2]; omega
    simpa [e] using hQ
  · simpa using hQ
  · simpa using hQ
  · simpa using hQ
  · simpa using hQ
theorem at_eq {l k : Nat} {h : HP} {Q : Int32 → HP → Prop} (hl : l < 10) (hk : k < 8) : f_X8_at (nI l) (nI k) h Q ↔ Q (gi h 122 (8 * l + k)) h := by
  unfold f_X8_at
  simp (disch := omega) only [lit, nI_mul, nI_add, ix_nI]
  exact ⟨fun q => q.2, fun q => ⟨vp_in_nI (by omega) (by decide), q⟩⟩
/-- roomBy of the reference -/
theorem t_roomByM {l kind width length tide later shift t more : Nat} {h : HP} {Q : Int32 → HP → Prop} (hl10 : l < 10) (h0 : gi h 122 (8 * l + 0) = nI kind) (h3 : gi h 122 (8 * l + 3) = nI width) (h4 : gi h 122 (8 * l + 4) = nI length) (h5 : gi h 122 (8 * l + 5) = nI tide) (h6 : gi h 122 (8 * l + 6) = nI later) (h7 : gi h 122 (8 * l + 7) = nI shift) (hk : kind < 6) (hw : width < 1000) (hl : length < 1000) (htd : tide < 1000) (hla : later < 1000) (hsh : shift < 1000000) (ht : t < 1000000) (hm : more < 1000) (hQ : Q (nI (roomV kind width length tide later shift t more)) h) : f_X8_roomBy (nI l) (nI t) (nI more) h Q := by
  have hJ : ∀ ro : Nat, ro < 1000 → ro = (if shift ≤ t then later else width) → f_X8_roomBy_J28 (nI l) (nI t) (nI ro) (nI more) Q h := by
    intro ro hro ero
    unfold roomV at hQ
    simp only [← ero] at hQ
    unfold f_X8_roomBy_J28
    simp (disch := omega) only [lit, at_eq, forall_eq, h0, h4, h5, nI_rem, nI_add, nI_leI, nI_ite, nI_mul, nI_eq]
    have hk' : kind = 0 ∨ kind = 1 ∨ kind = 2 ∨ kind = 3 ∨ kind = 4 ∨ kind = 5 := by omega
    have hm2 : t % 2 = 0 ∨ t % 2 = 1 := by omega
    rcases hk' with rfl | rfl | rfl | rfl | rfl | rfl
    · simpa using hQ
    · rcases hm2 with e | e <;> simpa [e] using hQ
    · have e : (if tide ≤ t % 6 then more + ro else 0) = (if t % 6 < tide then 0 else more + ro) := by
        by_cases c : t % 6 < tide
        · rw [if_pos c, if_neg (by omega)]
        · rw [if_neg c, if_pos (by omega)]
      simpa [e] using hQ
    · have e2 : nI (more + ro) / nI 2 = nI ((more + ro) / 2) := nI_div (by omega) (by omega) (by omega)
      rcases hm2 with e | e <;> simpa [e, e2, nI_ite] using hQ
    · have e : (if tide ≤ t % 6 then more + ro else 0) = (if t % 6 < tide then 0 else more + ro) := by
        by_cases c : t % 6 < tide
        · rw [if_pos c, if_neg (by omega)]
        · rw [if_neg c, if_pos (by omega)]
      simpa [e] using hQ
    · have e : (if length ≤ 4 then more + ro else 2 * (more + ro)) = (if 4 < length then 2 * (more + ro) else more + ro) := by
        by_cases c : length ≤ 4
        · rw [if_pos c, if_neg (by omega)]
        · rw [if_neg c, if_pos (by omega)]
      simpa [e] using hQ
  unfold f_X8_roomBy
  simp (disch := omega) only [lit, at_eq, h7, h3, h6, nI_ltI]
  refine ⟨fun c => hJ width hw (by rw [if_neg (by omega)]), fun c => hJ later hla (by rw [if_pos (by omega)])⟩
theorem t_takesM {l kind length tide : Nat} {h : HP} {Q : Int32 → HP → Prop} (hl10 : l < 10) (h0 : gi h 122 (8 * l + 0) = nI kind) (h4 : gi h 122 (8 * l + 4) = nI length) (h5 : gi h 122 (8 * l + 5) = nI tide) (hk : kind < 6) (hl : length < 1000) (htd : tide < 1000) (hQ : Q (nI (takesV kind length tide)) h) : f_X8_takes (nI l) h Q := by
  unfold f_X8_takes
  unfold takesV at hQ
  simp (disch := omega) only [lit, at_eq, h0, h4, h5, nI_eq, nI_leI, nI_add, nI_div, nI_ite]
  have hk' : kind = 0 ∨ kind = 1 ∨ kind = 2 ∨ kind = 3 ∨ kind = 4 ∨ kind = 5 := by omega
  rcases hk' with rfl | rfl | rfl | rfl | rfl | rfl
  · simpa using hQ
  · have e : (if 2 ≤ length then length / 2 else 1) = (if length < 2 then 1 else length / 2) := by
      by_cases c : length < 2
      · rw [if_pos c, if_neg (by omega)]
      · rw [if_neg c, if_pos (by omega)]
    simpa [e] using hQ
  · simpa using hQ
  · simpa using hQ
  · simpa using hQ
  · simpa using hQ
