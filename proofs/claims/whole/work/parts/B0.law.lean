/-! the law's loop -/
theorem WD.lo {h h1 : HP} (hD : WD h) (f1 : LoF h h1) : WD h1 := fun k hk => by rw [f1.1 _ _ (by omega)]; exact hD k hk
theorem WD.step {h h1 h2 : HP} (hD : WD h) (f1 : LoF h h1) (f2 : HiF h1 h2) : WD h2 := fun k hk => by rw [f2.1 _ _ (by omega)]; exact hD.lo f1 k hk
section Law
variable {c : Nat} {σ : ST} {h : HP}
set_option maxRecDepth 100000 in
set_option maxHeartbeats 4000000 in
theorem law_step {xL n : Nat} {xs : Nat → Int32} {Q : Int32 → HP → Prop} (hL : xL ≤ 3072) (hc : c < 512) (h6 : 6 * c + 6 ≤ xL) (hW : WS c σ) (hI : CI σ h) (hM : MI σ h) (hD : WD h)
    (nxt : ∀ σ' h', WS (c + 1) σ' → CI σ' h' → MI σ' h' → WD h' → ∀ x : Int32, x = nI (6 * c) + 6 → f_L_law_L18 xL xs Q n x h') : f_L_law_L18 xL xs Q (n + 1) (nI (6 * c)) h := by
  have i0 : vp_in (nI (6 * c)) xL := vp_in_nI (by omega) (by omega)
  have i1 : vp_in (nI (6 * c) + 1) xL := by rw [nI_1]; exact vp_in_nI (by omega) (by omega)
  have i2 : vp_in (nI (6 * c) + 2) xL := by rw [lit 2, nI_add]; exact vp_in_nI (by omega) (by omega)
  have i3 : vp_in (nI (6 * c) + 3) xL := by rw [lit 3, nI_add]; exact vp_in_nI (by omega) (by omega)
  have i4 : vp_in (nI (6 * c) + 4) xL := by rw [lit 4, nI_add]; exact vp_in_nI (by omega) (by omega)
  have i5 : vp_in (nI (6 * c) + 5) xL := by rw [lit 5, nI_add]; exact vp_in_nI (by omega) (by omega)
  unfold f_L_law_L18
  have ex : ¬ ((Int32.ofNat xL) - 6) < nI (6 * c) := by
    have e : (Int32.ofNat xL) - 6 = nI (xL - 6) := by rw [lit 6]; exact nI_sub (by omega)
    rw [e]
    exact nI_nlt (by omega) (by omega)
  refine ⟨fun z => absurd z ex, fun _ => ⟨i0, ?_⟩⟩
  refine ⟨fun _ => ⟨i1, i2, c_station hW hI (fun h1 C1 F1 => ⟨i1, i2, m_station hW (hM.lo F1) (fun h2 M2 F2 => ⟨fun _ => nxt _ h2 (WS_station hW hc) (C1.hi (WS_station hW hc) F2) M2 (hD.step F1 F2), fun z => absurd rfl z⟩)⟩)⟩, fun _ => ?_⟩
  refine ⟨fun _ => ⟨i1, i2, i3, i4, i5, c_line hW hI (fun h1 C1 F1 => ⟨i1, i2, i3, i4, i5, m_line hW (hM.lo F1) (fun h2 M2 F2 => ⟨fun _ => nxt _ h2 (WS_line hW hc) (C1.hi (WS_line hW hc) F2) M2 (hD.step F1 F2), fun z => absurd rfl z⟩)⟩)⟩, fun _ => ?_⟩
  refine ⟨fun _ => ⟨i1, i2, c_of hW hI (fun h1 C1 F1 => ⟨i1, i2, m_of hW (hM.lo F1) (fun h2 M2 F2 => ⟨fun _ => nxt _ h2 (WS_of hW hc) (C1.hi (WS_of hW hc) F2) M2 (hD.step F1 F2), fun z => absurd rfl z⟩)⟩)⟩, fun _ => ?_⟩
  refine ⟨fun _ => ⟨i1, i2, c_its hW hI (fun h1 C1 F1 => ⟨i1, i2, m_its hW (hM.lo F1) (fun h2 M2 F2 => ⟨fun _ => nxt _ h2 (WS_its hW hc) (C1.hi (WS_its hW hc) F2) M2 (hD.step F1 F2), fun z => absurd rfl z⟩)⟩)⟩, fun _ => ?_⟩
  refine ⟨fun _ => ⟨i1, i2, i3, c_set hW hI (fun h1 C1 F1 => ⟨i1, i2, i3, m_set hW (hM.lo F1) (fun h2 M2 F2 => ⟨fun _ => nxt _ h2 (WS_set hW hc) (C1.hi (WS_set hW hc) F2) M2 (hD.step F1 F2), fun z => absurd rfl z⟩)⟩)⟩, fun _ => ?_⟩
  refine ⟨fun _ => ⟨i1, i2, i3, c_change hW hI (fun h1 C1 F1 => ⟨i1, i2, i3, m_change hW (hM.lo F1) (fun h2 M2 F2 => ⟨fun _ => nxt _ h2 (WS_change hW hc) (C1.hi (WS_change hW hc) F2) M2 (hD.step F1 F2), fun z => absurd rfl z⟩)⟩)⟩, fun _ => ?_⟩
  refine ⟨fun _ => ⟨i1, i2, c_as hW hI (fun h1 C1 F1 => ⟨i1, i2, m_as hW (hM.lo F1) (fun h2 M2 F2 => ⟨fun _ => nxt _ h2 (WS_as hW hc) (C1.hi (WS_as hW hc) F2) M2 (hD.step F1 F2), fun z => absurd rfl z⟩)⟩)⟩, fun _ => ?_⟩
  refine ⟨fun _ => ⟨i1, i2, c_stands hW hI (fun h1 C1 F1 => ⟨i1, i2, m_stands hW (hM.lo F1) (fun h2 M2 F2 => ⟨fun _ => nxt _ h2 (WS_stands hW hc) (C1.hi (WS_stands hW hc) F2) M2 (hD.step F1 F2), fun z => absurd rfl z⟩)⟩)⟩, fun _ => ?_⟩
  refine ⟨fun _ => ⟨i1, i2, c_send hW hI (fun h1 C1 F1 => ⟨i1, i2, m_send hW (hM.lo F1) (fun h2 M2 F2 => ⟨fun _ => nxt _ h2 (WS_send hW hc) (C1.hi (WS_send hW hc) F2) M2 (hD.step F1 F2), fun z => absurd rfl z⟩)⟩)⟩, fun _ => ?_⟩
  refine ⟨fun _ => ⟨i1, c_go hW hI (fun h1 C1 F1 => ⟨i1, m_go hW (hM.lo F1) (fun h2 M2 F2 => ⟨fun _ => nxt _ h2 (WS_go hW hc) (C1.hi (WS_go hW hc) F2) M2 (hD.step F1 F2), fun z => absurd rfl z⟩)⟩)⟩, fun _ => ?_⟩
  refine ⟨fun _ => ⟨i1, c_now hW hI (fun h1 C1 F1 => ⟨i1, m_now hW (hM.lo F1) (fun h2 M2 F2 => ⟨fun _ => nxt _ h2 (WS_now hW hc) (C1.hi (WS_now hW hc) F2) M2 (hD.step F1 F2), fun z => absurd rfl z⟩)⟩)⟩, fun _ => ?_⟩
  refine ⟨fun _ => ⟨i1, i2, c_most hW hI (fun h1 C1 F1 => ⟨i1, i2, m_most hW (hM.lo F1) (fun h2 M2 F2 => ⟨fun _ => nxt _ h2 (WS_most hW hc) (C1.hi (WS_most hW hc) F2) M2 (hD.step F1 F2), fun z => absurd rfl z⟩)⟩)⟩, fun _ => ?_⟩
  refine ⟨fun _ => ⟨i1, i2, c_quick hW hI (fun h1 C1 F1 => ⟨i1, i2, m_quick hW (hM.lo F1) (fun h2 M2 F2 => ⟨fun _ => nxt _ h2 (WS_quick hW hc) (C1.hi (WS_quick hW hc) F2) M2 (hD.step F1 F2), fun z => absurd rfl z⟩)⟩)⟩, fun _ => ?_⟩
  refine ⟨fun _ => ⟨i1, c_all hW hI (fun h1 C1 F1 => ⟨i1, m_all hW (hM.lo F1) (fun h2 M2 F2 => ⟨fun _ => nxt _ h2 (WS_all hW hc) (C1.hi (WS_all hW hc) F2) M2 (hD.step F1 F2), fun z => absurd rfl z⟩)⟩)⟩, fun _ => ?_⟩
  refine ⟨fun _ => ⟨i1, i2, i3, c_near hW hI (fun h1 C1 F1 => ⟨i1, i2, i3, m_near hW (hM.lo F1) (fun h2 M2 F2 => ⟨fun _ => nxt _ h2 (WS_near hW hc) (C1.hi (WS_near hW hc) F2) M2 (hD.step F1 F2), fun z => absurd rfl z⟩)⟩)⟩, fun _ => ?_⟩
  refine ⟨fun _ => ⟨i1, i2, i3, c_cost hW hI (fun h1 C1 F1 => ⟨i1, i2, i3, m_cost hW (hM.lo F1) (fun h2 M2 F2 => ⟨fun _ => nxt _ h2 (WS_cost hW hc) (C1.hi (WS_cost hW hc) F2) M2 (hD.step F1 F2), fun z => absurd rfl z⟩)⟩)⟩, fun _ => ?_⟩
  refine ⟨fun _ => ⟨i1, i2, c_lose hW hI (fun h1 C1 F1 => ⟨i1, i2, m_lose hW (hM.lo F1) (fun h2 M2 F2 => ⟨fun _ => nxt _ h2 (WS_lose hW hc) (C1.hi (WS_lose hW hc) F2) M2 (hD.step F1 F2), fun z => absurd rfl z⟩)⟩)⟩, fun _ => ?_⟩
  refine ⟨fun _ => ⟨i1, i2, c_widen hW hI (fun h1 C1 F1 => ⟨i1, i2, m_widen hW (hM.lo F1) (fun h2 M2 F2 => ⟨fun _ => nxt _ h2 (WS_widen hW hc) (C1.hi (WS_widen hW hc) F2) M2 (hD.step F1 F2), fun z => absurd rfl z⟩)⟩)⟩, fun _ => ?_⟩
  refine ⟨fun _ => ⟨i1, i2, i3, c_held hW hI (fun h1 C1 F1 => ⟨i1, i2, i3, m_held hW (hM.lo F1) (fun h2 M2 F2 => ⟨fun _ => nxt _ h2 (WS_held hW hc) (C1.hi (WS_held hW hc) F2) M2 (hD.step F1 F2), fun z => absurd rfl z⟩)⟩)⟩, fun _ => ?_⟩
  refine ⟨fun _ => ⟨i1, i2, c_begin hW hI (fun h1 C1 F1 => ⟨i1, i2, m_begin hW (hM.lo F1) (fun h2 M2 F2 => ⟨fun _ => nxt _ h2 (WS_begin hW hc) (C1.hi (WS_begin hW hc) F2) M2 (hD.step F1 F2), fun z => absurd rfl z⟩)⟩)⟩, fun _ => ?_⟩
  refine ⟨fun _ => ⟨i1, i2, i3, c_kind hW hI (fun h1 C1 F1 => ⟨i1, i2, i3, m_kind hW (hM.lo F1) (fun h2 M2 F2 => ⟨fun _ => nxt _ h2 (WS_kind hW hc) (C1.hi (WS_kind hW hc) F2) M2 (hD.step F1 F2), fun z => absurd rfl z⟩)⟩)⟩, fun _ => ?_⟩
  refine ⟨fun _ => ⟨i1, c_goal hW hI (fun h1 C1 F1 => ⟨i1, m_goal hW (hM.lo F1) (fun h2 M2 F2 => ⟨fun _ => nxt _ h2 (WS_goal hW hc) (C1.hi (WS_goal hW hc) F2) M2 (hD.step F1 F2), fun z => absurd rfl z⟩)⟩)⟩, fun _ => ?_⟩
  refine ⟨fun _ => ⟨i1, i2, i3, c_steady hW hI (fun h1 C1 F1 => ⟨i1, i2, i3, m_steady hW (hM.lo F1) (fun h2 M2 F2 => ⟨fun _ => nxt _ h2 (WS_steady hW hc) (C1.hi (WS_steady hW hc) F2) M2 (hD.step F1 F2), fun z => absurd rfl z⟩)⟩)⟩, fun _ => ?_⟩
  refine ⟨fun _ => ⟨i1, i2, c_rate hW hI (fun h1 C1 F1 => ⟨i1, i2, m_rate hW (hM.lo F1) (fun h2 M2 F2 => ⟨fun _ => nxt _ h2 (WS_rate hW hc) (C1.hi (WS_rate hW hc) F2) M2 (hD.step F1 F2), fun z => absurd rfl z⟩)⟩)⟩, fun _ => ?_⟩
  refine ⟨fun _ => ⟨i1, i2, i3, c_gain hW hI (fun h1 C1 F1 => ⟨i1, i2, i3, m_gain hW (hM.lo F1) (fun h2 M2 F2 => ⟨fun _ => nxt _ h2 (WS_gain hW hc) (C1.hi (WS_gain hW hc) F2) M2 (hD.step F1 F2), fun z => absurd rfl z⟩)⟩)⟩, fun _ => ?_⟩
  refine ⟨fun _ => ⟨i1, i2, i3, c_reach hW hI (fun h1 C1 F1 => ⟨i1, i2, i3, m_reach hW (hM.lo F1) (fun h2 M2 F2 => ⟨fun _ => nxt _ h2 (WS_reach hW hc) (C1.hi (WS_reach hW hc) F2) M2 (hD.step F1 F2), fun z => absurd rfl z⟩)⟩)⟩, fun _ => ?_⟩
  refine ⟨fun _ => ⟨i1, i2, c_feed hW hI (fun h1 C1 F1 => ⟨i1, i2, m_feed hW (hM.lo F1) (fun h2 M2 F2 => ⟨fun _ => nxt _ h2 (WS_feed hW hc) (C1.hi (WS_feed hW hc) F2) M2 (hD.step F1 F2), fun z => absurd rfl z⟩)⟩)⟩, fun _ => ?_⟩
  refine ⟨fun _ => c_wipe hW hI (fun h1 C1 F1 => m_wipe (hM.lo F1) (fun h2 M2 F2 => ⟨fun _ => nxt _ h2 ((WS_wipe hW).up (Nat.le_succ c) hc) (C1.hi ((WS_wipe hW).up (Nat.le_succ c) hc) F2) M2 (hD.step F1 F2), fun z => absurd rfl z⟩)), fun _ => ?_⟩
  refine ⟨fun _ => c_text hW hI (fun h1 C1 F1 => m_text hW (hM.lo F1) (hD.lo F1) (fun h2 M2 F2 => ⟨fun _ => nxt _ h2 (WS_text hW hc) (C1.hi (WS_text hW hc) F2) M2 (hD.step F1 F2), fun z => absurd rfl z⟩)), fun _ => ?_⟩
  refine ⟨fun _ => ⟨i1, i2, i3, c_sheet hW hI (fun h1 C1 F1 => ⟨i1, i2, i3, m_sheet (hM.lo F1) (fun h2 M2 F2 => ⟨fun _ => nxt _ h2 (WS_sheet hW hc) (C1.hi (WS_sheet hW hc) F2) M2 (hD.step F1 F2), fun z => absurd rfl z⟩)⟩)⟩, fun _ => ?_⟩
  refine ⟨fun _ => ⟨i1, i2, i3, i4, c_write hW hI (fun h1 C1 F1 => ⟨i1, i2, i3, i4, m_write hW (hM.lo F1) (fun h2 M2 F2 => ⟨fun _ => nxt _ h2 (WS_write hW hc) (C1.hi (WS_write hW hc) F2) M2 (hD.step F1 F2), fun z => absurd ((cmp_eq _ _).mpr rfl) z⟩)⟩)⟩, fun _ => ?_⟩
  refine ⟨fun _ => ⟨i1, i2, i3, i4, i5, c_copy hW hI (fun h1 C1 F1 => ⟨i1, i2, i3, i4, i5, m_copy hW (hM.lo F1) (fun h2 M2 F2 => ⟨fun _ => nxt _ h2 (WS_copy hW hc) (C1.hi (WS_copy hW hc) F2) M2 (hD.step F1 F2), fun z => absurd rfl z⟩)⟩)⟩, fun _ => ?_⟩
  refine ⟨fun _ => ⟨i1, c_lays hW hI (fun h1 C1 F1 => ⟨i1, m_lays hW (hM.lo F1) (fun h2 M2 F2 => ⟨fun _ => nxt _ h2 (WS_lays hW hc) (C1.hi (WS_lays hW hc) F2) M2 (hD.step F1 F2), fun z => absurd rfl z⟩)⟩)⟩, fun _ => ?_⟩
  refine ⟨fun _ => ⟨i1, i2, c_book hW hc hI (fun h1 C1 F1 => ⟨i1, i2, m_book hW (hM.lo F1) (fun h2 M2 F2 => ⟨fun _ => nxt _ h2 (WS_book hW hc) (C1.hi (WS_book hW hc) F2) M2 (hD.step F1 F2), fun z => absurd rfl z⟩)⟩)⟩, fun _ => ?_⟩
  refine ⟨fun _ => ⟨i1, i2, i3, c_replay hW hI (fun h1 C1 F1 => ⟨i1, i2, i3, m_replay hW (hM.lo F1) (fun h2 M2 F2 => ⟨fun _ => nxt _ h2 (WS_replay hW hc) (C1.hi (WS_replay hW hc) F2) M2 (hD.step F1 F2), fun z => absurd rfl z⟩)⟩)⟩, fun _ => ?_⟩
  refine ⟨fun _ => ⟨i1, i2, i3, c_run hW hI (fun h1 C1 F1 => ⟨i1, i2, i3, m_run hW (hM.lo F1) (fun h2 M2 F2 => ⟨fun _ => nxt _ h2 (WS_run hW hc) (C1.hi (WS_run hW hc) F2) M2 (hD.step F1 F2), fun z => absurd rfl z⟩)⟩)⟩, fun _ => ?_⟩
  refine ⟨fun _ => c_image hW hI (fun h1 C1 F1 => m_image hW (hM.lo F1) (fun h2 M2 F2 => ⟨fun _ => nxt _ h2 ((WS_K1 hW).up (Nat.le_succ c) hc) (C1.hi ((WS_K1 hW).up (Nat.le_succ c) hc) F2) M2 (hD.step F1 F2), fun z => absurd rfl z⟩)), fun _ => ?_⟩
  refine ⟨fun _ => c_undo hW hI (fun h1 C1 F1 => m_undo hW (hM.lo F1) (fun h2 M2 F2 => ⟨fun _ => nxt _ h2 (WS_undo hW hc) (C1.hi (WS_undo hW hc) F2) M2 (hD.step F1 F2), fun z => absurd rfl z⟩)), fun _ => ?_⟩
  refine ⟨fun _ => c_tear hW hI (fun h1 C1 F1 => m_tear hW (hM.lo F1) (fun h2 M2 F2 => ⟨fun _ => nxt _ h2 ((WS_K0 hW).up (Nat.le_succ c) hc) (C1.hi ((WS_K0 hW).up (Nat.le_succ c) hc) F2) M2 (hD.step F1 F2), fun z => absurd rfl z⟩)), fun _ => ?_⟩
  refine ⟨fun _ => ⟨i1, c_count hW hI (fun h1 C1 F1 => ⟨i1, m_count hW (hM.lo F1) (fun h2 M2 F2 => ⟨fun _ => nxt _ h2 (WS_count hW hc) (C1.hi (WS_count hW hc) F2) M2 (hD.step F1 F2), fun z => absurd rfl z⟩)⟩)⟩, fun _ => ?_⟩
  refine ⟨fun _ => ⟨i1, c_status hW hI (fun h1 C1 F1 => ⟨i1, m_status (hM.lo F1) (fun h2 M2 F2 => ⟨fun _ => nxt _ h2 (WS_status hW hc) (C1.hi (WS_status hW hc) F2) M2 (hD.step F1 F2), fun z => absurd rfl z⟩)⟩)⟩, fun _ => ?_⟩
  exact nxt σ h (hW.up (Nat.le_succ c) hc) hI hM hD
theorem law_loop {xL : Nat} {xs : Nat → Int32} {Q : Int32 → HP → Prop} (hL : xL ≤ 3072) (hQ : ∀ h', Q 1 h') : ∀ r c σ h, c + r = xL / 6 → WS c σ → CI σ h → MI σ h → WD h → f_L_law_L18 xL xs Q (r + 1) (nI (6 * c)) h := by
  intro r
  induction r with
  | zero =>
    intro c σ h hc hW hI hM hD
    unfold f_L_law_L18
    have ex : ((Int32.ofNat xL) - 6) < nI (6 * c) := by
      have e1 : ((nI xL) - nI 6).toInt = (xL : Int) - 6 := nI_subT (by omega) (by omega)
      rw [i32_lt]
      show (nI xL - nI 6).toInt < _
      rw [e1, nI_toInt (by omega)]
      omega
    exact ⟨fun _ => hQ h, fun z => absurd ex z⟩
  | succ r ih =>
    intro c σ h hc hW hI hM hD
    refine law_step hL (by omega) (by omega) hW hI hM hD (fun σ' h' W' I' M' D' x ex => ?_)
    rw [ex, lit 6, nI_add, show 6 * c + 6 = 6 * (c + 1) by omega]
    exact ih (c + 1) σ' h' (by omega) W' I' M' D'
theorem law_all {xL : Nat} {xs : Nat → Int32} {Q : Int32 → HP → Prop} (hL : xL ≤ 3072) (hQ : ∀ h', Q 1 h') (hW : WS 0 σ) (hI : CI σ h) (hM : MI σ h) (hD : WD h) : f_L_law xL xs h Q := ⟨_, law_loop hL hQ (xL / 6) 0 σ h (by omega) hW hI hM hD⟩
end Law
