/-! the law's loop -/
theorem law_cmp {L k : Nat} (hL : L ≤ 384) (hk : 6 * k ≤ L) : (Int32.ofNat L) - 6 < nI (6 * k) ↔ L < 6 * k + 6 := by
  rw [fa_lt, show (Int32.ofNat L) - 6 = nI L - nI 6 from rfl, pk_sub_toInt (by omega) (by decide), nI_toInt (by omega)]
  omega
theorem law_loop {b L : Nat} {xs : Nat → Int32} (hL : L ≤ 384) : ∀ (m k : Nat) (M : Mem), 6 * k ≤ L → L < 6 * (k + m) + 6 → Inv M → lp_L_law_18 b L xs (fun r _ => r = 1) (m + 1) (nI (6 * k)) M := by
  intro m
  induction m with
  | zero =>
    intro k M hk hm hI
    exact ⟨fun _ => rfl, fun y => absurd ((law_cmp hL hk).mpr (by omega)) y⟩
  | succ m ihm =>
    intro k M hk hm hI
    refine ⟨fun _ => rfl, fun y => ?_⟩
    have hk6 : 6 * k + 6 ≤ L := by
      by_cases z : L < 6 * k + 6
      · exact absurd ((law_cmp hL hk).mpr z) y
      · omega
    have ih : ∀ M', Inv M' → lp_L_law_18 b L xs (fun r _ => r = 1) (m + 1) (nI (6 * k) + 6) M' := by
      intro M' hI'
      have := ihm (k + 1) M' (by omega) (by omega) hI'
      rw [show 6 * (k + 1) = 6 * k + 6 by omega] at this
      rw [show nI (6 * k) + 6 = nI (6 * k + 6) from addN (6 * k) 6]
      exact this
    have h0 : vp_in (nI (6 * k)) L := inI (by omega) (by omega)
    have h1 : vp_in (nI (6 * k) + 1) L := by rw [show nI (6 * k) + 1 = nI (6 * k + 1) from addN (6 * k) 1]; exact inI (by omega) (by omega)
    have h2 : vp_in (nI (6 * k) + 2) L := by rw [show nI (6 * k) + 2 = nI (6 * k + 2) from addN (6 * k) 2]; exact inI (by omega) (by omega)
    have h3 : vp_in (nI (6 * k) + 3) L := by rw [show nI (6 * k) + 3 = nI (6 * k + 3) from addN (6 * k) 3]; exact inI (by omega) (by omega)
    have h4 : vp_in (nI (6 * k) + 4) L := by rw [show nI (6 * k) + 4 = nI (6 * k + 4) from addN (6 * k) 4]; exact inI (by omega) (by omega)
    have h5 : vp_in (nI (6 * k) + 5) L := by rw [show nI (6 * k) + 5 = nI (6 * k + 5) from addN (6 * k) 5]; exact inI (by omega) (by omega)
    clear ihm
    exact ⟨h0, fun _ => ⟨h1, h2, h3, h4, st_hall hI _ _ _ _ _ (fun r M1 hm => ⟨h1, h2, h3, h4, hm _ (fun M2 hI2 => ⟨fun _ => ih M2 hI2, fun y => absurd rfl y⟩)⟩)⟩,
      fun _ => ⟨h1, h2, st_ofChair hI _ _ _ (fun r M1 hm => ⟨h1, h2, hm _ (fun M2 hI2 => ⟨fun _ => ih M2 hI2, fun y => absurd rfl y⟩)⟩)⟩,
      fun _ => ⟨h1, h2, h3, st_slip hI _ _ _ _ (fun r M1 hm => ⟨h1, h2, h3, hm _ (fun M2 hI2 => ⟨fun _ => ih M2 hI2, fun y => absurd rfl y⟩)⟩)⟩,
      fun _ => ⟨h1, h2, st_ofSlip hI _ _ _ (fun r M1 hm => ⟨h1, h2, hm _ (fun M2 hI2 => ⟨fun _ => ih M2 hI2, fun y => absurd rfl y⟩)⟩)⟩,
      fun _ => ⟨h1, st_unsay hI _ _ (fun r M1 hm => ⟨h1, hm _ (fun M2 hI2 => ⟨fun _ => ih M2 hI2, fun y => absurd rfl y⟩)⟩)⟩,
      fun _ => ⟨h1, h2, h3, st_butter hI _ _ _ _ (fun r M1 hm => ⟨h1, h2, h3, hm _ (fun M2 hI2 => ⟨fun _ => ih M2 hI2, fun y => absurd rfl y⟩)⟩)⟩,
      fun _ => ⟨h1, st_melt hI _ _ (fun r M1 hm => ⟨h1, hm _ (fun M2 hI2 => ⟨fun _ => ih M2 hI2, fun y => absurd rfl y⟩)⟩)⟩,
      fun _ => ⟨h1, h2, h3, st_bears hI _ _ _ _ (fun r M1 hm => ⟨h1, h2, h3, hm _ (fun M2 hI2 => ⟨fun _ => ih M2 hI2, fun y => absurd rfl y⟩)⟩)⟩,
      fun _ => ⟨h1, h2, st_whom hI _ _ _ (fun r M1 hm => ⟨h1, h2, hm _ (fun M2 hI2 => ⟨fun _ => ih M2 hI2, fun y => absurd rfl y⟩)⟩)⟩,
      fun _ => ⟨h1, h2, st_seats hI _ _ _ (fun r M1 hm => ⟨h1, h2, hm _ (fun M2 hI2 => ⟨fun _ => ih M2 hI2, fun y => absurd rfl y⟩)⟩)⟩,
      fun _ => ⟨h1, st_few hI _ _ (fun r M1 hm => ⟨h1, hm _ (fun M2 hI2 => ⟨fun _ => ih M2 hI2, fun y => absurd rfl y⟩)⟩)⟩,
      fun _ => ⟨h1, h2, h3, h4, h5, st_tipped hI _ _ _ _ _ _ (fun r M1 hm => ⟨h1, h2, h3, h4, h5, hm _ (fun M2 hI2 => ⟨fun _ => ih M2 hI2, fun y => absurd rfl y⟩)⟩)⟩,
      fun _ => ⟨h1, h2, st_least hI _ _ _ (fun r M1 hm => ⟨h1, h2, hm _ (fun M2 hI2 => ⟨fun _ => ih M2 hI2, fun y => absurd rfl y⟩)⟩)⟩,
      fun _ => ⟨h1, st_when hI _ _ (fun r M1 hm => ⟨h1, hm _ (fun M2 hI2 => ⟨fun _ => ih M2 hI2, fun y => absurd rfl y⟩)⟩)⟩,
      fun _ => ⟨h1, h2, st_fresh hI _ _ _ (fun r M1 hm => ⟨h1, h2, hm _ (fun M2 hI2 => ⟨fun _ => ih M2 hI2, fun y => absurd rfl y⟩)⟩)⟩,
      fun _ => ⟨h1, h2, h3, h4, fun y => st_reading hI _ _ _ false _ (fun r M1 hm => ⟨h1, h2, h3, h4, fun _ => hm _ (fun M2 hI2 => ⟨fun _ => ih M2 hI2, fun y => absurd rfl y⟩), fun z => absurd y z⟩), fun y => st_reading hI _ _ _ true _ (fun r M1 hm => ⟨h1, h2, h3, h4, fun z => absurd z y, fun _ => hm _ (fun M2 hI2 => ⟨fun _ => ih M2 hI2, fun y => absurd rfl y⟩)⟩)⟩,
      fun _ => ⟨h1, st_back hI _ _ (fun r M1 hm => ⟨h1, hm _ (fun M2 hI2 => ⟨fun _ => ih M2 hI2, fun y => absurd rfl y⟩)⟩)⟩,
      fun _ => ⟨h1, st_times hI _ _ (fun r M1 hm => ⟨h1, hm _ (fun M2 hI2 => ⟨fun _ => ih M2 hI2, fun y => absurd rfl y⟩)⟩)⟩,
      fun _ => ⟨h1, st_grudges hI _ _ (fun r M1 hm => ⟨h1, hm _ (fun M2 hI2 => ⟨fun _ => ih M2 hI2, fun y => absurd rfl y⟩)⟩)⟩,
      fun _ => ⟨h1, st_ears hI _ _ (fun r M1 hm => ⟨h1, hm _ (fun M2 hI2 => ⟨fun _ => ih M2 hI2, fun y => absurd rfl y⟩)⟩)⟩,
      fun _ => ⟨h1, st_kinds hI _ _ (fun r M1 hm => ⟨h1, hm _ (fun M2 hI2 => ⟨fun _ => ih M2 hI2, fun y => absurd rfl y⟩)⟩)⟩,
      fun _ => ⟨h1, h2, st_odds hI _ _ _ (fun r M1 hm => ⟨h1, h2, hm _ (fun M2 hI2 => ⟨fun _ => ih M2 hI2, fun y => absurd ((lg_cmp_eq _ _).mpr rfl) y⟩)⟩)⟩,
      fun _ => ⟨h1, h2, h3, st_sheet hI _ _ _ _ (fun r M1 hm => ⟨h1, h2, h3, hm _ (fun M2 hI2 => ⟨fun _ => ih M2 hI2, fun y => absurd rfl y⟩)⟩)⟩,
      fun _ => ⟨h1, st_lose hI _ _ (fun r M1 hm => ⟨h1, hm _ (fun M2 hI2 => ⟨fun _ => ih M2 hI2, fun y => absurd rfl y⟩)⟩)⟩,
      fun _ => ⟨h1, h2, h3, st_put hI _ _ _ _ (fun r M1 hm => ⟨h1, h2, h3, hm _ (fun M2 hI2 => ⟨fun _ => ih M2 hI2, fun y => absurd rfl y⟩)⟩)⟩,
      fun _ => ⟨h1, h2, h3, st_cell hI _ _ _ _ (fun r M1 hm => ⟨h1, h2, h3, hm _ (fun M2 hI2 => ⟨fun _ => ih M2 hI2, fun y => absurd ((lg_cmp_eq _ _).mpr rfl) y⟩)⟩)⟩,
      fun _ => ⟨h1, h2, h3, h4, h5, st_copy hI _ _ _ _ _ _ (fun r M1 hm => ⟨h1, h2, h3, h4, h5, hm _ (fun M2 hI2 => ⟨fun _ => ih M2 hI2, fun y => absurd rfl y⟩)⟩)⟩,
      fun _ => ⟨h1, st_tell hI _ _ (fun r M1 hm => ⟨h1, hm _ (fun M2 hI2 => ⟨fun _ => ih M2 hI2, fun y => absurd rfl y⟩)⟩)⟩,
      fun _ => ⟨h1, st_creak hI _ _ (fun r M1 hm => ⟨h1, hm _ (fun M2 hI2 => ⟨fun _ => ih M2 hI2, fun y => absurd rfl y⟩)⟩)⟩,
      fun _ => ⟨h1, h2, st_as hI _ _ _ (fun r M1 hm => ⟨h1, h2, hm _ (fun M2 hI2 => ⟨fun _ => ih M2 hI2, fun y => absurd rfl y⟩)⟩)⟩,
      fun _ => st_trace hI _ (fun r M1 hm => hm _ (fun M2 hI2 => ⟨fun _ => ih M2 hI2, fun y => absurd rfl y⟩)),
      fun _ => st_fault hI _ (fun r M1 hm => hm _ (fun M2 hI2 => ⟨fun _ => ih M2 hI2, fun y => absurd rfl y⟩)),
      fun _ => ⟨h1, st_many hI _ _ (fun r M1 hm => ⟨h1, hm _ (fun M2 hI2 => ⟨fun _ => ih M2 hI2, fun y => absurd rfl y⟩)⟩)⟩,
      fun _ => ih M hI⟩
