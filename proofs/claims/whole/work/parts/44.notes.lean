/-! adding and dropping notes -/
theorem restR.of3 {M M' : Mem} (h : restR M) (e : ∀ a, a = 0 ∨ 26 ≤ a ∧ a ≤ 33 ∨ 35 ≤ a ∧ a ≤ 37 → M' a = M a) (e34 : ∀ j, j = 0 ∨ j = 1 ∨ j = 18 ∨ j = 19 → M' 34 j = M 34 j) : restR M' := by
  obtain ⟨h1, h2, h3, h4, h5⟩ := h
  refine ⟨fun k hk => (h1 k hk).of hk (fun a ha => e a (by omega)), ?_, ?_, ?_, ?_⟩
  · rw [e 0 (by decide), e34 1 (by decide)]; exact h2
  · rw [e 0 (by decide), e34 0 (by decide)]; exact h3
  · rw [e34 18 (by decide)]; exact h4
  · rw [e34 19 (by decide)]; exact h5
theorem drop_rng {n : Nat} (hn : n + 1 < 2147483648) (p : Int32) {A B : Prop} (a : (p < 0 ∨ nI (n + 1) ≤ p) → A) (b : ∀ j, j ≤ n → p = nI j → B) : (p < 0 → A) ∧ (¬ p < 0 → ((p ≤ nI n → B) ∧ (¬ p ≤ nI n → A))) := by
  refine ⟨fun h => a (Or.inl h), fun h => ⟨fun h2 => ?_, fun h2 => ?_⟩⟩
  · rw [fa_lt] at h
    rw [fa_le, nI_toInt (by omega)] at h2
    have e0 : ((0 : Int32)).toInt = 0 := rfl
    refine b p.toInt.toNat (by omega) ?_
    apply Int32.toInt_inj.mp
    rw [nI_toInt (by omega)]
    omega
  · rw [fa_lt] at h
    rw [fa_le, nI_toInt (by omega)] at h2
    refine a (Or.inr ?_)
    rw [fa_le, nI_toInt (by omega)]
    omega
def add_slip (S : AS) (n d g c : Nat) : AS := (setS (setS (setS (setS S 4 n d) 5 n g) 6 n c) 0 2 (n + 1))
theorem wf_slip {S : AS} {n d g c : Nat} (hw : wf S) (hn : n = S 0 2) (h8 : n < 8) (hd : d < 20) (hg : g < S 0 1) (hc : c < S 0 0) : wf (add_slip S n d g c) := by
  obtain ⟨⟨w1, w2, w3, w4, w5, w6⟩, v1, v2, v3, v4⟩ := hw
  have k0 : ∀ j, add_slip S n d g c 4 j = if j = n then d else S 4 j := fun _ => rfl
  have k1 : ∀ j, add_slip S n d g c 5 j = if j = n then g else S 5 j := fun _ => rfl
  have k2 : ∀ j, add_slip S n d g c 6 j = if j = n then c else S 6 j := fun _ => rfl
  refine ⟨⟨w1, w2, h8, w4, w5, w6⟩, v1, succ_all (fun j hj => ?_) ?_, v3, v4⟩
  · rw [k0, k1, k2, if_neg (Nat.ne_of_lt hj), if_neg (Nat.ne_of_lt hj), if_neg (Nat.ne_of_lt hj)]
    exact v2 j (hn ▸ hj)
  · rw [k0, k1, k2, if_pos rfl, if_pos rfl, if_pos rfl]
    exact ⟨hd, hg, hc⟩
theorem repC_slip {S : AS} {M M' : Mem} {n d g c : Nat} (hr : repC S M) (hn : n = S 0 2) (e0 : ∀ j, M' 6 j = if j = n then nI d else M 6 j) (e1 : ∀ j, M' 7 j = if j = n then nI g else M 7 j) (e2 : ∀ j, M' 8 j = if j = n then nI c else M 8 j) (es : M' 5 3 = nI (n + 1)) (eo : ∀ a, 1 ≤ a → a ≤ 17 → a ≠ 6 → a ≠ 7 → a ≠ 8 → a ≠ 5 → M' a = M a) : repC (add_slip S n d g c) M' := by
  obtain ⟨⟨r1, r2, r3, r4, r5⟩, v1, v2, v3, v4⟩ := hr
  have k0 : ∀ j, add_slip S n d g c 4 j = if j = n then d else S 4 j := fun _ => rfl
  have k1 : ∀ j, add_slip S n d g c 5 j = if j = n then g else S 5 j := fun _ => rfl
  have k2 : ∀ j, add_slip S n d g c 6 j = if j = n then c else S 6 j := fun _ => rfl
  unfold repC
  rw [eo 1 (by decide) (by decide) (by decide) (by decide) (by decide) (by decide), eo 2 (by decide) (by decide) (by decide) (by decide) (by decide) (by decide), eo 3 (by decide) (by decide) (by decide) (by decide) (by decide) (by decide), eo 4 (by decide) (by decide) (by decide) (by decide) (by decide) (by decide), eo 9 (by decide) (by decide) (by decide) (by decide) (by decide) (by decide), eo 10 (by decide) (by decide) (by decide) (by decide) (by decide) (by decide), eo 11 (by decide) (by decide) (by decide) (by decide) (by decide) (by decide), eo 12 (by decide) (by decide) (by decide) (by decide) (by decide) (by decide), eo 13 (by decide) (by decide) (by decide) (by decide) (by decide) (by decide), eo 14 (by decide) (by decide) (by decide) (by decide) (by decide) (by decide), eo 15 (by decide) (by decide) (by decide) (by decide) (by decide) (by decide), eo 16 (by decide) (by decide) (by decide) (by decide) (by decide) (by decide), eo 17 (by decide) (by decide) (by decide) (by decide) (by decide) (by decide)]
  refine ⟨⟨r1, r2, es, r4, r5⟩, v1, succ_all (fun j hj => ?_) ?_, v3, v4⟩
  · rw [k0, k1, k2, e0, e1, e2, if_neg (Nat.ne_of_lt hj), if_neg (Nat.ne_of_lt hj), if_neg (Nat.ne_of_lt hj), if_neg (Nat.ne_of_lt hj), if_neg (Nat.ne_of_lt hj), if_neg (Nat.ne_of_lt hj)]
    exact v2 j (hn ▸ hj)
  · rw [k0, k1, k2, e0, e1, e2, if_pos rfl, if_pos rfl, if_pos rfl, if_pos rfl, if_pos rfl, if_pos rfl]
    exact ⟨rfl, rfl, rfl⟩
theorem repM_slip {S : AS} {M M' : Mem} {n d g c : Nat} (hr : repM S M) (hn : n = S 0 2) (e0 : ∀ j, M' 41 j = if j = n then nI d else M 41 j) (e1 : ∀ j, M' 42 j = if j = n then nI g else M 42 j) (e2 : ∀ j, M' 43 j = if j = n then nI c else M 43 j) (es : M' 34 10 = nI (n + 1)) (ep : ∀ j, j ≠ 10 → 2 ≤ j → M' 34 j = M 34 j) (eo : ∀ a, 38 ≤ a → a ≠ 41 → a ≠ 42 → a ≠ 43 → M' a = M a) : repM (add_slip S n d g c) M' := by
  obtain ⟨⟨r1, r2, r3, r4, r5⟩, v1, v2, v3, v4⟩ := hr
  have k0 : ∀ j, add_slip S n d g c 4 j = if j = n then d else S 4 j := fun _ => rfl
  have k1 : ∀ j, add_slip S n d g c 5 j = if j = n then g else S 5 j := fun _ => rfl
  have k2 : ∀ j, add_slip S n d g c 6 j = if j = n then c else S 6 j := fun _ => rfl
  unfold repM
  rw [eo 38 (by decide) (by decide) (by decide) (by decide), eo 39 (by decide) (by decide) (by decide) (by decide), eo 40 (by decide) (by decide) (by decide) (by decide), eo 44 (by decide) (by decide) (by decide) (by decide), eo 45 (by decide) (by decide) (by decide) (by decide), eo 46 (by decide) (by decide) (by decide) (by decide), eo 52 (by decide) (by decide) (by decide) (by decide), eo 53 (by decide) (by decide) (by decide) (by decide), eo 54 (by decide) (by decide) (by decide) (by decide), eo 55 (by decide) (by decide) (by decide) (by decide), ep 6 (by decide) (by decide), ep 5 (by decide) (by decide), ep 14 (by decide) (by decide), ep 28 (by decide) (by decide)]
  refine ⟨⟨r1, r2, es, r4, r5⟩, v1, succ_all (fun j hj => ?_) ?_, v3, v4⟩
  · rw [k0, k1, k2, e0, e1, e2, if_neg (Nat.ne_of_lt hj), if_neg (Nat.ne_of_lt hj), if_neg (Nat.ne_of_lt hj), if_neg (Nat.ne_of_lt hj), if_neg (Nat.ne_of_lt hj), if_neg (Nat.ne_of_lt hj)]
    exact v2 j (hn ▸ hj)
  · rw [k0, k1, k2, e0, e1, e2, if_pos rfl, if_pos rfl, if_pos rfl, if_pos rfl, if_pos rfl, if_pos rfl]
    exact ⟨rfl, rfl, rfl⟩
theorem wfd_slip {S : AS} {m : Nat} (hw : wf S) (hle : m ≤ S 0 2) : wf (setS S 0 2 m) := by
  obtain ⟨⟨w1, w2, w3, w4, w5, w6⟩, v1, v2, v3, v4⟩ := hw
  exact ⟨⟨w1, w2, Nat.le_trans hle w3, w4, w5, w6⟩, v1, fun j hj => v2 j (Nat.lt_of_lt_of_le hj hle), v3, v4⟩
theorem repCd_slip {S : AS} {M M' : Mem} {m : Nat} (hr : repC S M) (hle : m ≤ S 0 2) (es : M' 5 3 = nI m) (eo : ∀ a, 1 ≤ a → a ≤ 17 → a ≠ 5 → M' a = M a) : repC (setS S 0 2 m) M' := by
  obtain ⟨⟨r1, r2, r3, r4, r5⟩, v1, v2, v3, v4⟩ := hr
  unfold repC
  rw [eo 1 (by decide) (by decide) (by decide), eo 2 (by decide) (by decide) (by decide), eo 3 (by decide) (by decide) (by decide), eo 4 (by decide) (by decide) (by decide), eo 6 (by decide) (by decide) (by decide), eo 7 (by decide) (by decide) (by decide), eo 8 (by decide) (by decide) (by decide), eo 9 (by decide) (by decide) (by decide), eo 10 (by decide) (by decide) (by decide), eo 11 (by decide) (by decide) (by decide), eo 12 (by decide) (by decide) (by decide), eo 13 (by decide) (by decide) (by decide), eo 14 (by decide) (by decide) (by decide), eo 15 (by decide) (by decide) (by decide), eo 16 (by decide) (by decide) (by decide), eo 17 (by decide) (by decide) (by decide)]
  exact ⟨⟨r1, r2, es, r4, r5⟩, v1, fun j hj => v2 j (Nat.lt_of_lt_of_le hj hle), v3, v4⟩
theorem repMd_slip {S : AS} {M M' : Mem} {m : Nat} (hr : repM S M) (hle : m ≤ S 0 2) (es : M' 34 10 = nI m) (ep : ∀ j, j ≠ 10 → 2 ≤ j → M' 34 j = M 34 j) (eo : ∀ a, 38 ≤ a → M' a = M a) : repM (setS S 0 2 m) M' := by
  obtain ⟨⟨r1, r2, r3, r4, r5⟩, v1, v2, v3, v4⟩ := hr
  unfold repM
  rw [eo 38 (by decide), eo 39 (by decide), eo 40 (by decide), eo 41 (by decide), eo 42 (by decide), eo 43 (by decide), eo 44 (by decide), eo 45 (by decide), eo 46 (by decide), eo 52 (by decide), eo 53 (by decide), eo 54 (by decide), eo 55 (by decide), ep 6 (by decide) (by decide), ep 5 (by decide) (by decide), ep 14 (by decide) (by decide), ep 28 (by decide) (by decide)]
  exact ⟨⟨r1, r2, es, r4, r5⟩, v1, fun j hj => v2 j (Nat.lt_of_lt_of_le hj hle), v3, v4⟩
theorem st_unsay {M : Mem} (hI : Inv M) (p1 : Int32) : StpI (wp_X5_unsay p1) (wp_X6_unsay p1) M := by
  intro post hp
  have hI0 := hI
  obtain ⟨⟨S, hw, hr, hm⟩, hs⟩ := hI
  have n1 := hw.1.2.2.1
  unfold wp_X5_unsay wp_X2_dropLast
  rw [hr.1.2.2.1]
  refine drop_rng (by omega) p1 (fun h => hp _ _ (fun post' hq => ?_)) (fun j hj z => ?_)
  · unfold wp_X6_unsay
    rw [hm.1.2.2.1]
    exact mWit_no (by omega) h (b0B (hq M hI0))
  · subst z
    intro M1 h1
    subst h1
    refine hp _ _ (fun post' hq => ?_)
    have hm1 : repM S (up2 M 5 3 (nI (S 0 2) - nI j)) := hm.of1 (fun i _ => by rw [up2_n _ _ _ (by decide)]) (fun a ha => up2_n _ _ _ (by omega))
    unfold wp_X6_unsay
    rw [hm1.1.2.2.1]
    refine mWit_yes (by omega) (by omega) (b1B (fun M3 h3 => ?_))
    subst h3
    rw [up2_s, upd_s, subI hj] at hq
    rw [hm1.1.2.2.1, up2_s, upd_s, subI hj]
    refine hq _ ⟨⟨setS S 0 2 (S 0 2 - j), wfd_slip hw (by omega), repCd_slip hr (by omega) ?_ (fun a h1 h2 h3 => ?_), repMd_slip hm (by omega) ?_ (fun i h1 h2 => ?_) (fun a h1 => ?_)⟩, ?_⟩
    · rw [up2_n _ _ _ (by decide), up2_s, upd_s]
    · rw [up2_n _ _ _ (by omega), up2_n _ _ _ (by omega)]
    · rw [up2_s, upd_s]
    · rw [up2_s, upd_n _ _ h1, up2_n _ _ _ (by decide)]
    · rw [up2_n _ _ _ (by omega), up2_n _ _ _ (by omega)]
    · refine hs.of3 (fun a ha => ?_) (fun i hi => ?_)
      · rw [up2_n _ _ _ (by omega), up2_n _ _ _ (by omega)]
      · rw [up2_s, upd_n _ _ (by omega), up2_n _ _ _ (by decide)]
def add_butter (S : AS) (n d g c : Nat) : AS := (setS (setS (setS (setS S 7 n d) 8 n g) 9 n c) 0 3 (n + 1))
theorem wf_butter {S : AS} {n d g c : Nat} (hw : wf S) (hn : n = S 0 3) (h8 : n < 8) (hd : d < 20) (hg : g < S 0 1) (hc : c < S 0 0) : wf (add_butter S n d g c) := by
  obtain ⟨⟨w1, w2, w3, w4, w5, w6⟩, v1, v2, v3, v4⟩ := hw
  have k0 : ∀ j, add_butter S n d g c 7 j = if j = n then d else S 7 j := fun _ => rfl
  have k1 : ∀ j, add_butter S n d g c 8 j = if j = n then g else S 8 j := fun _ => rfl
  have k2 : ∀ j, add_butter S n d g c 9 j = if j = n then c else S 9 j := fun _ => rfl
  refine ⟨⟨w1, w2, w3, h8, w5, w6⟩, v1, v2, succ_all (fun j hj => ?_) ?_, v4⟩
  · rw [k0, k1, k2, if_neg (Nat.ne_of_lt hj), if_neg (Nat.ne_of_lt hj), if_neg (Nat.ne_of_lt hj)]
    exact v3 j (hn ▸ hj)
  · rw [k0, k1, k2, if_pos rfl, if_pos rfl, if_pos rfl]
    exact ⟨hd, hg, hc⟩
theorem repC_butter {S : AS} {M M' : Mem} {n d g c : Nat} (hr : repC S M) (hn : n = S 0 3) (e0 : ∀ j, M' 10 j = if j = n then nI d else M 10 j) (e1 : ∀ j, M' 11 j = if j = n then nI g else M 11 j) (e2 : ∀ j, M' 12 j = if j = n then nI c else M 12 j) (es : M' 9 3 = nI (n + 1)) (eo : ∀ a, 1 ≤ a → a ≤ 17 → a ≠ 10 → a ≠ 11 → a ≠ 12 → a ≠ 9 → M' a = M a) : repC (add_butter S n d g c) M' := by
  obtain ⟨⟨r1, r2, r3, r4, r5⟩, v1, v2, v3, v4⟩ := hr
  have k0 : ∀ j, add_butter S n d g c 7 j = if j = n then d else S 7 j := fun _ => rfl
  have k1 : ∀ j, add_butter S n d g c 8 j = if j = n then g else S 8 j := fun _ => rfl
  have k2 : ∀ j, add_butter S n d g c 9 j = if j = n then c else S 9 j := fun _ => rfl
  unfold repC
  rw [eo 1 (by decide) (by decide) (by decide) (by decide) (by decide) (by decide), eo 2 (by decide) (by decide) (by decide) (by decide) (by decide) (by decide), eo 3 (by decide) (by decide) (by decide) (by decide) (by decide) (by decide), eo 4 (by decide) (by decide) (by decide) (by decide) (by decide) (by decide), eo 5 (by decide) (by decide) (by decide) (by decide) (by decide) (by decide), eo 6 (by decide) (by decide) (by decide) (by decide) (by decide) (by decide), eo 7 (by decide) (by decide) (by decide) (by decide) (by decide) (by decide), eo 8 (by decide) (by decide) (by decide) (by decide) (by decide) (by decide), eo 13 (by decide) (by decide) (by decide) (by decide) (by decide) (by decide), eo 14 (by decide) (by decide) (by decide) (by decide) (by decide) (by decide), eo 15 (by decide) (by decide) (by decide) (by decide) (by decide) (by decide), eo 16 (by decide) (by decide) (by decide) (by decide) (by decide) (by decide), eo 17 (by decide) (by decide) (by decide) (by decide) (by decide) (by decide)]
  refine ⟨⟨r1, r2, r3, es, r5⟩, v1, v2, succ_all (fun j hj => ?_) ?_, v4⟩
  · rw [k0, k1, k2, e0, e1, e2, if_neg (Nat.ne_of_lt hj), if_neg (Nat.ne_of_lt hj), if_neg (Nat.ne_of_lt hj), if_neg (Nat.ne_of_lt hj), if_neg (Nat.ne_of_lt hj), if_neg (Nat.ne_of_lt hj)]
    exact v3 j (hn ▸ hj)
  · rw [k0, k1, k2, e0, e1, e2, if_pos rfl, if_pos rfl, if_pos rfl, if_pos rfl, if_pos rfl, if_pos rfl]
    exact ⟨rfl, rfl, rfl⟩
theorem repM_butter {S : AS} {M M' : Mem} {n d g c : Nat} (hr : repM S M) (hn : n = S 0 3) (e0 : ∀ j, M' 44 j = if j = n then nI d else M 44 j) (e1 : ∀ j, M' 45 j = if j = n then nI g else M 45 j) (e2 : ∀ j, M' 46 j = if j = n then nI c else M 46 j) (es : M' 34 14 = nI (n + 1)) (ep : ∀ j, j ≠ 14 → 2 ≤ j → M' 34 j = M 34 j) (eo : ∀ a, 38 ≤ a → a ≠ 44 → a ≠ 45 → a ≠ 46 → M' a = M a) : repM (add_butter S n d g c) M' := by
  obtain ⟨⟨r1, r2, r3, r4, r5⟩, v1, v2, v3, v4⟩ := hr
  have k0 : ∀ j, add_butter S n d g c 7 j = if j = n then d else S 7 j := fun _ => rfl
  have k1 : ∀ j, add_butter S n d g c 8 j = if j = n then g else S 8 j := fun _ => rfl
  have k2 : ∀ j, add_butter S n d g c 9 j = if j = n then c else S 9 j := fun _ => rfl
  unfold repM
  rw [eo 38 (by decide) (by decide) (by decide) (by decide), eo 39 (by decide) (by decide) (by decide) (by decide), eo 40 (by decide) (by decide) (by decide) (by decide), eo 41 (by decide) (by decide) (by decide) (by decide), eo 42 (by decide) (by decide) (by decide) (by decide), eo 43 (by decide) (by decide) (by decide) (by decide), eo 52 (by decide) (by decide) (by decide) (by decide), eo 53 (by decide) (by decide) (by decide) (by decide), eo 54 (by decide) (by decide) (by decide) (by decide), eo 55 (by decide) (by decide) (by decide) (by decide), ep 6 (by decide) (by decide), ep 5 (by decide) (by decide), ep 10 (by decide) (by decide), ep 28 (by decide) (by decide)]
  refine ⟨⟨r1, r2, r3, es, r5⟩, v1, v2, succ_all (fun j hj => ?_) ?_, v4⟩
  · rw [k0, k1, k2, e0, e1, e2, if_neg (Nat.ne_of_lt hj), if_neg (Nat.ne_of_lt hj), if_neg (Nat.ne_of_lt hj), if_neg (Nat.ne_of_lt hj), if_neg (Nat.ne_of_lt hj), if_neg (Nat.ne_of_lt hj)]
    exact v3 j (hn ▸ hj)
  · rw [k0, k1, k2, e0, e1, e2, if_pos rfl, if_pos rfl, if_pos rfl, if_pos rfl, if_pos rfl, if_pos rfl]
    exact ⟨rfl, rfl, rfl⟩
theorem wfd_butter {S : AS} {m : Nat} (hw : wf S) (hle : m ≤ S 0 3) : wf (setS S 0 3 m) := by
  obtain ⟨⟨w1, w2, w3, w4, w5, w6⟩, v1, v2, v3, v4⟩ := hw
  exact ⟨⟨w1, w2, w3, Nat.le_trans hle w4, w5, w6⟩, v1, v2, fun j hj => v3 j (Nat.lt_of_lt_of_le hj hle), v4⟩
theorem repCd_butter {S : AS} {M M' : Mem} {m : Nat} (hr : repC S M) (hle : m ≤ S 0 3) (es : M' 9 3 = nI m) (eo : ∀ a, 1 ≤ a → a ≤ 17 → a ≠ 9 → M' a = M a) : repC (setS S 0 3 m) M' := by
  obtain ⟨⟨r1, r2, r3, r4, r5⟩, v1, v2, v3, v4⟩ := hr
  unfold repC
  rw [eo 1 (by decide) (by decide) (by decide), eo 2 (by decide) (by decide) (by decide), eo 3 (by decide) (by decide) (by decide), eo 4 (by decide) (by decide) (by decide), eo 5 (by decide) (by decide) (by decide), eo 6 (by decide) (by decide) (by decide), eo 7 (by decide) (by decide) (by decide), eo 8 (by decide) (by decide) (by decide), eo 10 (by decide) (by decide) (by decide), eo 11 (by decide) (by decide) (by decide), eo 12 (by decide) (by decide) (by decide), eo 13 (by decide) (by decide) (by decide), eo 14 (by decide) (by decide) (by decide), eo 15 (by decide) (by decide) (by decide), eo 16 (by decide) (by decide) (by decide), eo 17 (by decide) (by decide) (by decide)]
  exact ⟨⟨r1, r2, r3, es, r5⟩, v1, v2, fun j hj => v3 j (Nat.lt_of_lt_of_le hj hle), v4⟩
theorem repMd_butter {S : AS} {M M' : Mem} {m : Nat} (hr : repM S M) (hle : m ≤ S 0 3) (es : M' 34 14 = nI m) (ep : ∀ j, j ≠ 14 → 2 ≤ j → M' 34 j = M 34 j) (eo : ∀ a, 38 ≤ a → M' a = M a) : repM (setS S 0 3 m) M' := by
  obtain ⟨⟨r1, r2, r3, r4, r5⟩, v1, v2, v3, v4⟩ := hr
  unfold repM
  rw [eo 38 (by decide), eo 39 (by decide), eo 40 (by decide), eo 41 (by decide), eo 42 (by decide), eo 43 (by decide), eo 44 (by decide), eo 45 (by decide), eo 46 (by decide), eo 52 (by decide), eo 53 (by decide), eo 54 (by decide), eo 55 (by decide), ep 6 (by decide) (by decide), ep 5 (by decide) (by decide), ep 10 (by decide) (by decide), ep 28 (by decide) (by decide)]
  exact ⟨⟨r1, r2, r3, es, r5⟩, v1, v2, fun j hj => v3 j (Nat.lt_of_lt_of_le hj hle), v4⟩
theorem st_melt {M : Mem} (hI : Inv M) (p1 : Int32) : StpI (wp_X5_melt p1) (wp_X6_melt p1) M := by
  intro post hp
  have hI0 := hI
  obtain ⟨⟨S, hw, hr, hm⟩, hs⟩ := hI
  have n1 := hw.1.2.2.2.1
  unfold wp_X5_melt wp_X2_dropLast
  rw [hr.1.2.2.2.1]
  refine drop_rng (by omega) p1 (fun h => hp _ _ (fun post' hq => ?_)) (fun j hj z => ?_)
  · unfold wp_X6_melt
    rw [hm.1.2.2.2.1]
    exact mWit_no (by omega) h (b0B (hq M hI0))
  · subst z
    intro M1 h1
    subst h1
    refine hp _ _ (fun post' hq => ?_)
    have hm1 : repM S (up2 M 9 3 (nI (S 0 3) - nI j)) := hm.of1 (fun i _ => by rw [up2_n _ _ _ (by decide)]) (fun a ha => up2_n _ _ _ (by omega))
    unfold wp_X6_melt
    rw [hm1.1.2.2.2.1]
    refine mWit_yes (by omega) (by omega) (b1B (fun M3 h3 => ?_))
    subst h3
    rw [up2_s, upd_s, subI hj] at hq
    rw [hm1.1.2.2.2.1, up2_s, upd_s, subI hj]
    refine hq _ ⟨⟨setS S 0 3 (S 0 3 - j), wfd_butter hw (by omega), repCd_butter hr (by omega) ?_ (fun a h1 h2 h3 => ?_), repMd_butter hm (by omega) ?_ (fun i h1 h2 => ?_) (fun a h1 => ?_)⟩, ?_⟩
    · rw [up2_n _ _ _ (by decide), up2_s, upd_s]
    · rw [up2_n _ _ _ (by omega), up2_n _ _ _ (by omega)]
    · rw [up2_s, upd_s]
    · rw [up2_s, upd_n _ _ h1, up2_n _ _ _ (by decide)]
    · rw [up2_n _ _ _ (by omega), up2_n _ _ _ (by omega)]
    · refine hs.of3 (fun a ha => ?_) (fun i hi => ?_)
      · rw [up2_n _ _ _ (by omega), up2_n _ _ _ (by omega)]
      · rw [up2_s, upd_n _ _ (by omega), up2_n _ _ _ (by decide)]
def add_reading (S : AS) (n d g c b : Nat) : AS := (setS (setS (setS (setS (setS S 10 n d) 11 n g) 12 n c) 13 n b) 0 4 (n + 1))
theorem wf_reading {S : AS} {n d g c b : Nat} (hw : wf S) (hn : n = S 0 4) (h8 : n < 8) (hd : d < 20) (hg : g < S 0 1) (hc : c < S 0 0) (hb : b ≤ 1) : wf (add_reading S n d g c b) := by
  obtain ⟨⟨w1, w2, w3, w4, w5, w6⟩, v1, v2, v3, v4⟩ := hw
  have k0 : ∀ j, add_reading S n d g c b 10 j = if j = n then d else S 10 j := fun _ => rfl
  have k1 : ∀ j, add_reading S n d g c b 11 j = if j = n then g else S 11 j := fun _ => rfl
  have k2 : ∀ j, add_reading S n d g c b 12 j = if j = n then c else S 12 j := fun _ => rfl
  have k3 : ∀ j, add_reading S n d g c b 13 j = if j = n then b else S 13 j := fun _ => rfl
  refine ⟨⟨w1, w2, w3, w4, h8, w6⟩, v1, v2, v3, succ_all (fun j hj => ?_) ?_⟩
  · rw [k0, k1, k2, k3, if_neg (Nat.ne_of_lt hj), if_neg (Nat.ne_of_lt hj), if_neg (Nat.ne_of_lt hj), if_neg (Nat.ne_of_lt hj)]
    exact v4 j (hn ▸ hj)
  · rw [k0, k1, k2, k3, if_pos rfl, if_pos rfl, if_pos rfl, if_pos rfl]
    exact ⟨hd, hg, hc, hb⟩
theorem repC_reading {S : AS} {M M' : Mem} {n d g c b : Nat} (hr : repC S M) (hn : n = S 0 4) (e0 : ∀ j, M' 14 j = if j = n then nI d else M 14 j) (e1 : ∀ j, M' 15 j = if j = n then nI g else M 15 j) (e2 : ∀ j, M' 16 j = if j = n then nI c else M 16 j) (e3 : ∀ j, M' 17 j = if j = n then nI b else M 17 j) (es : M' 13 3 = nI (n + 1)) (eo : ∀ a, 1 ≤ a → a ≤ 17 → a ≠ 14 → a ≠ 15 → a ≠ 16 → a ≠ 17 → a ≠ 13 → M' a = M a) : repC (add_reading S n d g c b) M' := by
  obtain ⟨⟨r1, r2, r3, r4, r5⟩, v1, v2, v3, v4⟩ := hr
  have k0 : ∀ j, add_reading S n d g c b 10 j = if j = n then d else S 10 j := fun _ => rfl
  have k1 : ∀ j, add_reading S n d g c b 11 j = if j = n then g else S 11 j := fun _ => rfl
  have k2 : ∀ j, add_reading S n d g c b 12 j = if j = n then c else S 12 j := fun _ => rfl
  have k3 : ∀ j, add_reading S n d g c b 13 j = if j = n then b else S 13 j := fun _ => rfl
  unfold repC
  rw [eo 1 (by decide) (by decide) (by decide) (by decide) (by decide) (by decide) (by decide), eo 2 (by decide) (by decide) (by decide) (by decide) (by decide) (by decide) (by decide), eo 3 (by decide) (by decide) (by decide) (by decide) (by decide) (by decide) (by decide), eo 4 (by decide) (by decide) (by decide) (by decide) (by decide) (by decide) (by decide), eo 5 (by decide) (by decide) (by decide) (by decide) (by decide) (by decide) (by decide), eo 6 (by decide) (by decide) (by decide) (by decide) (by decide) (by decide) (by decide), eo 7 (by decide) (by decide) (by decide) (by decide) (by decide) (by decide) (by decide), eo 8 (by decide) (by decide) (by decide) (by decide) (by decide) (by decide) (by decide), eo 9 (by decide) (by decide) (by decide) (by decide) (by decide) (by decide) (by decide), eo 10 (by decide) (by decide) (by decide) (by decide) (by decide) (by decide) (by decide), eo 11 (by decide) (by decide) (by decide) (by decide) (by decide) (by decide) (by decide), eo 12 (by decide) (by decide) (by decide) (by decide) (by decide) (by decide) (by decide)]
  refine ⟨⟨r1, r2, r3, r4, es⟩, v1, v2, v3, succ_all (fun j hj => ?_) ?_⟩
  · rw [k0, k1, k2, k3, e0, e1, e2, e3, if_neg (Nat.ne_of_lt hj), if_neg (Nat.ne_of_lt hj), if_neg (Nat.ne_of_lt hj), if_neg (Nat.ne_of_lt hj), if_neg (Nat.ne_of_lt hj), if_neg (Nat.ne_of_lt hj), if_neg (Nat.ne_of_lt hj), if_neg (Nat.ne_of_lt hj)]
    exact v4 j (hn ▸ hj)
  · rw [k0, k1, k2, k3, e0, e1, e2, e3, if_pos rfl, if_pos rfl, if_pos rfl, if_pos rfl, if_pos rfl, if_pos rfl, if_pos rfl, if_pos rfl]
    exact ⟨rfl, rfl, rfl, rfl⟩
theorem repM_reading {S : AS} {M M' : Mem} {n d g c b : Nat} (hr : repM S M) (hn : n = S 0 4) (e0 : ∀ j, M' 52 j = if j = n then nI d else M 52 j) (e1 : ∀ j, M' 54 j = if j = n then nI g else M 54 j) (e2 : ∀ j, M' 53 j = if j = n then nI c else M 53 j) (e3 : ∀ j, M' 55 j = if j = n then nI b else M 55 j) (es : M' 34 28 = nI (n + 1)) (ep : ∀ j, j ≠ 28 → 2 ≤ j → M' 34 j = M 34 j) (eo : ∀ a, 38 ≤ a → a ≠ 52 → a ≠ 54 → a ≠ 53 → a ≠ 55 → M' a = M a) : repM (add_reading S n d g c b) M' := by
  obtain ⟨⟨r1, r2, r3, r4, r5⟩, v1, v2, v3, v4⟩ := hr
  have k0 : ∀ j, add_reading S n d g c b 10 j = if j = n then d else S 10 j := fun _ => rfl
  have k1 : ∀ j, add_reading S n d g c b 11 j = if j = n then g else S 11 j := fun _ => rfl
  have k2 : ∀ j, add_reading S n d g c b 12 j = if j = n then c else S 12 j := fun _ => rfl
  have k3 : ∀ j, add_reading S n d g c b 13 j = if j = n then b else S 13 j := fun _ => rfl
  unfold repM
  rw [eo 38 (by decide) (by decide) (by decide) (by decide) (by decide), eo 39 (by decide) (by decide) (by decide) (by decide) (by decide), eo 40 (by decide) (by decide) (by decide) (by decide) (by decide), eo 41 (by decide) (by decide) (by decide) (by decide) (by decide), eo 42 (by decide) (by decide) (by decide) (by decide) (by decide), eo 43 (by decide) (by decide) (by decide) (by decide) (by decide), eo 44 (by decide) (by decide) (by decide) (by decide) (by decide), eo 45 (by decide) (by decide) (by decide) (by decide) (by decide), eo 46 (by decide) (by decide) (by decide) (by decide) (by decide), ep 6 (by decide) (by decide), ep 5 (by decide) (by decide), ep 10 (by decide) (by decide), ep 14 (by decide) (by decide)]
  refine ⟨⟨r1, r2, r3, r4, es⟩, v1, v2, v3, succ_all (fun j hj => ?_) ?_⟩
  · rw [k0, k1, k2, k3, e0, e1, e2, e3, if_neg (Nat.ne_of_lt hj), if_neg (Nat.ne_of_lt hj), if_neg (Nat.ne_of_lt hj), if_neg (Nat.ne_of_lt hj), if_neg (Nat.ne_of_lt hj), if_neg (Nat.ne_of_lt hj), if_neg (Nat.ne_of_lt hj), if_neg (Nat.ne_of_lt hj)]
    exact v4 j (hn ▸ hj)
  · rw [k0, k1, k2, k3, e0, e1, e2, e3, if_pos rfl, if_pos rfl, if_pos rfl, if_pos rfl, if_pos rfl, if_pos rfl, if_pos rfl, if_pos rfl]
    exact ⟨rfl, rfl, rfl, rfl⟩
theorem wfd_reading {S : AS} {m : Nat} (hw : wf S) (hle : m ≤ S 0 4) : wf (setS S 0 4 m) := by
  obtain ⟨⟨w1, w2, w3, w4, w5, w6⟩, v1, v2, v3, v4⟩ := hw
  exact ⟨⟨w1, w2, w3, w4, Nat.le_trans hle w5, w6⟩, v1, v2, v3, fun j hj => v4 j (Nat.lt_of_lt_of_le hj hle)⟩
theorem repCd_reading {S : AS} {M M' : Mem} {m : Nat} (hr : repC S M) (hle : m ≤ S 0 4) (es : M' 13 3 = nI m) (eo : ∀ a, 1 ≤ a → a ≤ 17 → a ≠ 13 → M' a = M a) : repC (setS S 0 4 m) M' := by
  obtain ⟨⟨r1, r2, r3, r4, r5⟩, v1, v2, v3, v4⟩ := hr
  unfold repC
  rw [eo 1 (by decide) (by decide) (by decide), eo 2 (by decide) (by decide) (by decide), eo 3 (by decide) (by decide) (by decide), eo 4 (by decide) (by decide) (by decide), eo 5 (by decide) (by decide) (by decide), eo 6 (by decide) (by decide) (by decide), eo 7 (by decide) (by decide) (by decide), eo 8 (by decide) (by decide) (by decide), eo 9 (by decide) (by decide) (by decide), eo 10 (by decide) (by decide) (by decide), eo 11 (by decide) (by decide) (by decide), eo 12 (by decide) (by decide) (by decide), eo 14 (by decide) (by decide) (by decide), eo 15 (by decide) (by decide) (by decide), eo 16 (by decide) (by decide) (by decide), eo 17 (by decide) (by decide) (by decide)]
  exact ⟨⟨r1, r2, r3, r4, es⟩, v1, v2, v3, fun j hj => v4 j (Nat.lt_of_lt_of_le hj hle)⟩
theorem repMd_reading {S : AS} {M M' : Mem} {m : Nat} (hr : repM S M) (hle : m ≤ S 0 4) (es : M' 34 28 = nI m) (ep : ∀ j, j ≠ 28 → 2 ≤ j → M' 34 j = M 34 j) (eo : ∀ a, 38 ≤ a → M' a = M a) : repM (setS S 0 4 m) M' := by
  obtain ⟨⟨r1, r2, r3, r4, r5⟩, v1, v2, v3, v4⟩ := hr
  unfold repM
  rw [eo 38 (by decide), eo 39 (by decide), eo 40 (by decide), eo 41 (by decide), eo 42 (by decide), eo 43 (by decide), eo 44 (by decide), eo 45 (by decide), eo 46 (by decide), eo 52 (by decide), eo 53 (by decide), eo 54 (by decide), eo 55 (by decide), ep 6 (by decide) (by decide), ep 5 (by decide) (by decide), ep 10 (by decide) (by decide), ep 14 (by decide) (by decide)]
  exact ⟨⟨r1, r2, r3, r4, es⟩, v1, v2, v3, fun j hj => v4 j (Nat.lt_of_lt_of_le hj hle)⟩
theorem st_back {M : Mem} (hI : Inv M) (p1 : Int32) : StpI (wp_X5_back p1) (wp_X6_back p1) M := by
  intro post hp
  have hI0 := hI
  obtain ⟨⟨S, hw, hr, hm⟩, hs⟩ := hI
  have n1 := hw.1.2.2.2.2.1
  unfold wp_X5_back wp_X2_dropLast
  rw [hr.1.2.2.2.2]
  refine drop_rng (by omega) p1 (fun h => hp _ _ (fun post' hq => ?_)) (fun j hj z => ?_)
  · unfold wp_X6_back
    rw [hm.1.2.2.2.2]
    exact mWit_no (by omega) h (b0B (hq M hI0))
  · subst z
    intro M1 h1
    subst h1
    refine hp _ _ (fun post' hq => ?_)
    have hm1 : repM S (up2 M 13 3 (nI (S 0 4) - nI j)) := hm.of1 (fun i _ => by rw [up2_n _ _ _ (by decide)]) (fun a ha => up2_n _ _ _ (by omega))
    unfold wp_X6_back
    rw [hm1.1.2.2.2.2]
    refine mWit_yes (by omega) (by omega) (b1B (fun M3 h3 => ?_))
    subst h3
    rw [up2_s, upd_s, subI hj] at hq
    rw [hm1.1.2.2.2.2, up2_s, upd_s, subI hj]
    refine hq _ ⟨⟨setS S 0 4 (S 0 4 - j), wfd_reading hw (by omega), repCd_reading hr (by omega) ?_ (fun a h1 h2 h3 => ?_), repMd_reading hm (by omega) ?_ (fun i h1 h2 => ?_) (fun a h1 => ?_)⟩, ?_⟩
    · rw [up2_n _ _ _ (by decide), up2_s, upd_s]
    · rw [up2_n _ _ _ (by omega), up2_n _ _ _ (by omega)]
    · rw [up2_s, upd_s]
    · rw [up2_s, upd_n _ _ h1, up2_n _ _ _ (by decide)]
    · rw [up2_n _ _ _ (by omega), up2_n _ _ _ (by omega)]
    · refine hs.of3 (fun a ha => ?_) (fun i hi => ?_)
      · rw [up2_n _ _ _ (by omega), up2_n _ _ _ (by omega)]
      · rw [up2_s, upd_n _ _ (by omega), up2_n _ _ _ (by decide)]
theorem sub1I (n : Nat) : nI (n + 1) - 1 = nI n := by
  rw [show (1 : Int32) = nI 1 from rfl, subI (by omega)]
  rfl
theorem add_full {c0 n : Nat} {M : Mem} {p1 p2 p3 : Int32} {post : Int32 → Mem → Prop} (h : M c0 3 = nI n) (h8 : n = 8) (hp : post (-4) M) : wp_X2_add c0 p1 p2 p3 M post := by
  unfold wp_X2_add
  rw [h, h8]
  exact ⟨fun z => absurd z (by decide), fun _ => hp⟩
theorem add_ok {c0 n : Nat} {M : Mem} {p1 p2 p3 : Int32} {post : Int32 → Mem → Prop} (h : M c0 3 = nI n) (h8 : n < 8) (hp : post (nI n) (up2 (up2 (up2 (up2 M (c0 + 1) n p1) (c0 + 2) n p2) (c0 + 3) n p3) c0 3 (nI (n + 1)))) : wp_X2_add c0 p1 p2 p3 M post := by
  unfold wp_X2_add
  have hi : vp_in (nI n) 8 := inI h8 (by decide)
  have hc := cl (show n < 2147483648 by omega)
  have x1 : c0 ≠ c0 + 1 := by omega
  have x2 : c0 ≠ c0 + 2 := by omega
  have x3 : c0 ≠ c0 + 3 := by omega
  rw [h]
  refine ⟨fun _ => ⟨hi, fun M1 z1 => ?_⟩, fun z => absurd ((ltI (b := 8) (by omega) (by decide)).mpr h8) z⟩
  subst z1
  rw [hc, up2_n _ _ _ x1, h]
  refine ⟨hi, fun M2 z2 => ?_⟩
  subst z2
  rw [hc, up2_n _ _ _ x2, up2_n _ _ _ x1, h]
  refine ⟨hi, fun M3 z3 M4 z4 => ?_⟩
  subst z3
  rw [hc, up2_n _ _ _ x3, up2_n _ _ _ x2, up2_n _ _ _ x1, h, addI1] at z4
  subst z4
  rw [up2_s, upd_s, sub1I]
  exact hp
theorem inv_slip {M : Mem} {S : AS} (hw : wf S) (hr : repC S M) (hm : repM S M) (hs : restR M) {n d g c : Nat} (hn : n = S 0 2) (h8 : n < 8) (hd : d < 20) (hg : g < S 0 1) (hc : c < S 0 0) : Inv (up2 (up2 (up2 (up2 (up2 (up2 (up2 (up2 M 6 n (nI d)) 7 n (nI g)) 8 n (nI c)) 5 3 (nI (n + 1))) 41 n (nI d)) 42 n (nI g)) 43 n (nI c)) 34 10 (nI (n + 1))) := by
  refine ⟨⟨add_slip S n d g c, wf_slip hw hn h8 hd hg hc, repC_slip hr hn (fun _ => rfl) (fun _ => rfl) (fun _ => rfl) rfl (fun a x0 x1 x2 x3 x4 x5 => ?_), repM_slip hm hn (fun _ => rfl) (fun _ => rfl) (fun _ => rfl) rfl (fun j x1 x2 => ?_) (fun a x0 x1 x2 x3 => ?_)⟩, hs.of3 (fun a ha => ?_) (fun j hj => ?_)⟩
  · rw [up2_n _ _ _ (by omega), up2_n _ _ _ (by omega), up2_n _ _ _ (by omega), up2_n _ _ _ (by omega), up2_n _ _ _ (by omega), up2_n _ _ _ (by omega), up2_n _ _ _ (by omega), up2_n _ _ _ (by omega)]
  · rw [up2_s, upd_n _ _ x1]; rfl
  · rw [up2_n _ _ _ (by omega), up2_n _ _ _ (by omega), up2_n _ _ _ (by omega), up2_n _ _ _ (by omega), up2_n _ _ _ (by omega), up2_n _ _ _ (by omega), up2_n _ _ _ (by omega), up2_n _ _ _ (by omega)]
  · rw [up2_n _ _ _ (by omega), up2_n _ _ _ (by omega), up2_n _ _ _ (by omega), up2_n _ _ _ (by omega), up2_n _ _ _ (by omega), up2_n _ _ _ (by omega), up2_n _ _ _ (by omega), up2_n _ _ _ (by omega)]
  · rw [up2_s, upd_n _ _ (by omega)]; rfl
theorem st_slip {M : Mem} (hI : Inv M) (p1 p2 p3 : Int32) : StpI (wp_X5_slip p1 p2 p3) (wp_X6_slip p1 p2 p3) M := by
  intro post hp
  have hI0 := hI
  obtain ⟨⟨S, hw, hr, hm⟩, hs⟩ := hI
  have n1 := hw.1.1
  have n2 := hw.1.2.1
  have n8 := hw.1.2.2.1
  unfold wp_X5_slip wp_X5_noteDown
  rcases ixI p2 (S 0 1) (by omega) with h1 | ⟨g, hg, rfl⟩
  · exact cGuest_no hr h1 (b0A (hp _ _ (fun post' hq => mGuest_no hm h1 (b0A (hq M hI0)))))
  refine cGuest_yes hr hw hg (b1A ?_)
  rcases ixI p3 (S 0 0) (by omega) with h2 | ⟨c, hc, rfl⟩
  · exact cChair_no hr h2 (b0B (hp _ _ (fun post' hq => mGuest_yes hm hw hg (b1A (mChair_no hm h2 (b0B (hq M hI0)))))))
  refine cChair_yes hr hw hc (b1B ?_)
  rcases ixI p1 20 (by omega) with h3 | ⟨d, hd, rfl⟩
  · exact cDin_no h3 (b0B (hp _ _ (fun post' hq => mGuest_yes hm hw hg (b1A (mChair_yes hm hw hc (b1B (mDin_no h3 (b0B (hq M hI0)))))))))
  refine cDin_yes hd (b1B ?_)
  by_cases h8 : S 0 2 = 8
  · refine add_full hr.1.2.2.1 h8 (hp _ _ (fun post' hq => mGuest_yes hm hw hg (b1A (mChair_yes hm hw hc (b1B (mDin_yes hd (b1B ?_)))))))
    rw [hm.1.2.2.1, h8]
    exact ⟨fun z => absurd rfl z, fun _ => hq M hI0⟩
  refine add_ok hr.1.2.2.1 (by omega) (hp _ _ (fun post' hq => ?_))
  obtain ⟨n, hn⟩ : ∃ n, n = S 0 2 := ⟨_, rfl⟩
  rw [← hn] at n8 h8 hq ⊢
  have hf := hq _ (inv_slip hw hr hm hs hn (by omega) hd hg hc)
  have hm1 : repM S (up2 (up2 (up2 (up2 M 6 n (nI d)) 7 n (nI g)) 8 n (nI c)) 5 3 (nI (n + 1))) := hm.of1 (fun _ _ => rfl) (fun a ha => by rw [up2_n _ _ _ (by omega), up2_n _ _ _ (by omega), up2_n _ _ _ (by omega), up2_n _ _ _ (by omega)])
  have e0 : (up2 (up2 (up2 (up2 M 6 n (nI d)) 7 n (nI g)) 8 n (nI c)) 5 3 (nI (n + 1))) 34 10 = nI n := by rw [hm1.1.2.2.1, hn]
  refine mGuest_yes hm1 hw hg (b1A (mChair_yes hm1 hw hc (b1B (mDin_yes hd (b1B ?_)))))
  generalize (up2 (up2 (up2 (up2 M 6 n (nI d)) 7 n (nI g)) 8 n (nI c)) 5 3 (nI (n + 1))) = C at e0 hf ⊢
  have hi : vp_in (nI n) 8 := inI (by omega) (by decide)
  have hcl := cl (show n < 2147483648 by omega)
  simp only [e0, hcl]
  refine ⟨fun _ => ⟨hi, fun M7 z7 => ?_⟩, fun z => absurd ((eqI (b := 8) (by omega) (by decide)).mp z) (by omega)⟩
  subst z7
  simp only [up2_n _ _ _ (show (34 : Nat) ≠ 41 by decide), up2_n _ _ _ (show (34 : Nat) ≠ 42 by decide), up2_n _ _ _ (show (34 : Nat) ≠ 43 by decide), e0, hcl]
  refine ⟨hi, fun M8 z8 => ?_⟩
  subst z8
  simp only [up2_n _ _ _ (show (34 : Nat) ≠ 41 by decide), up2_n _ _ _ (show (34 : Nat) ≠ 42 by decide), up2_n _ _ _ (show (34 : Nat) ≠ 43 by decide), e0, hcl]
  refine ⟨hi, fun M9 z9 => ?_⟩
  subst z9
  intro ML zL
  simp only [up2_n _ _ _ (show (34 : Nat) ≠ 41 by decide), up2_n _ _ _ (show (34 : Nat) ≠ 42 by decide), up2_n _ _ _ (show (34 : Nat) ≠ 43 by decide), e0, hcl, addI1] at zL
  subst zL
  rw [up2_s, upd_s, sub1I]
  exact hf
theorem inv_butter {M : Mem} {S : AS} (hw : wf S) (hr : repC S M) (hm : repM S M) (hs : restR M) {n d g c : Nat} (hn : n = S 0 3) (h8 : n < 8) (hd : d < 20) (hg : g < S 0 1) (hc : c < S 0 0) : Inv (up2 (up2 (up2 (up2 (up2 (up2 (up2 (up2 M 10 n (nI d)) 11 n (nI g)) 12 n (nI c)) 9 3 (nI (n + 1))) 44 n (nI d)) 45 n (nI g)) 46 n (nI c)) 34 14 (nI (n + 1))) := by
  refine ⟨⟨add_butter S n d g c, wf_butter hw hn h8 hd hg hc, repC_butter hr hn (fun _ => rfl) (fun _ => rfl) (fun _ => rfl) rfl (fun a x0 x1 x2 x3 x4 x5 => ?_), repM_butter hm hn (fun _ => rfl) (fun _ => rfl) (fun _ => rfl) rfl (fun j x1 x2 => ?_) (fun a x0 x1 x2 x3 => ?_)⟩, hs.of3 (fun a ha => ?_) (fun j hj => ?_)⟩
  · rw [up2_n _ _ _ (by omega), up2_n _ _ _ (by omega), up2_n _ _ _ (by omega), up2_n _ _ _ (by omega), up2_n _ _ _ (by omega), up2_n _ _ _ (by omega), up2_n _ _ _ (by omega), up2_n _ _ _ (by omega)]
  · rw [up2_s, upd_n _ _ x1]; rfl
  · rw [up2_n _ _ _ (by omega), up2_n _ _ _ (by omega), up2_n _ _ _ (by omega), up2_n _ _ _ (by omega), up2_n _ _ _ (by omega), up2_n _ _ _ (by omega), up2_n _ _ _ (by omega), up2_n _ _ _ (by omega)]
  · rw [up2_n _ _ _ (by omega), up2_n _ _ _ (by omega), up2_n _ _ _ (by omega), up2_n _ _ _ (by omega), up2_n _ _ _ (by omega), up2_n _ _ _ (by omega), up2_n _ _ _ (by omega), up2_n _ _ _ (by omega)]
  · rw [up2_s, upd_n _ _ (by omega)]; rfl
theorem st_butter {M : Mem} (hI : Inv M) (p1 p2 p3 : Int32) : StpI (wp_X5_butter p1 p2 p3) (wp_X6_butter p1 p2 p3) M := by
  intro post hp
  have hI0 := hI
  obtain ⟨⟨S, hw, hr, hm⟩, hs⟩ := hI
  have n1 := hw.1.1
  have n2 := hw.1.2.1
  have n8 := hw.1.2.2.2.1
  unfold wp_X5_butter wp_X5_noteDown
  rcases ixI p2 (S 0 1) (by omega) with h1 | ⟨g, hg, rfl⟩
  · exact cGuest_no hr h1 (b0A (hp _ _ (fun post' hq => mGuest_no hm h1 (b0A (hq M hI0)))))
  refine cGuest_yes hr hw hg (b1A ?_)
  rcases ixI p3 (S 0 0) (by omega) with h2 | ⟨c, hc, rfl⟩
  · exact cChair_no hr h2 (b0B (hp _ _ (fun post' hq => mGuest_yes hm hw hg (b1A (mChair_no hm h2 (b0B (hq M hI0)))))))
  refine cChair_yes hr hw hc (b1B ?_)
  rcases ixI p1 20 (by omega) with h3 | ⟨d, hd, rfl⟩
  · exact cDin_no h3 (b0B (hp _ _ (fun post' hq => mGuest_yes hm hw hg (b1A (mChair_yes hm hw hc (b1B (mDin_no h3 (b0B (hq M hI0)))))))))
  refine cDin_yes hd (b1B ?_)
  by_cases h8 : S 0 3 = 8
  · refine add_full hr.1.2.2.2.1 h8 (hp _ _ (fun post' hq => mGuest_yes hm hw hg (b1A (mChair_yes hm hw hc (b1B (mDin_yes hd (b1B ?_)))))))
    rw [hm.1.2.2.2.1, h8]
    exact ⟨fun z => absurd rfl z, fun _ => hq M hI0⟩
  refine add_ok hr.1.2.2.2.1 (by omega) (hp _ _ (fun post' hq => ?_))
  obtain ⟨n, hn⟩ : ∃ n, n = S 0 3 := ⟨_, rfl⟩
  rw [← hn] at n8 h8 hq ⊢
  have hf := hq _ (inv_butter hw hr hm hs hn (by omega) hd hg hc)
  have hm1 : repM S (up2 (up2 (up2 (up2 M 10 n (nI d)) 11 n (nI g)) 12 n (nI c)) 9 3 (nI (n + 1))) := hm.of1 (fun _ _ => rfl) (fun a ha => by rw [up2_n _ _ _ (by omega), up2_n _ _ _ (by omega), up2_n _ _ _ (by omega), up2_n _ _ _ (by omega)])
  have e0 : (up2 (up2 (up2 (up2 M 10 n (nI d)) 11 n (nI g)) 12 n (nI c)) 9 3 (nI (n + 1))) 34 14 = nI n := by rw [hm1.1.2.2.2.1, hn]
  refine mGuest_yes hm1 hw hg (b1A (mChair_yes hm1 hw hc (b1B (mDin_yes hd (b1B ?_)))))
  generalize (up2 (up2 (up2 (up2 M 10 n (nI d)) 11 n (nI g)) 12 n (nI c)) 9 3 (nI (n + 1))) = C at e0 hf ⊢
  have hi : vp_in (nI n) 8 := inI (by omega) (by decide)
  have hcl := cl (show n < 2147483648 by omega)
  simp only [e0, hcl]
  refine ⟨fun _ => ⟨hi, fun M7 z7 => ?_⟩, fun z => absurd ((eqI (b := 8) (by omega) (by decide)).mp z) (by omega)⟩
  subst z7
  simp only [up2_n _ _ _ (show (34 : Nat) ≠ 44 by decide), up2_n _ _ _ (show (34 : Nat) ≠ 45 by decide), up2_n _ _ _ (show (34 : Nat) ≠ 46 by decide), e0, hcl]
  refine ⟨hi, fun M8 z8 => ?_⟩
  subst z8
  simp only [up2_n _ _ _ (show (34 : Nat) ≠ 44 by decide), up2_n _ _ _ (show (34 : Nat) ≠ 45 by decide), up2_n _ _ _ (show (34 : Nat) ≠ 46 by decide), e0, hcl]
  refine ⟨hi, fun M9 z9 => ?_⟩
  subst z9
  intro ML zL
  simp only [up2_n _ _ _ (show (34 : Nat) ≠ 44 by decide), up2_n _ _ _ (show (34 : Nat) ≠ 45 by decide), up2_n _ _ _ (show (34 : Nat) ≠ 46 by decide), e0, hcl, addI1] at zL
  subst zL
  rw [up2_s, upd_s, sub1I]
  exact hf
theorem inv_reading {M : Mem} {S : AS} (hw : wf S) (hr : repC S M) (hm : repM S M) (hs : restR M) {n d g c b : Nat} (hn : n = S 0 4) (h8 : n < 8) (hd : d < 20) (hg : g < S 0 1) (hc : c < S 0 0) (hb : b ≤ 1) : Inv (up2 (up2 (up2 (up2 (up2 (up2 (up2 (up2 (up2 (up2 M 14 n (nI d)) 15 n (nI g)) 16 n (nI c)) 13 3 (nI (n + 1))) 17 n (nI b)) 52 n (nI d)) 53 n (nI c)) 54 n (nI g)) 55 n (nI b)) 34 28 (nI (n + 1))) := by
  refine ⟨⟨add_reading S n d g c b, wf_reading hw hn h8 hd hg hc hb, repC_reading hr hn (fun _ => rfl) (fun _ => rfl) (fun _ => rfl) (fun _ => rfl) rfl (fun a x0 x1 x2 x3 x4 x5 x6 => ?_), repM_reading hm hn (fun _ => rfl) (fun _ => rfl) (fun _ => rfl) (fun _ => rfl) rfl (fun j x1 x2 => ?_) (fun a x0 x1 x2 x3 x4 => ?_)⟩, hs.of3 (fun a ha => ?_) (fun j hj => ?_)⟩
  · rw [up2_n _ _ _ (by omega), up2_n _ _ _ (by omega), up2_n _ _ _ (by omega), up2_n _ _ _ (by omega), up2_n _ _ _ (by omega), up2_n _ _ _ (by omega), up2_n _ _ _ (by omega), up2_n _ _ _ (by omega), up2_n _ _ _ (by omega), up2_n _ _ _ (by omega)]
  · rw [up2_s, upd_n _ _ x1]; rfl
  · rw [up2_n _ _ _ (by omega), up2_n _ _ _ (by omega), up2_n _ _ _ (by omega), up2_n _ _ _ (by omega), up2_n _ _ _ (by omega), up2_n _ _ _ (by omega), up2_n _ _ _ (by omega), up2_n _ _ _ (by omega), up2_n _ _ _ (by omega), up2_n _ _ _ (by omega)]
  · rw [up2_n _ _ _ (by omega), up2_n _ _ _ (by omega), up2_n _ _ _ (by omega), up2_n _ _ _ (by omega), up2_n _ _ _ (by omega), up2_n _ _ _ (by omega), up2_n _ _ _ (by omega), up2_n _ _ _ (by omega), up2_n _ _ _ (by omega), up2_n _ _ _ (by omega)]
  · rw [up2_s, upd_n _ _ (by omega)]; rfl
theorem st_reading {M : Mem} (hI : Inv M) (p1 p2 p3 : Int32) (q : Bool) : StpI (wp_X5_reading p1 p2 p3 (b2i q)) (wp_X6_reading p1 p2 p3 (b2i q)) M := by
  intro post hp
  have hI0 := hI
  obtain ⟨⟨S, hw, hr, hm⟩, hs⟩ := hI
  have n1 := hw.1.1
  have n2 := hw.1.2.1
  have n8 := hw.1.2.2.2.2.1
  unfold wp_X5_reading wp_X5_noteDown
  rcases ixI p3 (S 0 1) (by omega) with h1 | ⟨g, hg, rfl⟩
  · refine cGuest_no hr h1 (b0A (hasN_no hr.1.2.2.2.2 (Or.inl (by decide)) (b0A (hp _ _ (fun post' hq => ?_)))))
    rcases ixI p2 (S 0 0) (by omega) with h2 | ⟨c, hc, rfl⟩
    · exact mChair_no hm h2 (b0A (hq M hI0))
    · exact mChair_yes hm hw hc (b1A (mGuest_no hm h1 (b0B (hq M hI0))))
  refine cGuest_yes hr hw hg (b1A ?_)
  rcases ixI p2 (S 0 0) (by omega) with h2 | ⟨c, hc, rfl⟩
  · exact cChair_no hr h2 (b0B (hasN_no hr.1.2.2.2.2 (Or.inl (by decide)) (b0A (hp _ _ (fun post' hq => mChair_no hm h2 (b0A (hq M hI0)))))))
  refine cChair_yes hr hw hc (b1B ?_)
  rcases ixI p1 20 (by omega) with h3 | ⟨d, hd, rfl⟩
  · exact cDin_no h3 (b0B (hasN_no hr.1.2.2.2.2 (Or.inl (by decide)) (b0A (hp _ _ (fun post' hq => mChair_yes hm hw hc (b1A (mGuest_yes hm hw hg (b1B (mDin_no h3 (b0B (hq M hI0)))))))))))
  refine cDin_yes hd (b1B ?_)
  by_cases h8 : S 0 4 = 8
  · refine add_full hr.1.2.2.2.2 h8 (hasN_no hr.1.2.2.2.2 (Or.inl (by decide)) (b0A (hp _ _ (fun post' hq => mChair_yes hm hw hc (b1A (mGuest_yes hm hw hg (b1B (mDin_yes hd (b1B ?_)))))))))
    rw [hm.1.2.2.2.2, h8]
    exact ⟨fun z => absurd rfl z, fun _ => hq M hI0⟩
  obtain ⟨n, hn⟩ : ∃ n, n = S 0 4 := ⟨_, rfl⟩
  refine add_ok (hr.1.2.2.2.2.trans (by rw [hn])) (by omega) (hasN_yes (n := n + 1) rfl (by omega) (by omega) (b1A ⟨inI (by omega) (by decide), fun M5 z5 => ?_⟩))
  obtain ⟨b, hb, eb⟩ : ∃ b, b ≤ 1 ∧ b2i q = nI b := by cases q; exact ⟨0, by decide, rfl⟩; exact ⟨1, by decide, rfl⟩
  have nb : vp_nar .boolean (nI b) = nI b := by rw [← eb]; cases q <;> rfl
  rw [eb] at hp z5
  rw [nb, cl (show n < 2147483648 by omega)] at z5
  subst z5
  refine hp _ _ (fun post' hq => ?_)
  have hf := hq _ (inv_reading (b := b) hw hr hm hs hn (by omega) hd hg hc hb)
  have hm1 : repM S (up2 (up2 (up2 (up2 (up2 M 14 n (nI d)) 15 n (nI g)) 16 n (nI c)) 13 3 (nI (n + 1))) 17 n (nI b)) := hm.of1 (fun _ _ => rfl) (fun a ha => by rw [up2_n _ _ _ (by omega), up2_n _ _ _ (by omega), up2_n _ _ _ (by omega), up2_n _ _ _ (by omega), up2_n _ _ _ (by omega)])
  have e0 : (up2 (up2 (up2 (up2 (up2 M 14 n (nI d)) 15 n (nI g)) 16 n (nI c)) 13 3 (nI (n + 1))) 17 n (nI b)) 34 28 = nI n := by rw [hm1.1.2.2.2.2, hn]
  refine mChair_yes hm1 hw hc (b1A (mGuest_yes hm1 hw hg (b1B (mDin_yes hd (b1B ?_)))))
  rw [nb]
  generalize (up2 (up2 (up2 (up2 (up2 M 14 n (nI d)) 15 n (nI g)) 16 n (nI c)) 13 3 (nI (n + 1))) 17 n (nI b)) = C at e0 hf ⊢
  have hi : vp_in (nI n) 8 := inI (by omega) (by decide)
  have hcl := cl (show n < 2147483648 by omega)
  simp only [e0, hcl]
  refine ⟨fun _ => ⟨hi, fun M7 z7 => ?_⟩, fun z => absurd ((eqI (b := 8) (by omega) (by decide)).mp z) (by omega)⟩
  subst z7
  simp only [up2_n _ _ _ (show (34 : Nat) ≠ 52 by decide), up2_n _ _ _ (show (34 : Nat) ≠ 53 by decide), up2_n _ _ _ (show (34 : Nat) ≠ 54 by decide), up2_n _ _ _ (show (34 : Nat) ≠ 55 by decide), e0, hcl]
  refine ⟨hi, fun M8 z8 => ?_⟩
  subst z8
  simp only [up2_n _ _ _ (show (34 : Nat) ≠ 52 by decide), up2_n _ _ _ (show (34 : Nat) ≠ 53 by decide), up2_n _ _ _ (show (34 : Nat) ≠ 54 by decide), up2_n _ _ _ (show (34 : Nat) ≠ 55 by decide), e0, hcl]
  refine ⟨hi, fun M9 z9 => ?_⟩
  subst z9
  simp only [up2_n _ _ _ (show (34 : Nat) ≠ 52 by decide), up2_n _ _ _ (show (34 : Nat) ≠ 53 by decide), up2_n _ _ _ (show (34 : Nat) ≠ 54 by decide), up2_n _ _ _ (show (34 : Nat) ≠ 55 by decide), e0, hcl]
  refine ⟨hi, fun M10 z10 => ?_⟩
  subst z10
  intro ML zL
  simp only [up2_n _ _ _ (show (34 : Nat) ≠ 52 by decide), up2_n _ _ _ (show (34 : Nat) ≠ 53 by decide), up2_n _ _ _ (show (34 : Nat) ≠ 54 by decide), up2_n _ _ _ (show (34 : Nat) ≠ 55 by decide), e0, hcl, addI1] at zL
  subst zL
  rw [up2_s, upd_s, sub1I]
  exact hf
