/-! sheets: lose, put, cell, sheet -/
section Sh
variable {M : Mem} {post : Int32 → Mem → Prop}
theorem cSh_no {p : Int32} (h : p < 0 ∨ nI 4 ≤ p) (hp : post 0 M) : wp_X5_isSheet p M post := rng_no h hp
theorem cSh_yes {k : Nat} (h : k < 4) (hp : post 1 M) : wp_X5_isSheet (nI k) M post := rng_yes h (by decide) hp
theorem cLn_no {p : Int32} (h : p < 0 ∨ nI 3 ≤ p) (hp : post 0 M) : wp_X5_isLane p M post := rng_no h hp
theorem cLn_yes {k : Nat} (h : k < 3) (hp : post 1 M) : wp_X5_isLane (nI k) M post := rng_yes h (by decide) hp
theorem mSh_no {p : Int32} (h : p < 0 ∨ nI 4 ≤ p) (hp : post 0 M) : wp_X6_isSheet p M post := mWit_no (n := 3) (by decide) h ⟨rfl, hp⟩
theorem mSh_yes {k : Nat} (h : k < 4) (hp : post 1 M) : wp_X6_isSheet (nI k) M post := mWit_yes (n := 3) (by decide) h ⟨rfl, hp⟩
theorem mLn_no {p : Int32} (h : p < 0 ∨ nI 3 ≤ p) (hp : post 0 M) : wp_X6_isSort p M post := mWit_no (n := 2) (by decide) h ⟨rfl, hp⟩
theorem mLn_yes {k : Nat} (h : k < 3) (hp : post 1 M) : wp_X6_isSort (nI k) M post := mWit_yes (n := 2) (by decide) h ⟨rfl, hp⟩
theorem emp_no {c : Nat} (h : ¬ M c 2 = -1) (hp : post 0 M) : wp_X4_isEmpty c M post := ⟨fun _ => hp, fun z => absurd z h⟩
theorem emp_yes {c : Nat} (h : M c 2 = -1) (hp : post 1 M) : wp_X4_isEmpty c M post := ⟨fun z => absurd h z, fun _ => hp⟩
end Sh
theorem sheetR.of2 {M M' : Mem} {k : Nat} (h : sheetR M k) (e1 : M' 35 k = M 35 k) (e2 : M' 36 k = M 36 k) (e3 : M' (26 + k) = M (26 + k)) (e4 : M' (30 + k) = M (30 + k)) (e5 : ∀ j, j < 60 → M' 37 (60 * k + j) = M 37 (60 * k + j)) : sheetR M' k := by
  unfold sheetR at *
  rw [e1, e2, e3, e4]
  rcases h with h | ⟨ln, len, h1, h2, h3, h4, h5, h6, h7⟩
  · exact Or.inl h
  · exact Or.inr ⟨ln, len, h1, h2, h3, h4, h5, h6, fun j hj => by rw [e5 j hj]; exact h7 j hj⟩
theorem Pre.sh {M M' : Mem} (h : Pre M) {k : Nat} (hk : k < 4) (e : ∀ a, a ≠ 26 + k → a ≠ 30 + k → a ≠ 35 → a ≠ 36 → a ≠ 37 → a ≠ 0 → a ≠ 34 → M' a = M a) (e34 : ∀ j, 1 ≤ j → M' 34 j = M 34 j) (t : M' 0 8 = M 0 8) (e35 : ∀ j, j ≠ k → M' 35 j = M 35 j) (e36 : ∀ j, j ≠ k → M' 36 j = M 36 j) (e37 : ∀ j, j < 60 * k ∨ 60 * k + 60 ≤ j → M' 37 j = M 37 j) (hs : sheetR M' k) : Pre M' := by
  refine h.of2 (fun a ha => e a (by omega) (by omega) (by omega) (by omega) (by omega) (by omega) (by omega)) (fun j hj => e34 j (by omega)) (by rw [t, e34 1 (by decide)]; exact h.2.2.1) (fun k' hk' => ?_)
  by_cases z : k' = k
  · rw [z]; exact hs
  · exact (h.2.1 k' hk').of2 (e35 k' z) (e36 k' z) (e _ (by omega) (by omega) (by omega) (by omega) (by omega) (by omega) (by omega)) (e _ (by omega) (by omega) (by omega) (by omega) (by omega) (by omega) (by omega)) (fun j hj => e37 _ (by omega))
theorem st_lose {M : Mem} (hI : Inv M) (p1 : Int32) : StpI (wp_X5_lose p1) (wp_X6_lose p1) M := by
  intro post hp
  unfold wp_X5_lose
  rcases ixI p1 4 (by omega) with h1 | ⟨k, hk, rfl⟩
  · exact cSh_no h1 (b0B (hp _ _ (fun post' hq => mSh_no h1 (b0B (hq M hI)))))
  have hi : vp_in (nI k) 4 := inI hk (by decide)
  refine cSh_yes hk (b1B ⟨hi, ?_⟩)
  have e := cl (show k < 2147483648 by omega)
  rw [e]
  have fin : Inv (up2 (up2 M (26 + k) 2 (-1)) 35 k (-9)) := by
    refine Pre.inv (hI.pre.sh hk (fun a x1 x2 x3 x4 x5 x6 x7 => ?_) (fun j hj => ?_) ?_ (fun j hj => ?_) (fun j hj => ?_) (fun j hj => ?_) (Or.inl ⟨?_, ?_⟩)) ?_
    · rw [up2_n _ _ _ x3, up2_n _ _ _ x1]
    · rw [up2_n _ _ _ (by decide), up2_n _ _ _ (by omega)]
    · rw [up2_n _ _ _ (by decide), up2_n _ _ _ (by omega)]
    · rw [up2_s, upd_n _ _ hj, up2_n _ _ _ (by omega)]
    · rw [up2_n _ _ _ (by decide), up2_n _ _ _ (by omega)]
    · rw [up2_n _ _ _ (by decide), up2_n _ _ _ (by omega)]
    · rw [up2_s, upd_s]
    · rw [up2_n _ _ _ (by omega), up2_s, upd_s]
    · rw [up2_n _ _ _ (by decide), up2_n _ _ _ (by omega), up2_n _ _ _ (by decide), up2_n _ _ _ (by omega)]
      exact hI.2.2.2.1
  rcases hI.2.1 k hk with ⟨s1, s2⟩ | ⟨ln, len, l1, l2, s1, s2, s3, s4, s5⟩
  · refine emp_yes s2 (b1B (fun M3 z => ⟨rfl, ?_⟩))
    subst z
    refine b0A (hp _ _ (fun post' hq => mSh_yes hk (b1B ⟨hi, ?_⟩)))
    rw [e, up2_n _ _ _ (show 35 ≠ 26 + k by omega), s1]
    refine ⟨fun y => absurd rfl y, fun _ => ⟨hi, fun M3 z => ?_⟩⟩
    rw [e] at z
    subst z
    exact hq _ fin
  · refine emp_no (by rw [s4]; exact m1_ne (by omega)) (b0B (fun M3 z => ⟨rfl, ?_⟩))
    subst z
    refine b1A (hp _ _ (fun post' hq => mSh_yes hk (b1B ⟨hi, ?_⟩)))
    rw [e, up2_n _ _ _ (show 35 ≠ 26 + k by omega), s1]
    refine ⟨fun y => ⟨hi, fun M3 z => ?_⟩, fun y => absurd y (m9_ne (by omega))⟩
    rw [e] at z
    subst z
    exact hq _ fin
theorem lt_pred {p : Int32} {n : Nat} (hn : n ≤ 60) (h : nI n ≤ p) : nI n - 1 < p := by
  cases n with
  | zero =>
    rw [fa_le] at h
    rw [fa_lt, show (nI 0 - 1).toInt = -1 by decide]
    rw [show (nI 0).toInt = 0 by decide] at h
    omega
  | succ m => rw [sub1I]; exact lt_of_le1 (by omega) h
def cutV (ln : Nat) (p : Int32) : Int32 := if ln = 0 then p.toInt8.toInt32 else if ln = 1 then p.toInt16.toInt32 else p
theorem cut_ok {M : Mem} {c ln : Nat} {p : Int32} {post : Int32 → Mem → Prop} (h : M c 1 = nI ln) (hl : ln ≤ 2) (hp : post (cutV ln p) M) : wp_X4_cut c p M post := by
  unfold wp_X4_cut
  rw [h]
  have : ln = 0 ∨ ln = 1 ∨ ln = 2 := by omega
  rcases this with rfl | rfl | rfl
  · exact ⟨fun y => absurd rfl y, fun _ => hp⟩
  · exact ⟨fun _ => ⟨fun y => absurd rfl y, fun _ => hp⟩, fun y => absurd y (by decide)⟩
  · exact ⟨fun _ => ⟨fun _ => hp, fun y => absurd y (by decide)⟩, fun y => absurd y (by decide)⟩
theorem cutM {X p : Int32} {ln : Nat} (h : X = nI ln) (hl : ln ≤ 2) {P : Int32 → Prop} {V : Prop} (hV : V) (hp : P (cutV ln p)) : (¬ X = 0 → (V ∧ ((¬ X = 1 → P p) ∧ (X = 1 → P p.toInt16.toInt32)))) ∧ (X = 0 → P p.toInt8.toInt32) := by
  subst h
  have : ln = 0 ∨ ln = 1 ∨ ln = 2 := by omega
  rcases this with rfl | rfl | rfl
  · exact ⟨fun y => absurd rfl y, fun _ => hp⟩
  · exact ⟨fun _ => ⟨hV, fun y => absurd rfl y, fun _ => hp⟩, fun y => absurd y (by decide)⟩
  · exact ⟨fun _ => ⟨hV, fun _ => hp, fun y => absurd y (by decide)⟩, fun y => absurd y (by decide)⟩
theorem Pre.sheetM {M : Mem} (h : Pre M) (v : Int32) {k : Nat} (hk : k < 4) : sheetR (up2 M 34 0 v) k := (h.m v).2.1 k hk
theorem st_put {M : Mem} (hI : Inv M) (p1 p2 p3 : Int32) : StpI (wp_X5_put p1 p2 p3) (wp_X6_put p1 p2 p3) M := by
  intro post hp M1 z1
  have hP : Pre M1 := by subst z1; exact hI.pre.c 0
  have h0 : M1 0 9 = 0 := by subst z1; rfl
  clear z1
  rcases ixI p1 4 (by omega) with h1 | ⟨k, hk, rfl⟩
  · refine cSh_no h1 (b0B (hp _ _ (fun post' hq M2 z2 => ?_)))
    subst z2
    exact mSh_no h1 (b0B (hq _ (hP.z h0)))
  have hi : vp_in (nI k) 4 := inI hk (by decide)
  have e := cl (show k < 2147483648 by omega)
  refine cSh_yes hk (b1B ⟨hi, ?_⟩)
  rw [e]
  rcases hP.2.1 k hk with ⟨s1, s2⟩ | ⟨ln, len, l1, l2, s1, s2, s3, s4, s5⟩
  · refine emp_yes s2 (b1A (fun M7 z7 => ?_))
    subst z7
    refine ⟨fun y => absurd (show (1 : Int32) = 0 from y) (by decide), fun _ => hp _ _ (fun post' hq M2 z2 => ?_)⟩
    subst z2
    refine mSh_yes hk (b1B ⟨hi, ?_⟩)
    rw [e, show up2 (up2 M1 0 9 1) 34 0 0 35 k = -9 from s1]
    refine ⟨fun y => absurd rfl y, fun _ M10 z10 => ?_⟩
    subst z10
    exact hq _ ((hP.c 1).f rfl)
  · refine emp_no (by rw [s4]; exact m1_ne (by omega)) (b0A ?_)
    rw [s4]
    rcases ixI p2 len (by omega) with h2 | ⟨j, hj, rfl⟩
    · refine rng_no h2 (fun M7 z7 => ?_)
      subst z7
      refine ⟨fun y => absurd (show (3 : Int32) = 0 from y) (by decide), fun _ => hp _ _ (fun post' hq M2 z2 => ?_)⟩
      subst z2
      refine mSh_yes hk (b1B ⟨hi, ?_⟩)
      rw [e, show up2 (up2 M1 0 9 3) 34 0 0 35 k = nI ln from s1, show up2 (up2 M1 0 9 3) 34 0 0 36 k = nI len from s3]
      refine ⟨fun _ => ⟨hi, wit_no (h2.elim Or.inl (fun q => Or.inr (lt_pred l2 q))) (b0B (fun M10 z10 => ?_))⟩, fun y => absurd y (m9_ne (by omega))⟩
      subst z10
      exact hq _ ((hP.c 3).f rfl)
    · refine rng_yes hj (by omega) (fun M7 z7 => ?_)
      have hP7 : Pre M7 := by subst z7; exact hP.c 0
      have h07 : M7 0 9 = 0 := by subst z7; rfl
      have x35 : M7 35 k = nI ln := by subst z7; exact s1
      have x36 : M7 36 k = nI len := by subst z7; exact s3
      have x1 : M7 (26 + k) 1 = nI ln := by subst z7; rw [up2_n _ _ _ (by omega)]; exact s2
      have x2 : M7 (26 + k) 2 = nI len := by subst z7; rw [up2_n _ _ _ (by omega)]; exact s4
      have x5 : ∀ j, j < 60 → M7 (30 + k) j = M7 37 (60 * k + j) := by subst z7; intro j hj; rw [up2_n _ _ _ (by omega)]; exact s5 j hj
      clear z7
      refine ⟨fun _ => ⟨hi, cut_ok x1 l1 ⟨inI (by omega) (by decide), fun M8 z8 => ?_⟩⟩, fun y => absurd h07 y⟩
      rw [cl (show j < 2147483648 by omega), show 26 + k + 4 = 30 + k by omega] at z8
      refine hp _ _ (fun post' hq M2 z2 => ?_)
      have y35 : M2 35 k = nI ln := by subst z2; subst z8; rw [up2_n _ _ _ (by decide), up2_n _ _ _ (by omega)]; exact x35
      have y36 : M2 36 k = nI len := by subst z2; subst z8; rw [up2_n _ _ _ (by decide), up2_n _ _ _ (by omega)]; exact x36
      refine mSh_yes hk (b1B ⟨hi, ?_⟩)
      rw [e, y35, y36]
      obtain ⟨m, rfl⟩ : ∃ m, len = m + 1 := ⟨len - 1, by omega⟩
      rw [sub1I]
      refine ⟨fun _ => ⟨hi, mWit_yes (by omega) hj (b1B ⟨hi, ?_⟩)⟩, fun y => absurd y (m9_ne (by omega))⟩
      refine cutM (P := fun v => jn_X6_put_93 (nI k) (nI j) p3 post' v ((60 * nI k) + nI j) M2) y35 l1 hi ?_
      unfold jn_X6_put_93
      rw [show (60 : Int32) = nI 60 from rfl, mulN, addN]
      refine ⟨inI (by omega) (by decide), fun M6 z6 => ?_⟩
      rw [cl (by omega)] at z6
      subst z6
      refine hq _ (Pre.inv (hP7.sh hk (fun a x1 x2 x3 x4 x5 x6 x7 => ?_) (fun i hi => ?_) ?_ (fun i hi => ?_) (fun i hi => ?_) (fun i hi => ?_) (Or.inr ⟨ln, m + 1, l1, l2, ?_, ?_, ?_, ?_, fun i hi => ?_⟩)) ?_)
      · rw [up2_n _ _ _ x5]; subst z2; subst z8; rw [up2_n _ _ _ x7, up2_n _ _ _ x2]
      · rw [up2_n _ _ _ (by decide)]; subst z2; subst z8; rw [up2_s, upd_n _ _ (by omega), up2_n _ _ _ (by omega)]
      · rw [up2_n _ _ _ (by decide)]; subst z2; subst z8; rw [up2_n _ _ _ (by decide), up2_n _ _ _ (by omega)]
      · rw [up2_n _ _ _ (by decide)]; subst z2; subst z8; rw [up2_n _ _ _ (by decide), up2_n _ _ _ (by omega)]
      · rw [up2_n _ _ _ (by decide)]; subst z2; subst z8; rw [up2_n _ _ _ (by decide), up2_n _ _ _ (by omega)]
      · rw [up2_s, upd_n _ _ (by omega)]; subst z2; subst z8; rw [up2_n _ _ _ (by decide), up2_n _ _ _ (by omega)]
      · rw [up2_n _ _ _ (by decide)]; exact y35
      · rw [up2_n _ _ _ (by omega)]; subst z2; subst z8; rw [up2_n _ _ _ (by omega), up2_n _ _ _ (by omega)]; exact x1
      · rw [up2_n _ _ _ (by decide)]; exact y36
      · rw [up2_n _ _ _ (by omega)]; subst z2; subst z8; rw [up2_n _ _ _ (by omega), up2_n _ _ _ (by omega)]; exact x2
      · rw [up2_n _ _ _ (by omega), up2_s]; subst z2; subst z8
        rw [up2_n _ _ _ (by omega), up2_s, up2_n _ _ _ (by decide), up2_n _ _ _ (by omega), upd_at, upd_at]
        by_cases z : i = j
        · rw [if_pos z, if_pos (by omega)]
        · rw [if_neg z, if_neg (by omega)]; exact x5 i hi
      · rw [up2_n _ _ _ (by decide), up2_n _ _ _ (by decide)]; subst z2; subst z8; rw [up2_n _ _ _ (by decide), up2_n _ _ _ (by omega), up2_s, upd_s]; exact h07
