def wp_X0_stands (M : Mem) (post : Int32 → Mem → Prop) : Prop := (((M 1 3) ≤ 0 → post 0 M) ∧ (¬ (M 1 3) ≤ 0 → post 1 M))
set_option maxRecDepth 100000 in
theorem wk_X0_stands {X : CT} (hX : okX X RX0 cX0_stands 0 0) {M : Mem} {post : Int32 → Mem → Prop} (hret : ∀ (r : Int32) (M' : Mem), narrow .boolean (.int r) = .int r → post r M' → RetI X cX0_stands r M') (h : wp_X0_stands M post) : Z X M 0 [some (.ref (adX X 1))] [] := by
  unfold wp_X0_stands at h
  refine r_aload_n hX dX0_stands_0 rfl rfl ?_
  refine r_getI hX fg_X0_21 ly_1 rfl dX0_stands_1 ?_
  refine r_if_le hX 11 dX0_stands_4 (by decide) (fun hc => ?_) (fun hc => ?_)
  · have h := h.1 hc
    refine r_iconst (v := 0) hX dX0_stands_11 (by decide) ?_
    exact r_iret (hret _ _ rfl h) dX0_stands_12
  · have h := h.2 hc
    refine r_iconst (v := 1) hX dX0_stands_7 (by decide) ?_
    refine r_goto hX 12 dX0_stands_8 (by decide) ?_
    exact r_iret (hret _ _ rfl h) dX0_stands_12
set_option maxRecDepth 100000 in
theorem c_X0_stands {l : Launch} {D : va_G} {cs : CS3} {ad : Nat → Nat} {M : Mem} {post : Int32 → Mem → Prop} (h : wp_X0_stands M post) : CtI l D cs ad yX0_stands cX0_stands 1 (some .boolean) 0 0 [.ref (ad 1)] M post := met_I (k := 0) (fun ad => [.ref (ad 1)]) (fun ad => [some (.ref (ad 1))]) (by decide +kernel) (fun _ => Nat.le_of_ble_eq_true rfl) (fun _ => rfl) (fun _ => rfl) (fun X hX hret => wk_X0_stands hX hret h)
def wp_X0_hasChair (p1 : Int32) (M : Mem) (post : Int32 → Mem → Prop) : Prop := ((p1 < 0 → post 0 M) ∧ (¬ p1 < 0 → (((M 1 3) ≤ p1 → post 0 M) ∧ (¬ (M 1 3) ≤ p1 → post 1 M))))
set_option maxRecDepth 100000 in
theorem wk_X0_hasChair {X : CT} (p1 : Int32) (hX : okX X RX0 cX0_hasChair 0 0) {M : Mem} {post : Int32 → Mem → Prop} (hret : ∀ (r : Int32) (M' : Mem), narrow .boolean (.int r) = .int r → post r M' → RetI X cX0_hasChair r M') (h : wp_X0_hasChair p1 M post) : Z X M 0 [some (.ref (adX X 1)), some (.int p1)] [] := by
  unfold wp_X0_hasChair at h
  refine r_iload_n hX dX0_hasChair_0 rfl rfl ?_
  refine r_if_lt hX 16 dX0_hasChair_1 (by decide) (fun hc => ?_) (fun hc => ?_)
  · have h := h.1 hc
    refine r_iconst (v := 0) hX dX0_hasChair_16 (by decide) ?_
    exact r_iret (hret _ _ rfl h) dX0_hasChair_17
  · have h := h.2 hc
    refine r_iload_n hX dX0_hasChair_4 rfl rfl ?_
    refine r_aload_n hX dX0_hasChair_5 rfl rfl ?_
    refine r_getI hX fg_X0_21 ly_1 rfl dX0_hasChair_6 ?_
    refine r_icmp_ge hX 16 dX0_hasChair_9 (by decide) (fun hc => ?_) (fun hc => ?_)
    · have h := h.1 hc
      refine r_iconst (v := 0) hX dX0_hasChair_16 (by decide) ?_
      exact r_iret (hret _ _ rfl h) dX0_hasChair_17
    · have h := h.2 hc
      refine r_iconst (v := 1) hX dX0_hasChair_12 (by decide) ?_
      refine r_goto hX 17 dX0_hasChair_13 (by decide) ?_
      exact r_iret (hret _ _ rfl h) dX0_hasChair_17
set_option maxRecDepth 100000 in
theorem c_X0_hasChair {l : Launch} {D : va_G} {cs : CS3} {ad : Nat → Nat} (p1 : Int32) {M : Mem} {post : Int32 → Mem → Prop} (h : wp_X0_hasChair p1 M post) : CtI l D cs ad yX0_hasChair cX0_hasChair 2 (some .boolean) 0 0 [.ref (ad 1), .int p1] M post := met_I (k := 0) (fun ad => [.ref (ad 1), .int p1]) (fun ad => [some (.ref (ad 1)), some (.int p1)]) (by decide +kernel) (fun _ => Nat.le_of_ble_eq_true rfl) (fun _ => rfl) (fun _ => rfl) (fun X hX hret => wk_X0_hasChair p1 hX hret h)
def wp_X0_hasGuest (p1 : Int32) (M : Mem) (post : Int32 → Mem → Prop) : Prop := ((p1 < 0 → post 0 M) ∧ (¬ p1 < 0 → (((M 1 4) ≤ p1 → post 0 M) ∧ (¬ (M 1 4) ≤ p1 → post 1 M))))
set_option maxRecDepth 100000 in
theorem wk_X0_hasGuest {X : CT} (p1 : Int32) (hX : okX X RX0 cX0_hasGuest 0 0) {M : Mem} {post : Int32 → Mem → Prop} (hret : ∀ (r : Int32) (M' : Mem), narrow .boolean (.int r) = .int r → post r M' → RetI X cX0_hasGuest r M') (h : wp_X0_hasGuest p1 M post) : Z X M 0 [some (.ref (adX X 1)), some (.int p1)] [] := by
  unfold wp_X0_hasGuest at h
  refine r_iload_n hX dX0_hasGuest_0 rfl rfl ?_
  refine r_if_lt hX 16 dX0_hasGuest_1 (by decide) (fun hc => ?_) (fun hc => ?_)
  · have h := h.1 hc
    refine r_iconst (v := 0) hX dX0_hasGuest_16 (by decide) ?_
    exact r_iret (hret _ _ rfl h) dX0_hasGuest_17
  · have h := h.2 hc
    refine r_iload_n hX dX0_hasGuest_4 rfl rfl ?_
    refine r_aload_n hX dX0_hasGuest_5 rfl rfl ?_
    refine r_getI hX fg_X0_25 ly_1 rfl dX0_hasGuest_6 ?_
    refine r_icmp_ge hX 16 dX0_hasGuest_9 (by decide) (fun hc => ?_) (fun hc => ?_)
    · have h := h.1 hc
      refine r_iconst (v := 0) hX dX0_hasGuest_16 (by decide) ?_
      exact r_iret (hret _ _ rfl h) dX0_hasGuest_17
    · have h := h.2 hc
      refine r_iconst (v := 1) hX dX0_hasGuest_12 (by decide) ?_
      refine r_goto hX 17 dX0_hasGuest_13 (by decide) ?_
      exact r_iret (hret _ _ rfl h) dX0_hasGuest_17
set_option maxRecDepth 100000 in
theorem c_X0_hasGuest {l : Launch} {D : va_G} {cs : CS3} {ad : Nat → Nat} (p1 : Int32) {M : Mem} {post : Int32 → Mem → Prop} (h : wp_X0_hasGuest p1 M post) : CtI l D cs ad yX0_hasGuest cX0_hasGuest 2 (some .boolean) 0 0 [.ref (ad 1), .int p1] M post := met_I (k := 0) (fun ad => [.ref (ad 1), .int p1]) (fun ad => [some (.ref (ad 1)), some (.int p1)]) (by decide +kernel) (fun _ => Nat.le_of_ble_eq_true rfl) (fun _ => rfl) (fun _ => rfl) (fun X hX hret => wk_X0_hasGuest p1 hX hret h)
def lp_X0_namesOnlyChairs_3 (a1 : Nat) (n1 : Nat) (p2 : Int32) (p3 : Int32) (post : Int32 → Mem → Prop) : Nat → Int32 → Mem → Prop
  | 0, _, _ => False
  | n + 1, x4, M => ((p3 ≤ x4 → post 1 M) ∧ (¬ p3 ≤ x4 → (vp_in (p2 + x4) n1 ∧ (∀ v1 : Int32, v1 = M a1 (p2 + x4).toNatClampNeg → ((v1 = (-9) → lp_X0_namesOnlyChairs_3 a1 n1 p2 p3 post n (x4 + 1) M) ∧ (¬ v1 = (-9) → (wp_X0_hasChair v1 M (fun r2 M3 => ((¬ r2 = 0 → lp_X0_namesOnlyChairs_3 a1 n1 p2 p3 post n (x4 + 1) M3) ∧ (r2 = 0 → post 0 M3))))))))))
set_option maxRecDepth 100000 in
theorem wl_X0_namesOnlyChairs_3 {X : CT} (a1 : Nat) (n1 : Nat) (p2 : Int32) (p3 : Int32) (hc1 : lyl[a1]? = some (.inr (0, n1))) (hX : okX X RX0 cX0_namesOnlyChairs 1 21) {post : Int32 → Mem → Prop} (hret : ∀ (r : Int32) (M' : Mem), narrow .boolean (.int r) = .int r → post r M' → RetI X cX0_namesOnlyChairs r M') : ∀ (n : Nat) (x4 : Int32) (M : Mem), lp_X0_namesOnlyChairs_3 a1 n1 p2 p3 post n x4 M → Z X M 3 [some (.ref (adX X 1)), some (.ref (adX X a1)), some (.int p2), some (.int p3), some (.int x4), none] [] := by
  intro n
  induction n with
  | zero =>
    intro x4 M h
    exact False.elim h
  | succ n ih =>
    intro x4 M h
    unfold lp_X0_namesOnlyChairs_3 at h
    refine r_iload hX dX0_namesOnlyChairs_3 rfl ?_
    refine r_iload_n hX dX0_namesOnlyChairs_5 rfl rfl ?_
    refine r_icmp_ge hX 41 dX0_namesOnlyChairs_6 (by decide) (fun hc => ?_) (fun hc => ?_)
    · have h := h.1 hc
      refine r_iconst (v := 1) hX dX0_namesOnlyChairs_41 (by decide) ?_
      exact r_iret (hret _ _ rfl h) dX0_namesOnlyChairs_42
    · have h := h.2 hc
      refine r_aload_n hX dX0_namesOnlyChairs_9 rfl rfl ?_
      refine r_iload_n hX dX0_namesOnlyChairs_10 rfl rfl ?_
      refine r_iload hX dX0_namesOnlyChairs_11 rfl ?_
      refine r_iadd hX dX0_namesOnlyChairs_13 ?_
      refine r_iald hX hc1 h.1 dX0_namesOnlyChairs_14 ?_
      have h := h.2
      refine r_nm (fun v1 ev1 => ?_)
      have h := h v1 ev1
      refine r_istore (L' := [some (.ref (adX X 1)), some (.ref (adX X a1)), some (.int p2), some (.int p3), some (.int x4), some (.int v1)]) hX dX0_namesOnlyChairs_15 (Nat.lt_of_ble rfl) rfl rfl ?_
      refine r_iload hX dX0_namesOnlyChairs_17 rfl ?_
      refine r_bipush (v := (-9)) hX dX0_namesOnlyChairs_19 (by decide) ?_
      refine r_icmp_eq hX 35 dX0_namesOnlyChairs_21 (by decide) (fun hc => ?_) (fun hc => ?_)
      · have h := h.1 hc
        refine r_iinc (v := x4 + 1) (L' := [some (.ref (adX X 1)), some (.ref (adX X a1)), some (.int p2), some (.int p3), some (.int (x4 + 1)), some (.int v1)]) hX dX0_namesOnlyChairs_35 rfl rfl rfl rfl ?_
        refine r_goto hX 3 dX0_namesOnlyChairs_38 (by decide) ?_
        refine r_sub [some (.ref (adX X 1)), some (.ref (adX X a1)), some (.int p2), some (.int p3), some (.int (x4 + 1)), none] (And.intro rfl (And.intro rfl (And.intro rfl (And.intro rfl (And.intro rfl trivial))))) ?_
        exact ih _ _ h
      · have h := h.2 hc
        refine r_aload_n hX dX0_namesOnlyChairs_24 rfl rfl ?_
        refine r_iload hX dX0_namesOnlyChairs_25 rfl ?_
        refine r_cVi1 hX fv_X0_28 ly_1 rfl ⟨Nat.le_of_ble_eq_true rfl, Nat.le_of_ble_eq_true rfl⟩ (c_X0_hasChair v1 h) (Nat.le_of_ble_eq_true rfl) dX0_namesOnlyChairs_27 (fun r2 M3 h => ?_)
        refine r_if_ne hX 35 dX0_namesOnlyChairs_30 (by decide) (fun hc => ?_) (fun hc => ?_)
        · have h := h.1 hc
          refine r_iinc (v := x4 + 1) (L' := [some (.ref (adX X 1)), some (.ref (adX X a1)), some (.int p2), some (.int p3), some (.int (x4 + 1)), some (.int v1)]) hX dX0_namesOnlyChairs_35 rfl rfl rfl rfl ?_
          refine r_goto hX 3 dX0_namesOnlyChairs_38 (by decide) ?_
          refine r_sub [some (.ref (adX X 1)), some (.ref (adX X a1)), some (.int p2), some (.int p3), some (.int (x4 + 1)), none] (And.intro rfl (And.intro rfl (And.intro rfl (And.intro rfl (And.intro rfl trivial))))) ?_
          exact ih _ _ h
        · have h := h.2 hc
          refine r_iconst (v := 0) hX dX0_namesOnlyChairs_33 (by decide) ?_
          exact r_iret (hret _ _ rfl h) dX0_namesOnlyChairs_34
def wp_X0_namesOnlyChairs (a1 : Nat) (n1 : Nat) (p2 : Int32) (p3 : Int32) (M : Mem) (post : Int32 → Mem → Prop) : Prop := (∃ k, lp_X0_namesOnlyChairs_3 a1 n1 p2 p3 post k 0 M)
set_option maxRecDepth 100000 in
theorem wk_X0_namesOnlyChairs {X : CT} (a1 : Nat) (n1 : Nat) (p2 : Int32) (p3 : Int32) (hc1 : lyl[a1]? = some (.inr (0, n1))) (hX : okX X RX0 cX0_namesOnlyChairs 1 21) {M : Mem} {post : Int32 → Mem → Prop} (hret : ∀ (r : Int32) (M' : Mem), narrow .boolean (.int r) = .int r → post r M' → RetI X cX0_namesOnlyChairs r M') (h : wp_X0_namesOnlyChairs a1 n1 p2 p3 M post) : Z X M 0 [some (.ref (adX X 1)), some (.ref (adX X a1)), some (.int p2), some (.int p3), none, none] [] := by
  unfold wp_X0_namesOnlyChairs at h
  refine r_iconst (v := 0) hX dX0_namesOnlyChairs_0 (by decide) ?_
  refine r_istore (L' := [some (.ref (adX X 1)), some (.ref (adX X a1)), some (.int p2), some (.int p3), some (.int 0), none]) hX dX0_namesOnlyChairs_1 (Nat.lt_of_ble rfl) rfl rfl ?_
  obtain ⟨n4, h⟩ := h
  refine r_sub [some (.ref (adX X 1)), some (.ref (adX X a1)), some (.int p2), some (.int p3), some (.int 0), none] (And.intro rfl (And.intro rfl (And.intro rfl (And.intro rfl (And.intro rfl trivial))))) ?_
  exact wl_X0_namesOnlyChairs_3 a1 n1 p2 p3 hc1 hX hret n4 _ _ h
set_option maxRecDepth 100000 in
theorem c_X0_namesOnlyChairs {l : Launch} {D : va_G} {cs : CS3} {ad : Nat → Nat} (a1 : Nat) (n1 : Nat) (p2 : Int32) (p3 : Int32) (hc1 : lyl[a1]? = some (.inr (0, n1))) {M : Mem} {post : Int32 → Mem → Prop} (h : wp_X0_namesOnlyChairs a1 n1 p2 p3 M post) : CtI l D cs ad yX0_namesOnlyChairs cX0_namesOnlyChairs 6 (some .boolean) 1 21 [.ref (ad 1), .ref (ad a1), .int p2, .int p3] M post := met_I (k := 2) (fun ad => [.ref (ad 1), .ref (ad a1), .int p2, .int p3]) (fun ad => [some (.ref (ad 1)), some (.ref (ad a1)), some (.int p2), some (.int p3), none, none]) (by decide +kernel) (fun _ => Nat.le_of_ble_eq_true rfl) (fun _ => rfl) (fun _ => rfl) (fun X hX hret => wk_X0_namesOnlyChairs a1 n1 p2 p3 hc1 hX hret h)
def wp_X0_goesOn (p0 : Int32) (p1 : Int32) (M : Mem) (post : Int32 → Mem → Prop) : Prop := ((¬ p0 = 0 → ((¬ p0 = 1 → (((p0 - 2) - (p0 - 2) / 4 * 4 = 0 → ((¬ p1 = 44 → post 0 M) ∧ (p1 = 44 → ((22 ≤ p0 → post 0 M) ∧ (¬ 22 ≤ p0 → post 1 M))))) ∧ ((p0 - 2) - (p0 - 2) / 4 * 4 = 1 → ((p1 = 99 → post 1 M) ∧ (¬ p1 = 99 → ((p1 = 98 → post 1 M) ∧ (¬ p1 = 98 → ((¬ p1 = 116 → post 0 M) ∧ (p1 = 116 → post 1 M))))))) ∧ ((p0 - 2) - (p0 - 2) / 4 * 4 = 2 → ((p1 < 48 → post 0 M) ∧ (¬ p1 < 48 → ((52 < p1 → post 0 M) ∧ (¬ 52 < p1 → post 1 M))))) ∧ (¬ (p0 - 2) - (p0 - 2) / 4 * 4 = 0 ∧ ¬ (p0 - 2) - (p0 - 2) / 4 * 4 = 1 ∧ ¬ (p0 - 2) - (p0 - 2) / 4 * 4 = 2 → ((p1 < 48 → post 0 M) ∧ (¬ p1 < 48 → ((57 < p1 → post 0 M) ∧ (¬ 57 < p1 → post 1 M))))))) ∧ (p0 = 1 → ((p1 < 49 → post 0 M) ∧ (¬ p1 < 49 → ((53 < p1 → post 0 M) ∧ (¬ 53 < p1 → post 1 M))))))) ∧ (p0 = 0 → ((¬ p1 = 122 → post 0 M) ∧ (p1 = 122 → post 1 M))))
set_option maxRecDepth 100000 in
theorem wk_X0_goesOn {X : CT} (p0 : Int32) (p1 : Int32) (hX : okX X RX0 cX0_goesOn 0 0) {M : Mem} {post : Int32 → Mem → Prop} (hret : ∀ (r : Int32) (M' : Mem), narrow .boolean (.int r) = .int r → post r M' → RetI X cX0_goesOn r M') (h : wp_X0_goesOn p0 p1 M post) : Z X M 0 [some (.int p0), some (.int p1)] [] := by
  unfold wp_X0_goesOn at h
  refine r_iload_n hX dX0_goesOn_0 rfl rfl ?_
  refine r_if_ne hX 16 dX0_goesOn_1 (by decide) (fun hc => ?_) (fun hc => ?_)
  · have h := h.1 hc
    refine r_iload_n hX dX0_goesOn_16 rfl rfl ?_
    refine r_iconst (v := 1) hX dX0_goesOn_17 (by decide) ?_
    refine r_icmp_ne hX 39 dX0_goesOn_18 (by decide) (fun hc => ?_) (fun hc => ?_)
    · have h := h.1 hc
      refine r_iload_n hX dX0_goesOn_39 rfl rfl ?_
      refine r_iconst (v := 2) hX dX0_goesOn_40 (by decide) ?_
      refine r_isub hX dX0_goesOn_41 ?_
      refine r_iconst (v := 4) hX dX0_goesOn_42 (by decide) ?_
      refine r_irem hX dX0_goesOn_43 (by decide) ?_
      by_cases hc0 : (p0 - 2) - (p0 - 2) / 4 * 4 = 0
      · refine r_tin (v := 0) hX 72 dX0_goesOn_44 hc0 rfl rfl (by decide) ?_
        have h := h.1 hc0
        refine r_iload_n hX dX0_goesOn_72 rfl rfl ?_
        refine r_bipush (v := 44) hX dX0_goesOn_73 (by decide) ?_
        refine r_icmp_ne hX 88 dX0_goesOn_75 (by decide) (fun hc => ?_) (fun hc => ?_)
        · have h := h.1 hc
          refine r_iconst (v := 0) hX dX0_goesOn_88 (by decide) ?_
          exact r_iret (hret _ _ rfl h) dX0_goesOn_89
        · have h := h.2 hc
          refine r_iload_n hX dX0_goesOn_78 rfl rfl ?_
          refine r_bipush (v := 22) hX dX0_goesOn_79 (by decide) ?_
          refine r_icmp_ge hX 88 dX0_goesOn_81 (by decide) (fun hc => ?_) (fun hc => ?_)
          · have h := h.1 hc
            refine r_iconst (v := 0) hX dX0_goesOn_88 (by decide) ?_
            exact r_iret (hret _ _ rfl h) dX0_goesOn_89
          · have h := h.2 hc
            refine r_iconst (v := 1) hX dX0_goesOn_84 (by decide) ?_
            refine r_goto hX 89 dX0_goesOn_85 (by decide) ?_
            exact r_iret (hret _ _ rfl h) dX0_goesOn_89
      · by_cases hc1 : (p0 - 2) - (p0 - 2) / 4 * 4 = 1
        · refine r_tin (v := 1) hX 90 dX0_goesOn_44 hc1 rfl rfl (by decide) ?_
          have h := h.2.1 hc1
          refine r_iload_n hX dX0_goesOn_90 rfl rfl ?_
          refine r_bipush (v := 99) hX dX0_goesOn_91 (by decide) ?_
          refine r_icmp_eq hX 108 dX0_goesOn_93 (by decide) (fun hc => ?_) (fun hc => ?_)
          · have h := h.1 hc
            refine r_iconst (v := 1) hX dX0_goesOn_108 (by decide) ?_
            refine r_goto hX 113 dX0_goesOn_109 (by decide) ?_
            exact r_iret (hret _ _ rfl h) dX0_goesOn_113
          · have h := h.2 hc
            refine r_iload_n hX dX0_goesOn_96 rfl rfl ?_
            refine r_bipush (v := 98) hX dX0_goesOn_97 (by decide) ?_
            refine r_icmp_eq hX 108 dX0_goesOn_99 (by decide) (fun hc => ?_) (fun hc => ?_)
            · have h := h.1 hc
              refine r_iconst (v := 1) hX dX0_goesOn_108 (by decide) ?_
              refine r_goto hX 113 dX0_goesOn_109 (by decide) ?_
              exact r_iret (hret _ _ rfl h) dX0_goesOn_113
            · have h := h.2 hc
              refine r_iload_n hX dX0_goesOn_102 rfl rfl ?_
              refine r_bipush (v := 116) hX dX0_goesOn_103 (by decide) ?_
              refine r_icmp_ne hX 112 dX0_goesOn_105 (by decide) (fun hc => ?_) (fun hc => ?_)
              · have h := h.1 hc
                refine r_iconst (v := 0) hX dX0_goesOn_112 (by decide) ?_
                exact r_iret (hret _ _ rfl h) dX0_goesOn_113
              · have h := h.2 hc
                refine r_iconst (v := 1) hX dX0_goesOn_108 (by decide) ?_
                refine r_goto hX 113 dX0_goesOn_109 (by decide) ?_
                exact r_iret (hret _ _ rfl h) dX0_goesOn_113
        · by_cases hc2 : (p0 - 2) - (p0 - 2) / 4 * 4 = 2
          · refine r_tin (v := 2) hX 114 dX0_goesOn_44 hc2 rfl rfl (by decide) ?_
            have h := h.2.2.1 hc2
            refine r_iload_n hX dX0_goesOn_114 rfl rfl ?_
            refine r_bipush (v := 48) hX dX0_goesOn_115 (by decide) ?_
            refine r_icmp_lt hX 130 dX0_goesOn_117 (by decide) (fun hc => ?_) (fun hc => ?_)
            · have h := h.1 hc
              refine r_iconst (v := 0) hX dX0_goesOn_130 (by decide) ?_
              exact r_iret (hret _ _ rfl h) dX0_goesOn_131
            · have h := h.2 hc
              refine r_iload_n hX dX0_goesOn_120 rfl rfl ?_
              refine r_bipush (v := 52) hX dX0_goesOn_121 (by decide) ?_
              refine r_icmp_gt hX 130 dX0_goesOn_123 (by decide) (fun hc => ?_) (fun hc => ?_)
              · have h := h.1 hc
                refine r_iconst (v := 0) hX dX0_goesOn_130 (by decide) ?_
                exact r_iret (hret _ _ rfl h) dX0_goesOn_131
              · have h := h.2 hc
                refine r_iconst (v := 1) hX dX0_goesOn_126 (by decide) ?_
                refine r_goto hX 131 dX0_goesOn_127 (by decide) ?_
                exact r_iret (hret _ _ rfl h) dX0_goesOn_131
          · refine r_tout hX 132 dX0_goesOn_44 (sw_out3 hc0 hc1 hc2) (by decide) ?_
            have h := h.2.2.2 ⟨hc0, hc1, hc2⟩
            refine r_iload_n hX dX0_goesOn_132 rfl rfl ?_
            refine r_bipush (v := 48) hX dX0_goesOn_133 (by decide) ?_
            refine r_icmp_lt hX 148 dX0_goesOn_135 (by decide) (fun hc => ?_) (fun hc => ?_)
            · have h := h.1 hc
              refine r_iconst (v := 0) hX dX0_goesOn_148 (by decide) ?_
              exact r_iret (hret _ _ rfl h) dX0_goesOn_149
            · have h := h.2 hc
              refine r_iload_n hX dX0_goesOn_138 rfl rfl ?_
              refine r_bipush (v := 57) hX dX0_goesOn_139 (by decide) ?_
              refine r_icmp_gt hX 148 dX0_goesOn_141 (by decide) (fun hc => ?_) (fun hc => ?_)
              · have h := h.1 hc
                refine r_iconst (v := 0) hX dX0_goesOn_148 (by decide) ?_
                exact r_iret (hret _ _ rfl h) dX0_goesOn_149
              · have h := h.2 hc
                refine r_iconst (v := 1) hX dX0_goesOn_144 (by decide) ?_
                refine r_goto hX 149 dX0_goesOn_145 (by decide) ?_
                exact r_iret (hret _ _ rfl h) dX0_goesOn_149
    · have h := h.2 hc
      refine r_iload_n hX dX0_goesOn_21 rfl rfl ?_
      refine r_bipush (v := 49) hX dX0_goesOn_22 (by decide) ?_
      refine r_icmp_lt hX 37 dX0_goesOn_24 (by decide) (fun hc => ?_) (fun hc => ?_)
      · have h := h.1 hc
        refine r_iconst (v := 0) hX dX0_goesOn_37 (by decide) ?_
        exact r_iret (hret _ _ rfl h) dX0_goesOn_38
      · have h := h.2 hc
        refine r_iload_n hX dX0_goesOn_27 rfl rfl ?_
        refine r_bipush (v := 53) hX dX0_goesOn_28 (by decide) ?_
        refine r_icmp_gt hX 37 dX0_goesOn_30 (by decide) (fun hc => ?_) (fun hc => ?_)
        · have h := h.1 hc
          refine r_iconst (v := 0) hX dX0_goesOn_37 (by decide) ?_
          exact r_iret (hret _ _ rfl h) dX0_goesOn_38
        · have h := h.2 hc
          refine r_iconst (v := 1) hX dX0_goesOn_33 (by decide) ?_
          refine r_goto hX 38 dX0_goesOn_34 (by decide) ?_
          exact r_iret (hret _ _ rfl h) dX0_goesOn_38
  · have h := h.2 hc
    refine r_iload_n hX dX0_goesOn_4 rfl rfl ?_
    refine r_bipush (v := 122) hX dX0_goesOn_5 (by decide) ?_
    refine r_icmp_ne hX 14 dX0_goesOn_7 (by decide) (fun hc => ?_) (fun hc => ?_)
    · have h := h.1 hc
      refine r_iconst (v := 0) hX dX0_goesOn_14 (by decide) ?_
      exact r_iret (hret _ _ rfl h) dX0_goesOn_15
    · have h := h.2 hc
      refine r_iconst (v := 1) hX dX0_goesOn_10 (by decide) ?_
      refine r_goto hX 15 dX0_goesOn_11 (by decide) ?_
      exact r_iret (hret _ _ rfl h) dX0_goesOn_15
set_option maxRecDepth 100000 in
theorem c_X0_goesOn {l : Launch} {D : va_G} {cs : CS3} {ad : Nat → Nat} (p0 : Int32) (p1 : Int32) {M : Mem} {post : Int32 → Mem → Prop} (h : wp_X0_goesOn p0 p1 M post) : CtI l D cs ad yX0_goesOn cX0_goesOn 2 (some .boolean) 0 0 [.int p0, .int p1] M post := met_I (k := 0) (fun ad => [.int p0, .int p1]) (fun ad => [some (.int p0), some (.int p1)]) (by decide +kernel) (fun _ => Nat.le_of_ble_eq_true rfl) (fun _ => rfl) (fun _ => rfl) (fun X hX hret => wk_X0_goesOn p0 p1 hX hret h)
def jn_X0_firstFault_45 (a0 : Nat) (n0 : Nat) (p1 : Int32) (p2 : Int32) (post : Int32 → Mem → Prop) (s0 : Int32) (M : Mem) : Prop := ((s0 = 0 → post p2 M) ∧ (¬ s0 = 0 → post (-9) M))
set_option maxRecDepth 100000 in
theorem wj_X0_firstFault_45 {X : CT} (a0 : Nat) (n0 : Nat) (p1 : Int32) (p2 : Int32) (hc0 : lyl[a0]? = some (.inr (0, n0))) (hX : okX X RX0 cX0_firstFault 1 21) {post : Int32 → Mem → Prop} (hret : ∀ (r : Int32) (M' : Mem), narrow .int (.int r) = .int r → post r M' → RetI X cX0_firstFault r M') (s0 : Int32) (M : Mem) (h : jn_X0_firstFault_45 a0 n0 p1 p2 post s0 M) : Z X M 45 [none, none, some (.int p2), none] [.int s0] := by
  unfold jn_X0_firstFault_45 at h
  refine r_istore_n (L' := [none, none, some (.int p2), some (.int s0)]) hX dX0_firstFault_45 rfl (Nat.lt_of_ble rfl) rfl rfl ?_
  refine r_iload_n hX dX0_firstFault_46 rfl rfl ?_
  refine r_if_eq hX 55 dX0_firstFault_47 (by decide) (fun hc => ?_) (fun hc => ?_)
  · have h := h.1 hc
    refine r_iload_n hX dX0_firstFault_55 rfl rfl ?_
    exact r_iret (hret _ _ rfl h) dX0_firstFault_56
  · have h := h.2 hc
    refine r_bipush (v := (-9)) hX dX0_firstFault_50 (by decide) ?_
    refine r_goto hX 56 dX0_firstFault_52 (by decide) ?_
    exact r_iret (hret _ _ rfl h) dX0_firstFault_56
def jn_X0_firstFault_44 (a0 : Nat) (n0 : Nat) (p1 : Int32) (p2 : Int32) (post : Int32 → Mem → Prop) (M : Mem) : Prop := jn_X0_firstFault_45 a0 n0 p1 p2 post 0 M
set_option maxRecDepth 100000 in
theorem wj_X0_firstFault_44 {X : CT} (a0 : Nat) (n0 : Nat) (p1 : Int32) (p2 : Int32) (hc0 : lyl[a0]? = some (.inr (0, n0))) (hX : okX X RX0 cX0_firstFault 1 21) {post : Int32 → Mem → Prop} (hret : ∀ (r : Int32) (M' : Mem), narrow .int (.int r) = .int r → post r M' → RetI X cX0_firstFault r M') (M : Mem) (h : jn_X0_firstFault_44 a0 n0 p1 p2 post M) : Z X M 44 [none, none, some (.int p2), none] [] := by
  unfold jn_X0_firstFault_44 at h
  refine r_iconst (v := 0) hX dX0_firstFault_44 (by decide) ?_
  refine r_sub [none, none, some (.int p2), none] (And.intro rfl trivial) ?_
  exact wj_X0_firstFault_45 a0 n0 p1 p2 hc0 hX hret _ _ h
def lp_X0_firstFault_2 (a0 : Nat) (n0 : Nat) (p1 : Int32) (p2 : Int32) (post : Int32 → Mem → Prop) : Nat → Int32 → Mem → Prop
  | 0, _, _ => False
  | n + 1, x3, M => ((p2 ≤ x3 → ((p2 ≤ 2 → jn_X0_firstFault_44 a0 n0 p1 p2 post M) ∧ (¬ p2 ≤ 2 → ((¬ ((p2 - 2) - (p2 - 2) / 4 * 4) = 0 → jn_X0_firstFault_44 a0 n0 p1 p2 post M) ∧ (((p2 - 2) - (p2 - 2) / 4 * 4) = 0 → jn_X0_firstFault_45 a0 n0 p1 p2 post 1 M))))) ∧ (¬ p2 ≤ x3 → (vp_in (p1 + x3) n0 ∧ (wp_X0_goesOn x3 (M a0 (p1 + x3).toNatClampNeg) M (fun r1 M2 => ((¬ r1 = 0 → lp_X0_firstFault_2 a0 n0 p1 p2 post n (x3 + 1) M2) ∧ (r1 = 0 → post x3 M2)))))))
set_option maxRecDepth 100000 in
theorem wl_X0_firstFault_2 {X : CT} (a0 : Nat) (n0 : Nat) (p1 : Int32) (p2 : Int32) (hc0 : lyl[a0]? = some (.inr (0, n0))) (hX : okX X RX0 cX0_firstFault 1 21) {post : Int32 → Mem → Prop} (hret : ∀ (r : Int32) (M' : Mem), narrow .int (.int r) = .int r → post r M' → RetI X cX0_firstFault r M') : ∀ (n : Nat) (x3 : Int32) (M : Mem), lp_X0_firstFault_2 a0 n0 p1 p2 post n x3 M → Z X M 2 [some (.ref (adX X a0)), some (.int p1), some (.int p2), some (.int x3)] [] := by
  intro n
  induction n with
  | zero =>
    intro x3 M h
    exact False.elim h
  | succ n ih =>
    intro x3 M h
    unfold lp_X0_firstFault_2 at h
    refine r_iload_n hX dX0_firstFault_2 rfl rfl ?_
    refine r_iload_n hX dX0_firstFault_3 rfl rfl ?_
    refine r_icmp_ge hX 27 dX0_firstFault_4 (by decide) (fun hc => ?_) (fun hc => ?_)
    · have h := h.1 hc
      refine r_iload_n hX dX0_firstFault_27 rfl rfl ?_
      refine r_iconst (v := 2) hX dX0_firstFault_28 (by decide) ?_
      refine r_icmp_le hX 44 dX0_firstFault_29 (by decide) (fun hc => ?_) (fun hc => ?_)
      · have h := h.1 hc
        refine r_sub [none, none, some (.int p2), none] (And.intro rfl trivial) ?_
        exact wj_X0_firstFault_44 a0 n0 p1 p2 hc0 hX hret _ h
      · have h := h.2 hc
        refine r_iload_n hX dX0_firstFault_32 rfl rfl ?_
        refine r_iconst (v := 2) hX dX0_firstFault_33 (by decide) ?_
        refine r_isub hX dX0_firstFault_34 ?_
        refine r_iconst (v := 4) hX dX0_firstFault_35 (by decide) ?_
        refine r_irem hX dX0_firstFault_36 (by decide) ?_
        refine r_if_ne hX 44 dX0_firstFault_37 (by decide) (fun hc => ?_) (fun hc => ?_)
        · have h := h.1 hc
          refine r_sub [none, none, some (.int p2), none] (And.intro rfl trivial) ?_
          exact wj_X0_firstFault_44 a0 n0 p1 p2 hc0 hX hret _ h
        · have h := h.2 hc
          refine r_iconst (v := 1) hX dX0_firstFault_40 (by decide) ?_
          refine r_goto hX 45 dX0_firstFault_41 (by decide) ?_
          refine r_sub [none, none, some (.int p2), none] (And.intro rfl trivial) ?_
          exact wj_X0_firstFault_45 a0 n0 p1 p2 hc0 hX hret _ _ h
    · have h := h.2 hc
      refine r_iload_n hX dX0_firstFault_7 rfl rfl ?_
      refine r_aload_n hX dX0_firstFault_8 rfl rfl ?_
      refine r_iload_n hX dX0_firstFault_9 rfl rfl ?_
      refine r_iload_n hX dX0_firstFault_10 rfl rfl ?_
      refine r_iadd hX dX0_firstFault_11 ?_
      refine r_iald hX hc0 h.1 dX0_firstFault_12 ?_
      have h := h.2
      refine r_cSi2 hX fs_X0_32 ⟨Nat.le_of_ble_eq_true rfl, Nat.le_of_ble_eq_true rfl⟩ (c_X0_goesOn x3 (M a0 (p1 + x3).toNatClampNeg) h) (Nat.le_of_ble_eq_true rfl) dX0_firstFault_13 (fun r1 M2 h => ?_)
      refine r_if_ne hX 21 dX0_firstFault_16 (by decide) (fun hc => ?_) (fun hc => ?_)
      · have h := h.1 hc
        refine r_iinc (v := x3 + 1) (L' := [some (.ref (adX X a0)), some (.int p1), some (.int p2), some (.int (x3 + 1))]) hX dX0_firstFault_21 rfl rfl rfl rfl ?_
        refine r_goto hX 2 dX0_firstFault_24 (by decide) ?_
        refine r_sub [some (.ref (adX X a0)), some (.int p1), some (.int p2), some (.int (x3 + 1))] (And.intro rfl (And.intro rfl (And.intro rfl (And.intro rfl trivial)))) ?_
        exact ih _ _ h
      · have h := h.2 hc
        refine r_iload_n hX dX0_firstFault_19 rfl rfl ?_
        exact r_iret (hret _ _ rfl h) dX0_firstFault_20
def wp_X0_firstFault (a0 : Nat) (n0 : Nat) (p1 : Int32) (p2 : Int32) (M : Mem) (post : Int32 → Mem → Prop) : Prop := (∃ k, lp_X0_firstFault_2 a0 n0 p1 p2 post k 0 M)
set_option maxRecDepth 100000 in
theorem wk_X0_firstFault {X : CT} (a0 : Nat) (n0 : Nat) (p1 : Int32) (p2 : Int32) (hc0 : lyl[a0]? = some (.inr (0, n0))) (hX : okX X RX0 cX0_firstFault 1 21) {M : Mem} {post : Int32 → Mem → Prop} (hret : ∀ (r : Int32) (M' : Mem), narrow .int (.int r) = .int r → post r M' → RetI X cX0_firstFault r M') (h : wp_X0_firstFault a0 n0 p1 p2 M post) : Z X M 0 [some (.ref (adX X a0)), some (.int p1), some (.int p2), none] [] := by
  unfold wp_X0_firstFault at h
  refine r_iconst (v := 0) hX dX0_firstFault_0 (by decide) ?_
  refine r_istore_n (L' := [some (.ref (adX X a0)), some (.int p1), some (.int p2), some (.int 0)]) hX dX0_firstFault_1 rfl (Nat.lt_of_ble rfl) rfl rfl ?_
  obtain ⟨n3, h⟩ := h
  refine r_sub [some (.ref (adX X a0)), some (.int p1), some (.int p2), some (.int 0)] (And.intro rfl (And.intro rfl (And.intro rfl (And.intro rfl trivial)))) ?_
  exact wl_X0_firstFault_2 a0 n0 p1 p2 hc0 hX hret n3 _ _ h
set_option maxRecDepth 100000 in
theorem c_X0_firstFault {l : Launch} {D : va_G} {cs : CS3} {ad : Nat → Nat} (a0 : Nat) (n0 : Nat) (p1 : Int32) (p2 : Int32) (hc0 : lyl[a0]? = some (.inr (0, n0))) {M : Mem} {post : Int32 → Mem → Prop} (h : wp_X0_firstFault a0 n0 p1 p2 M post) : CtI l D cs ad yX0_firstFault cX0_firstFault 4 (some .int) 1 21 [.ref (ad a0), .int p1, .int p2] M post := met_I (k := 1) (fun ad => [.ref (ad a0), .int p1, .int p2]) (fun ad => [some (.ref (ad a0)), some (.int p1), some (.int p2), none]) (by decide +kernel) (fun _ => Nat.le_of_ble_eq_true rfl) (fun _ => rfl) (fun _ => rfl) (fun X hX hret => wk_X0_firstFault a0 n0 p1 p2 hc0 hX hret h)
def wp_X0_kindOf (p0 : Int32) (M : Mem) (post : Int32 → Mem → Prop) : Prop := ((¬ p0 = 116 → ((¬ p0 = 98 → post 0 M) ∧ (p0 = 98 → post 1 M))) ∧ (p0 = 116 → post 2 M))
set_option maxRecDepth 100000 in
theorem wk_X0_kindOf {X : CT} (p0 : Int32) (hX : okX X RX0 cX0_kindOf 0 0) {M : Mem} {post : Int32 → Mem → Prop} (hret : ∀ (r : Int32) (M' : Mem), narrow .int (.int r) = .int r → post r M' → RetI X cX0_kindOf r M') (h : wp_X0_kindOf p0 M post) : Z X M 0 [some (.int p0)] [] := by
  unfold wp_X0_kindOf at h
  refine r_iload_n hX dX0_kindOf_0 rfl rfl ?_
  refine r_bipush (v := 116) hX dX0_kindOf_1 (by decide) ?_
  refine r_icmp_ne hX 8 dX0_kindOf_3 (by decide) (fun hc => ?_) (fun hc => ?_)
  · have h := h.1 hc
    refine r_iload_n hX dX0_kindOf_8 rfl rfl ?_
    refine r_bipush (v := 98) hX dX0_kindOf_9 (by decide) ?_
    refine r_icmp_ne hX 18 dX0_kindOf_11 (by decide) (fun hc => ?_) (fun hc => ?_)
    · have h := h.1 hc
      refine r_iconst (v := 0) hX dX0_kindOf_18 (by decide) ?_
      exact r_iret (hret _ _ rfl h) dX0_kindOf_19
    · have h := h.2 hc
      refine r_iconst (v := 1) hX dX0_kindOf_14 (by decide) ?_
      refine r_goto hX 19 dX0_kindOf_15 (by decide) ?_
      exact r_iret (hret _ _ rfl h) dX0_kindOf_19
  · have h := h.2 hc
    refine r_iconst (v := 2) hX dX0_kindOf_6 (by decide) ?_
    exact r_iret (hret _ _ rfl h) dX0_kindOf_7
set_option maxRecDepth 100000 in
theorem c_X0_kindOf {l : Launch} {D : va_G} {cs : CS3} {ad : Nat → Nat} (p0 : Int32) {M : Mem} {post : Int32 → Mem → Prop} (h : wp_X0_kindOf p0 M post) : CtI l D cs ad yX0_kindOf cX0_kindOf 1 (some .int) 0 0 [.int p0] M post := met_I (k := 0) (fun ad => [.int p0]) (fun ad => [some (.int p0)]) (by decide +kernel) (fun _ => Nat.le_of_ble_eq_true rfl) (fun _ => rfl) (fun _ => rfl) (fun X hX hret => wk_X0_kindOf p0 hX hret h)
def lp_X0_takeText_28 (a1 : Nat) (n1 : Nat) (p2 : Int32) (p3 : Int32) (post : Mem → Prop) : Nat → Int32 → Mem → Prop
  | 0, _, _ => False
  | n + 1, x4, M => (((M 1 3) ≤ x4 → post M) ∧ (¬ (M 1 3) ≤ x4 → (∀ v5 : Int32, v5 = (p2 + 2) + (x4 * 4) → (vp_in (v5 + 1) n1 ∧ (wp_X0_kindOf (M a1 (v5 + 1).toNatClampNeg) M (fun r6 M7 => (vp_in x4 5 ∧ ∀ M8 : Mem, M8 = up2 M7 2 x4.toNatClampNeg r6 → (vp_in (v5 + 2) n1 ∧ (vp_in x4 5 ∧ ∀ M9 : Mem, M9 = up2 M8 3 x4.toNatClampNeg ((M8 a1 (v5 + 2).toNatClampNeg) - 48) → (vp_in (v5 + 3) n1 ∧ (vp_in x4 5 ∧ ∀ M10 : Mem, M10 = up2 M9 4 x4.toNatClampNeg ((M9 a1 (v5 + 3).toNatClampNeg) - 48) → lp_X0_takeText_28 a1 n1 p2 p3 post n (x4 + 1) M10)))))))))))
set_option maxRecDepth 100000 in
theorem wl_X0_takeText_28 {X : CT} (a1 : Nat) (n1 : Nat) (p2 : Int32) (p3 : Int32) (hc1 : lyl[a1]? = some (.inr (0, n1))) (hX : okX X RX0 cX0_takeText 1 21) {post : Mem → Prop} (hret : ∀ (M' : Mem), post M' → RetV X cX0_takeText M') : ∀ (n : Nat) (x4 : Int32) (M : Mem), lp_X0_takeText_28 a1 n1 p2 p3 post n x4 M → Z X M 28 [some (.ref (adX X 1)), some (.ref (adX X a1)), some (.int p2), none, some (.int x4), none] [] := by
  intro n
  induction n with
  | zero =>
    intro x4 M h
    exact False.elim h
  | succ n ih =>
    intro x4 M h
    unfold lp_X0_takeText_28 at h
    refine r_iload hX dX0_takeText_28 rfl ?_
    refine r_aload_n hX dX0_takeText_30 rfl rfl ?_
    refine r_getI hX fg_X0_21 ly_1 rfl dX0_takeText_31 ?_
    refine r_icmp_ge hX 101 dX0_takeText_34 (by decide) (fun hc => ?_) (fun hc => ?_)
    · have h := h.1 hc
      exact r_vret (hret _ h) dX0_takeText_101
    · have h := h.2 hc
      refine r_iload_n hX dX0_takeText_37 rfl rfl ?_
      refine r_iconst (v := 2) hX dX0_takeText_38 (by decide) ?_
      refine r_iadd hX dX0_takeText_39 ?_
      refine r_iload hX dX0_takeText_40 rfl ?_
      refine r_iconst (v := 4) hX dX0_takeText_42 (by decide) ?_
      refine r_imul hX dX0_takeText_43 ?_
      refine r_iadd hX dX0_takeText_44 ?_
      refine r_nm (fun v5 ev5 => ?_)
      have h := h v5 ev5
      refine r_istore (L' := [some (.ref (adX X 1)), some (.ref (adX X a1)), some (.int p2), none, some (.int x4), some (.int v5)]) hX dX0_takeText_45 (Nat.lt_of_ble rfl) rfl rfl ?_
      refine r_aload_n hX dX0_takeText_47 rfl rfl ?_
      refine r_getR hX fg_X0_9 ly_1 rfl dX0_takeText_48 ?_
      refine r_iload hX dX0_takeText_51 rfl ?_
      refine r_aload_n hX dX0_takeText_53 rfl rfl ?_
      refine r_iload hX dX0_takeText_54 rfl ?_
      refine r_iconst (v := 1) hX dX0_takeText_56 (by decide) ?_
      refine r_iadd hX dX0_takeText_57 ?_
      refine r_iald hX hc1 h.1 dX0_takeText_58 ?_
      have h := h.2
      refine r_cSi1 hX fs_X0_42 ⟨Nat.le_of_ble_eq_true rfl, Nat.le_of_ble_eq_true rfl⟩ (c_X0_kindOf (M a1 (v5 + 1).toNatClampNeg) h) (Nat.le_of_ble_eq_true rfl) dX0_takeText_59 (fun r6 M7 h => ?_)
      refine r_iast hX ly_2 h.1 dX0_takeText_62 ?_
      refine r_nmM (fun M8 eM8 => ?_)
      have h := h.2 M8 eM8
      refine r_aload_n hX dX0_takeText_63 rfl rfl ?_
      refine r_getR hX fg_X0_15 ly_1 rfl dX0_takeText_64 ?_
      refine r_iload hX dX0_takeText_67 rfl ?_
      refine r_aload_n hX dX0_takeText_69 rfl rfl ?_
      refine r_iload hX dX0_takeText_70 rfl ?_
      refine r_iconst (v := 2) hX dX0_takeText_72 (by decide) ?_
      refine r_iadd hX dX0_takeText_73 ?_
      refine r_iald hX hc1 h.1 dX0_takeText_74 ?_
      have h := h.2
      refine r_bipush (v := 48) hX dX0_takeText_75 (by decide) ?_
      refine r_isub hX dX0_takeText_77 ?_
      refine r_iast hX ly_3 h.1 dX0_takeText_78 ?_
      refine r_nmM (fun M9 eM9 => ?_)
      have h := h.2 M9 eM9
      refine r_aload_n hX dX0_takeText_79 rfl rfl ?_
      refine r_getR hX fg_X0_18 ly_1 rfl dX0_takeText_80 ?_
      refine r_iload hX dX0_takeText_83 rfl ?_
      refine r_aload_n hX dX0_takeText_85 rfl rfl ?_
      refine r_iload hX dX0_takeText_86 rfl ?_
      refine r_iconst (v := 3) hX dX0_takeText_88 (by decide) ?_
      refine r_iadd hX dX0_takeText_89 ?_
      refine r_iald hX hc1 h.1 dX0_takeText_90 ?_
      have h := h.2
      refine r_bipush (v := 48) hX dX0_takeText_91 (by decide) ?_
      refine r_isub hX dX0_takeText_93 ?_
      refine r_iast hX ly_4 h.1 dX0_takeText_94 ?_
      refine r_nmM (fun M10 eM10 => ?_)
      have h := h.2 M10 eM10
      refine r_iinc (v := x4 + 1) (L' := [some (.ref (adX X 1)), some (.ref (adX X a1)), some (.int p2), none, some (.int (x4 + 1)), some (.int v5)]) hX dX0_takeText_95 rfl rfl rfl rfl ?_
      refine r_goto hX 28 dX0_takeText_98 (by decide) ?_
      refine r_sub [some (.ref (adX X 1)), some (.ref (adX X a1)), some (.int p2), none, some (.int (x4 + 1)), none] (And.intro rfl (And.intro rfl (And.intro rfl (And.intro rfl trivial)))) ?_
      exact ih _ _ h
def wp_X0_takeText (a1 : Nat) (n1 : Nat) (p2 : Int32) (p3 : Int32) (M : Mem) (post : Mem → Prop) : Prop := (vp_in (p2 + 1) n1 ∧ (∀ M1 : Mem, M1 = up2 M 1 4 ((M a1 (p2 + 1).toNatClampNeg) - 48) → (wp_J9_min_7cf53 ((p3 - 2) / 4) 5 M1 (fun r2 M3 => (∀ M4 : Mem, M4 = up2 M3 1 3 r2 → (∃ k, lp_X0_takeText_28 a1 n1 p2 p3 post k 0 M4))))))
set_option maxRecDepth 100000 in
theorem wk_X0_takeText {X : CT} (a1 : Nat) (n1 : Nat) (p2 : Int32) (p3 : Int32) (hc1 : lyl[a1]? = some (.inr (0, n1))) (hX : okX X RX0 cX0_takeText 1 21) {M : Mem} {post : Mem → Prop} (hret : ∀ (M' : Mem), post M' → RetV X cX0_takeText M') (h : wp_X0_takeText a1 n1 p2 p3 M post) : Z X M 0 [some (.ref (adX X 1)), some (.ref (adX X a1)), some (.int p2), some (.int p3), none, none] [] := by
  unfold wp_X0_takeText at h
  refine r_aload_n hX dX0_takeText_0 rfl rfl ?_
  refine r_aload_n hX dX0_takeText_1 rfl rfl ?_
  refine r_iload_n hX dX0_takeText_2 rfl rfl ?_
  refine r_iconst (v := 1) hX dX0_takeText_3 (by decide) ?_
  refine r_iadd hX dX0_takeText_4 ?_
  refine r_iald hX hc1 h.1 dX0_takeText_5 ?_
  have h := h.2
  refine r_bipush (v := 48) hX dX0_takeText_6 (by decide) ?_
  refine r_isub hX dX0_takeText_8 ?_
  refine r_putI hX fp_X0_25 ly_1 rfl dX0_takeText_9 ?_
  refine r_nmM (fun M1 eM1 => ?_)
  have h := h M1 eM1
  refine r_aload_n hX dX0_takeText_12 rfl rfl ?_
  refine r_iload_n hX dX0_takeText_13 rfl rfl ?_
  refine r_iconst (v := 2) hX dX0_takeText_14 (by decide) ?_
  refine r_isub hX dX0_takeText_15 ?_
  refine r_iconst (v := 4) hX dX0_takeText_16 (by decide) ?_
  refine r_idiv hX dX0_takeText_17 (by decide) ?_
  refine r_iconst (v := 5) hX dX0_takeText_18 (by decide) ?_
  refine r_cSi2 hX fs_X0_36 ⟨Nat.le_of_ble_eq_true rfl, Nat.le_of_ble_eq_true rfl⟩ (c_J9_min_7cf53 ((p3 - 2) / 4) 5 h) (Nat.le_of_ble_eq_true rfl) dX0_takeText_19 (fun r2 M3 h => ?_)
  refine r_putI hX fp_X0_21 ly_1 rfl dX0_takeText_22 ?_
  refine r_nmM (fun M4 eM4 => ?_)
  have h := h M4 eM4
  refine r_iconst (v := 0) hX dX0_takeText_25 (by decide) ?_
  refine r_istore (L' := [some (.ref (adX X 1)), some (.ref (adX X a1)), some (.int p2), some (.int p3), some (.int 0), none]) hX dX0_takeText_26 (Nat.lt_of_ble rfl) rfl rfl ?_
  obtain ⟨n11, h⟩ := h
  refine r_sub [some (.ref (adX X 1)), some (.ref (adX X a1)), some (.int p2), none, some (.int 0), none] (And.intro rfl (And.intro rfl (And.intro rfl (And.intro rfl trivial)))) ?_
  exact wl_X0_takeText_28 a1 n1 p2 p3 hc1 hX hret n11 _ _ h
set_option maxRecDepth 100000 in
theorem c_X0_takeText {l : Launch} {D : va_G} {cs : CS3} {ad : Nat → Nat} (a1 : Nat) (n1 : Nat) (p2 : Int32) (p3 : Int32) (hc1 : lyl[a1]? = some (.inr (0, n1))) {M : Mem} {post : Mem → Prop} (h : wp_X0_takeText a1 n1 p2 p3 M post) : CtV l D cs ad yX0_takeText cX0_takeText 6 none 1 21 [.ref (ad 1), .ref (ad a1), .int p2, .int p3] M post := met_V (k := 2) (fun ad => [.ref (ad 1), .ref (ad a1), .int p2, .int p3]) (fun ad => [some (.ref (ad 1)), some (.ref (ad a1)), some (.int p2), some (.int p3), none, none]) (by decide +kernel) (fun _ => Nat.le_of_ble_eq_true rfl) (fun _ => rfl) (fun _ => rfl) (fun X hX hret => wk_X0_takeText a1 n1 p2 p3 hc1 hX hret h)
