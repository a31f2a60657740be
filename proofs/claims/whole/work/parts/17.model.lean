def wp_X6_fails (p1 : Int32) (M : Mem) (post : Int32 → Mem → Prop) : Prop := (∀ M1 : Mem, M1 = up2 M 34 0 p1 → post ((-10) - p1) M1)
set_option maxRecDepth 100000 in
theorem wk_X6_fails {X : CT} (p1 : Int32) (hX : okX X RX6 cX6_fails 0 0) {M : Mem} {post : Int32 → Mem → Prop} (hret : ∀ (r : Int32) (M' : Mem), narrow .int (.int r) = .int r → post r M' → RetI X cX6_fails r M') (h : wp_X6_fails p1 M post) : Z X M 0 [some (.ref (adX X 34)), some (.int p1)] [] := by
  unfold wp_X6_fails at h
  refine r_aload_n hX dX6_fails_0 rfl rfl ?_
  refine r_iload_n hX dX6_fails_1 rfl rfl ?_
  refine r_putI hX fp_X6_78 ly_34 rfl dX6_fails_2 ?_
  refine r_nmM (fun M1 eM1 => ?_)
  have h := h M1 eM1
  refine r_bipush (v := (-10)) hX dX6_fails_5 (by decide) ?_
  refine r_iload_n hX dX6_fails_7 rfl rfl ?_
  refine r_isub hX dX6_fails_8 ?_
  exact r_iret (hret _ _ rfl h) dX6_fails_9
set_option maxRecDepth 100000 in
theorem c_X6_fails {l : Launch} {D : va_G} {cs : CS3} {ad : Nat → Nat} (p1 : Int32) {M : Mem} {post : Int32 → Mem → Prop} (h : wp_X6_fails p1 M post) : CtI l D cs ad yX6_fails cX6_fails 2 (some .int) 0 0 [.ref (ad 34), .int p1] M post := met_I (k := 0) (fun ad => [.ref (ad 34), .int p1]) (fun ad => [some (.ref (ad 34)), some (.int p1)]) (by decide +kernel) (fun _ => Nat.le_of_ble_eq_true rfl) (fun _ => rfl) (fun _ => rfl) (fun X hX hret => wk_X6_fails p1 hX hret h)
def wp_X6_lost (p1 : Int32) (M : Mem) (post : Int64 → Mem → Prop) : Prop := (∀ M1 : Mem, M1 = up2 M 34 0 p1 → post (-9223372036854775808) M1)
set_option maxRecDepth 100000 in
theorem wk_X6_lost {X : CT} (p1 : Int32) (hX : okX X RX6 cX6_lost 0 0) {M : Mem} {post : Int64 → Mem → Prop} (hret : ∀ (r : Int64) (M' : Mem), post r M' → RetL X cX6_lost r M') (h : wp_X6_lost p1 M post) : Z X M 0 [some (.ref (adX X 34)), some (.int p1)] [] := by
  unfold wp_X6_lost at h
  refine r_aload_n hX dX6_lost_0 rfl rfl ?_
  refine r_iload_n hX dX6_lost_1 rfl rfl ?_
  refine r_putI hX fp_X6_78 ly_34 rfl dX6_lost_2 ?_
  refine r_nmM (fun M1 eM1 => ?_)
  have h := h M1 eM1
  refine r_ldc2 (v := (-9223372036854775808)) hX kw_X6_81 dX6_lost_5 ?_
  exact r_lret (hret _ _ h) dX6_lost_8
set_option maxRecDepth 100000 in
theorem c_X6_lost {l : Launch} {D : va_G} {cs : CS3} {ad : Nat → Nat} (p1 : Int32) {M : Mem} {post : Int64 → Mem → Prop} (h : wp_X6_lost p1 M post) : CtL l D cs ad yX6_lost cX6_lost 2 (some .long) 0 0 [.ref (ad 34), .int p1] M post := met_L (k := 0) (fun ad => [.ref (ad 34), .int p1]) (fun ad => [some (.ref (ad 34)), some (.int p1)]) (by decide +kernel) (fun _ => Nat.le_of_ble_eq_true rfl) (fun _ => rfl) (fun _ => rfl) (fun X hX hret => wk_X6_lost p1 hX hret h)
def wp_X6_within (p0 : Int32) (p1 : Int32) (p2 : Int32) (M : Mem) (post : Int32 → Mem → Prop) : Prop := ((p0 < p1 → post 0 M) ∧ (¬ p0 < p1 → ((p2 < p0 → post 0 M) ∧ (¬ p2 < p0 → post 1 M))))
set_option maxRecDepth 100000 in
theorem wk_X6_within {X : CT} (p0 : Int32) (p1 : Int32) (p2 : Int32) (hX : okX X RX6 cX6_within 0 0) {M : Mem} {post : Int32 → Mem → Prop} (hret : ∀ (r : Int32) (M' : Mem), narrow .boolean (.int r) = .int r → post r M' → RetI X cX6_within r M') (h : wp_X6_within p0 p1 p2 M post) : Z X M 0 [some (.int p0), some (.int p1), some (.int p2)] [] := by
  unfold wp_X6_within at h
  refine r_iload_n hX dX6_within_0 rfl rfl ?_
  refine r_iload_n hX dX6_within_1 rfl rfl ?_
  refine r_icmp_lt hX 14 dX6_within_2 (by decide) (fun hc => ?_) (fun hc => ?_)
  · have h := h.1 hc
    refine r_iconst (v := 0) hX dX6_within_14 (by decide) ?_
    exact r_iret (hret _ _ rfl h) dX6_within_15
  · have h := h.2 hc
    refine r_iload_n hX dX6_within_5 rfl rfl ?_
    refine r_iload_n hX dX6_within_6 rfl rfl ?_
    refine r_icmp_gt hX 14 dX6_within_7 (by decide) (fun hc => ?_) (fun hc => ?_)
    · have h := h.1 hc
      refine r_iconst (v := 0) hX dX6_within_14 (by decide) ?_
      exact r_iret (hret _ _ rfl h) dX6_within_15
    · have h := h.2 hc
      refine r_iconst (v := 1) hX dX6_within_10 (by decide) ?_
      refine r_goto hX 15 dX6_within_11 (by decide) ?_
      exact r_iret (hret _ _ rfl h) dX6_within_15
set_option maxRecDepth 100000 in
theorem c_X6_within {l : Launch} {D : va_G} {cs : CS3} {ad : Nat → Nat} (p0 : Int32) (p1 : Int32) (p2 : Int32) {M : Mem} {post : Int32 → Mem → Prop} (h : wp_X6_within p0 p1 p2 M post) : CtI l D cs ad yX6_within cX6_within 3 (some .boolean) 0 0 [.int p0, .int p1, .int p2] M post := met_I (k := 0) (fun ad => [.int p0, .int p1, .int p2]) (fun ad => [some (.int p0), some (.int p1), some (.int p2)]) (by decide +kernel) (fun _ => Nat.le_of_ble_eq_true rfl) (fun _ => rfl) (fun _ => rfl) (fun X hX hret => wk_X6_within p0 p1 p2 hX hret h)
def wp_X6_isSheet (p0 : Int32) (M : Mem) (post : Int32 → Mem → Prop) : Prop := (wp_X6_within p0 0 3 M (fun r1 M2 => (narrow .boolean (.int r1) = .int r1 ∧ post r1 M2)))
set_option maxRecDepth 100000 in
theorem wk_X6_isSheet {X : CT} (p0 : Int32) (hX : okX X RX6 cX6_isSheet 1 22) {M : Mem} {post : Int32 → Mem → Prop} (hret : ∀ (r : Int32) (M' : Mem), narrow .boolean (.int r) = .int r → post r M' → RetI X cX6_isSheet r M') (h : wp_X6_isSheet p0 M post) : Z X M 0 [some (.int p0)] [] := by
  unfold wp_X6_isSheet at h
  refine r_iload_n hX dX6_isSheet_0 rfl rfl ?_
  refine r_iconst (v := 0) hX dX6_isSheet_1 (by decide) ?_
  refine r_iconst (v := 3) hX dX6_isSheet_2 (by decide) ?_
  refine r_cSi3 hX fs_X6_83 ⟨Nat.le_of_ble_eq_true rfl, Nat.le_of_ble_eq_true rfl⟩ (c_X6_within p0 0 3 h) (Nat.le_of_ble_eq_true rfl) dX6_isSheet_3 (fun r1 M2 h => ?_)
  exact r_iret (hret _ _ h.1 h.2) dX6_isSheet_6
set_option maxRecDepth 100000 in
theorem c_X6_isSheet {l : Launch} {D : va_G} {cs : CS3} {ad : Nat → Nat} (p0 : Int32) {M : Mem} {post : Int32 → Mem → Prop} (h : wp_X6_isSheet p0 M post) : CtI l D cs ad yX6_isSheet cX6_isSheet 1 (some .boolean) 1 22 [.int p0] M post := met_I (k := 0) (fun ad => [.int p0]) (fun ad => [some (.int p0)]) (by decide +kernel) (fun _ => Nat.le_of_ble_eq_true rfl) (fun _ => rfl) (fun _ => rfl) (fun X hX hret => wk_X6_isSheet p0 hX hret h)
def wp_X6_isSort (p0 : Int32) (M : Mem) (post : Int32 → Mem → Prop) : Prop := (wp_X6_within p0 0 2 M (fun r1 M2 => (narrow .boolean (.int r1) = .int r1 ∧ post r1 M2)))
set_option maxRecDepth 100000 in
theorem wk_X6_isSort {X : CT} (p0 : Int32) (hX : okX X RX6 cX6_isSort 1 22) {M : Mem} {post : Int32 → Mem → Prop} (hret : ∀ (r : Int32) (M' : Mem), narrow .boolean (.int r) = .int r → post r M' → RetI X cX6_isSort r M') (h : wp_X6_isSort p0 M post) : Z X M 0 [some (.int p0)] [] := by
  unfold wp_X6_isSort at h
  refine r_iload_n hX dX6_isSort_0 rfl rfl ?_
  refine r_iconst (v := 0) hX dX6_isSort_1 (by decide) ?_
  refine r_iconst (v := 2) hX dX6_isSort_2 (by decide) ?_
  refine r_cSi3 hX fs_X6_83 ⟨Nat.le_of_ble_eq_true rfl, Nat.le_of_ble_eq_true rfl⟩ (c_X6_within p0 0 2 h) (Nat.le_of_ble_eq_true rfl) dX6_isSort_3 (fun r1 M2 h => ?_)
  exact r_iret (hret _ _ h.1 h.2) dX6_isSort_6
set_option maxRecDepth 100000 in
theorem c_X6_isSort {l : Launch} {D : va_G} {cs : CS3} {ad : Nat → Nat} (p0 : Int32) {M : Mem} {post : Int32 → Mem → Prop} (h : wp_X6_isSort p0 M post) : CtI l D cs ad yX6_isSort cX6_isSort 1 (some .boolean) 1 22 [.int p0] M post := met_I (k := 0) (fun ad => [.int p0]) (fun ad => [some (.int p0)]) (by decide +kernel) (fun _ => Nat.le_of_ble_eq_true rfl) (fun _ => rfl) (fun _ => rfl) (fun X hX hret => wk_X6_isSort p0 hX hret h)
def jn_X6_against_23 (p1 : Int32) (p2 : Int32) (p3 : Int32) (p4 : Int32) (post : Int32 → Mem → Prop) (M : Mem) : Prop := (vp_in p1 4 ∧ ((¬ (M 35 p1.toNatClampNeg) = (-9) → ((0 ≤ p4 → ((p3 < 0 → post 3 M) ∧ (¬ p3 < 0 → (vp_in p1 4 ∧ (((M 36 p1.toNatClampNeg) < p3 → post 3 M) ∧ (¬ (M 36 p1.toNatClampNeg) < p3 → (vp_in p1 4 ∧ ((p4 ≤ ((M 36 p1.toNatClampNeg) - p3) → post 0 M) ∧ (¬ p4 ≤ ((M 36 p1.toNatClampNeg) - p3) → post 3 M))))))))) ∧ (¬ 0 ≤ p4 → post 4 M))) ∧ ((M 35 p1.toNatClampNeg) = (-9) → post 1 M)))
set_option maxRecDepth 100000 in
theorem wj_X6_against_23 {X : CT} (p1 : Int32) (p2 : Int32) (p3 : Int32) (p4 : Int32) (hX : okX X RX6 cX6_against 0 0) {post : Int32 → Mem → Prop} (hret : ∀ (r : Int32) (M' : Mem), narrow .int (.int r) = .int r → post r M' → RetI X cX6_against r M') (M : Mem) (h : jn_X6_against_23 p1 p2 p3 p4 post M) : Z X M 23 [some (.ref (adX X 34)), some (.int p1), none, some (.int p3), some (.int p4)] [] := by
  unfold jn_X6_against_23 at h
  refine r_aload_n hX dX6_against_23 rfl rfl ?_
  refine r_getR hX fg_X6_9 ly_34 rfl dX6_against_24 ?_
  refine r_iload_n hX dX6_against_27 rfl rfl ?_
  refine r_iald hX ly_35 h.1 dX6_against_28 ?_
  have h := h.2
  refine r_bipush (v := (-9)) hX dX6_against_29 (by decide) ?_
  refine r_icmp_ne hX 36 dX6_against_31 (by decide) (fun hc => ?_) (fun hc => ?_)
  · have h := h.1 hc
    refine r_iload hX dX6_against_36 rfl ?_
    refine r_if_ge hX 43 dX6_against_38 (by decide) (fun hc => ?_) (fun hc => ?_)
    · have h := h.1 hc
      refine r_iload_n hX dX6_against_43 rfl rfl ?_
      refine r_if_lt hX 70 dX6_against_44 (by decide) (fun hc => ?_) (fun hc => ?_)
      · have h := h.1 hc
        refine r_iconst (v := 3) hX dX6_against_70 (by decide) ?_
        refine r_goto hX 75 dX6_against_71 (by decide) ?_
        exact r_iret (hret _ _ rfl h) dX6_against_75
      · have h := h.2 hc
        refine r_iload_n hX dX6_against_47 rfl rfl ?_
        refine r_aload_n hX dX6_against_48 rfl rfl ?_
        refine r_getR hX fg_X6_13 ly_34 rfl dX6_against_49 ?_
        refine r_iload_n hX dX6_against_52 rfl rfl ?_
        refine r_iald hX ly_36 h.1 dX6_against_53 ?_
        have h := h.2
        refine r_icmp_gt hX 70 dX6_against_54 (by decide) (fun hc => ?_) (fun hc => ?_)
        · have h := h.1 hc
          refine r_iconst (v := 3) hX dX6_against_70 (by decide) ?_
          refine r_goto hX 75 dX6_against_71 (by decide) ?_
          exact r_iret (hret _ _ rfl h) dX6_against_75
        · have h := h.2 hc
          refine r_iload hX dX6_against_57 rfl ?_
          refine r_aload_n hX dX6_against_59 rfl rfl ?_
          refine r_getR hX fg_X6_13 ly_34 rfl dX6_against_60 ?_
          refine r_iload_n hX dX6_against_63 rfl rfl ?_
          refine r_iald hX ly_36 h.1 dX6_against_64 ?_
          have h := h.2
          refine r_iload_n hX dX6_against_65 rfl rfl ?_
          refine r_isub hX dX6_against_66 ?_
          refine r_icmp_le hX 74 dX6_against_67 (by decide) (fun hc => ?_) (fun hc => ?_)
          · have h := h.1 hc
            refine r_iconst (v := 0) hX dX6_against_74 (by decide) ?_
            exact r_iret (hret _ _ rfl h) dX6_against_75
          · have h := h.2 hc
            refine r_iconst (v := 3) hX dX6_against_70 (by decide) ?_
            refine r_goto hX 75 dX6_against_71 (by decide) ?_
            exact r_iret (hret _ _ rfl h) dX6_against_75
    · have h := h.2 hc
      refine r_iconst (v := 4) hX dX6_against_41 (by decide) ?_
      exact r_iret (hret _ _ rfl h) dX6_against_42
  · have h := h.2 hc
    refine r_iconst (v := 1) hX dX6_against_34 (by decide) ?_
    exact r_iret (hret _ _ rfl h) dX6_against_35
def wp_X6_against (p1 : Int32) (p2 : Int32) (p3 : Int32) (p4 : Int32) (M : Mem) (post : Int32 → Mem → Prop) : Prop := (vp_in p1 4 ∧ (((M 35 p1.toNatClampNeg) = (-9) → jn_X6_against_23 p1 p2 p3 p4 post M) ∧ (¬ (M 35 p1.toNatClampNeg) = (-9) → (vp_in p1 4 ∧ (((M 35 p1.toNatClampNeg) = p2 → jn_X6_against_23 p1 p2 p3 p4 post M) ∧ (¬ (M 35 p1.toNatClampNeg) = p2 → post 2 M))))))
set_option maxRecDepth 100000 in
theorem wk_X6_against {X : CT} (p1 : Int32) (p2 : Int32) (p3 : Int32) (p4 : Int32) (hX : okX X RX6 cX6_against 0 0) {M : Mem} {post : Int32 → Mem → Prop} (hret : ∀ (r : Int32) (M' : Mem), narrow .int (.int r) = .int r → post r M' → RetI X cX6_against r M') (h : wp_X6_against p1 p2 p3 p4 M post) : Z X M 0 [some (.ref (adX X 34)), some (.int p1), some (.int p2), some (.int p3), some (.int p4)] [] := by
  unfold wp_X6_against at h
  refine r_aload_n hX dX6_against_0 rfl rfl ?_
  refine r_getR hX fg_X6_9 ly_34 rfl dX6_against_1 ?_
  refine r_iload_n hX dX6_against_4 rfl rfl ?_
  refine r_iald hX ly_35 h.1 dX6_against_5 ?_
  have h := h.2
  refine r_bipush (v := (-9)) hX dX6_against_6 (by decide) ?_
  refine r_icmp_eq hX 23 dX6_against_8 (by decide) (fun hc => ?_) (fun hc => ?_)
  · have h := h.1 hc
    refine r_sub [some (.ref (adX X 34)), some (.int p1), none, some (.int p3), some (.int p4)] (And.intro rfl (And.intro rfl (And.intro rfl (And.intro rfl trivial)))) ?_
    exact wj_X6_against_23 p1 p2 p3 p4 hX hret _ h
  · have h := h.2 hc
    refine r_aload_n hX dX6_against_11 rfl rfl ?_
    refine r_getR hX fg_X6_9 ly_34 rfl dX6_against_12 ?_
    refine r_iload_n hX dX6_against_15 rfl rfl ?_
    refine r_iald hX ly_35 h.1 dX6_against_16 ?_
    have h := h.2
    refine r_iload_n hX dX6_against_17 rfl rfl ?_
    refine r_icmp_eq hX 23 dX6_against_18 (by decide) (fun hc => ?_) (fun hc => ?_)
    · have h := h.1 hc
      refine r_sub [some (.ref (adX X 34)), some (.int p1), none, some (.int p3), some (.int p4)] (And.intro rfl (And.intro rfl (And.intro rfl (And.intro rfl trivial)))) ?_
      exact wj_X6_against_23 p1 p2 p3 p4 hX hret _ h
    · have h := h.2 hc
      refine r_iconst (v := 2) hX dX6_against_21 (by decide) ?_
      exact r_iret (hret _ _ rfl h) dX6_against_22
set_option maxRecDepth 100000 in
theorem c_X6_against {l : Launch} {D : va_G} {cs : CS3} {ad : Nat → Nat} (p1 : Int32) (p2 : Int32) (p3 : Int32) (p4 : Int32) {M : Mem} {post : Int32 → Mem → Prop} (h : wp_X6_against p1 p2 p3 p4 M post) : CtI l D cs ad yX6_against cX6_against 5 (some .int) 0 0 [.ref (ad 34), .int p1, .int p2, .int p3, .int p4] M post := met_I (k := 0) (fun ad => [.ref (ad 34), .int p1, .int p2, .int p3, .int p4]) (fun ad => [some (.ref (ad 34)), some (.int p1), some (.int p2), some (.int p3), some (.int p4)]) (by decide +kernel) (fun _ => Nat.le_of_ble_eq_true rfl) (fun _ => rfl) (fun _ => rfl) (fun X hX hret => wk_X6_against p1 p2 p3 p4 hX hret h)
def wp_X6_isGuest (p1 : Int32) (M : Mem) (post : Int32 → Mem → Prop) : Prop := ((p1 < 0 → post 0 M) ∧ (¬ p1 < 0 → (((M 34 5) ≤ p1 → post 0 M) ∧ (¬ (M 34 5) ≤ p1 → post 1 M))))
set_option maxRecDepth 100000 in
theorem wk_X6_isGuest {X : CT} (p1 : Int32) (hX : okX X RX6 cX6_isGuest 0 0) {M : Mem} {post : Int32 → Mem → Prop} (hret : ∀ (r : Int32) (M' : Mem), narrow .boolean (.int r) = .int r → post r M' → RetI X cX6_isGuest r M') (h : wp_X6_isGuest p1 M post) : Z X M 0 [some (.ref (adX X 34)), some (.int p1)] [] := by
  unfold wp_X6_isGuest at h
  refine r_iload_n hX dX6_isGuest_0 rfl rfl ?_
  refine r_if_lt hX 16 dX6_isGuest_1 (by decide) (fun hc => ?_) (fun hc => ?_)
  · have h := h.1 hc
    refine r_iconst (v := 0) hX dX6_isGuest_16 (by decide) ?_
    exact r_iret (hret _ _ rfl h) dX6_isGuest_17
  · have h := h.2 hc
    refine r_iload_n hX dX6_isGuest_4 rfl rfl ?_
    refine r_aload_n hX dX6_isGuest_5 rfl rfl ?_
    refine r_getI hX fg_X6_87 ly_34 rfl dX6_isGuest_6 ?_
    refine r_icmp_ge hX 16 dX6_isGuest_9 (by decide) (fun hc => ?_) (fun hc => ?_)
    · have h := h.1 hc
      refine r_iconst (v := 0) hX dX6_isGuest_16 (by decide) ?_
      exact r_iret (hret _ _ rfl h) dX6_isGuest_17
    · have h := h.2 hc
      refine r_iconst (v := 1) hX dX6_isGuest_12 (by decide) ?_
      refine r_goto hX 17 dX6_isGuest_13 (by decide) ?_
      exact r_iret (hret _ _ rfl h) dX6_isGuest_17
set_option maxRecDepth 100000 in
theorem c_X6_isGuest {l : Launch} {D : va_G} {cs : CS3} {ad : Nat → Nat} (p1 : Int32) {M : Mem} {post : Int32 → Mem → Prop} (h : wp_X6_isGuest p1 M post) : CtI l D cs ad yX6_isGuest cX6_isGuest 2 (some .boolean) 0 0 [.ref (ad 34), .int p1] M post := met_I (k := 0) (fun ad => [.ref (ad 34), .int p1]) (fun ad => [some (.ref (ad 34)), some (.int p1)]) (by decide +kernel) (fun _ => Nat.le_of_ble_eq_true rfl) (fun _ => rfl) (fun _ => rfl) (fun X hX hret => wk_X6_isGuest p1 hX hret h)
def wp_X6_isChair (p1 : Int32) (M : Mem) (post : Int32 → Mem → Prop) : Prop := ((p1 < 0 → post 0 M) ∧ (¬ p1 < 0 → (((M 34 6) ≤ p1 → post 0 M) ∧ (¬ (M 34 6) ≤ p1 → post 1 M))))
set_option maxRecDepth 100000 in
theorem wk_X6_isChair {X : CT} (p1 : Int32) (hX : okX X RX6 cX6_isChair 0 0) {M : Mem} {post : Int32 → Mem → Prop} (hret : ∀ (r : Int32) (M' : Mem), narrow .boolean (.int r) = .int r → post r M' → RetI X cX6_isChair r M') (h : wp_X6_isChair p1 M post) : Z X M 0 [some (.ref (adX X 34)), some (.int p1)] [] := by
  unfold wp_X6_isChair at h
  refine r_iload_n hX dX6_isChair_0 rfl rfl ?_
  refine r_if_lt hX 16 dX6_isChair_1 (by decide) (fun hc => ?_) (fun hc => ?_)
  · have h := h.1 hc
    refine r_iconst (v := 0) hX dX6_isChair_16 (by decide) ?_
    exact r_iret (hret _ _ rfl h) dX6_isChair_17
  · have h := h.2 hc
    refine r_iload_n hX dX6_isChair_4 rfl rfl ?_
    refine r_aload_n hX dX6_isChair_5 rfl rfl ?_
    refine r_getI hX fg_X6_90 ly_34 rfl dX6_isChair_6 ?_
    refine r_icmp_ge hX 16 dX6_isChair_9 (by decide) (fun hc => ?_) (fun hc => ?_)
    · have h := h.1 hc
      refine r_iconst (v := 0) hX dX6_isChair_16 (by decide) ?_
      exact r_iret (hret _ _ rfl h) dX6_isChair_17
    · have h := h.2 hc
      refine r_iconst (v := 1) hX dX6_isChair_12 (by decide) ?_
      refine r_goto hX 17 dX6_isChair_13 (by decide) ?_
      exact r_iret (hret _ _ rfl h) dX6_isChair_17
set_option maxRecDepth 100000 in
theorem c_X6_isChair {l : Launch} {D : va_G} {cs : CS3} {ad : Nat → Nat} (p1 : Int32) {M : Mem} {post : Int32 → Mem → Prop} (h : wp_X6_isChair p1 M post) : CtI l D cs ad yX6_isChair cX6_isChair 2 (some .boolean) 0 0 [.ref (ad 34), .int p1] M post := met_I (k := 0) (fun ad => [.ref (ad 34), .int p1]) (fun ad => [some (.ref (ad 34)), some (.int p1)]) (by decide +kernel) (fun _ => Nat.le_of_ble_eq_true rfl) (fun _ => rfl) (fun _ => rfl) (fun X hX hret => wk_X6_isChair p1 hX hret h)
def wp_X6_isDinner (p0 : Int32) (M : Mem) (post : Int32 → Mem → Prop) : Prop := (wp_X6_within p0 0 19 M (fun r1 M2 => (narrow .boolean (.int r1) = .int r1 ∧ post r1 M2)))
set_option maxRecDepth 100000 in
theorem wk_X6_isDinner {X : CT} (p0 : Int32) (hX : okX X RX6 cX6_isDinner 1 22) {M : Mem} {post : Int32 → Mem → Prop} (hret : ∀ (r : Int32) (M' : Mem), narrow .boolean (.int r) = .int r → post r M' → RetI X cX6_isDinner r M') (h : wp_X6_isDinner p0 M post) : Z X M 0 [some (.int p0)] [] := by
  unfold wp_X6_isDinner at h
  refine r_iload_n hX dX6_isDinner_0 rfl rfl ?_
  refine r_iconst (v := 0) hX dX6_isDinner_1 (by decide) ?_
  refine r_bipush (v := 19) hX dX6_isDinner_2 (by decide) ?_
  refine r_cSi3 hX fs_X6_83 ⟨Nat.le_of_ble_eq_true rfl, Nat.le_of_ble_eq_true rfl⟩ (c_X6_within p0 0 19 h) (Nat.le_of_ble_eq_true rfl) dX6_isDinner_4 (fun r1 M2 h => ?_)
  exact r_iret (hret _ _ h.1 h.2) dX6_isDinner_7
set_option maxRecDepth 100000 in
theorem c_X6_isDinner {l : Launch} {D : va_G} {cs : CS3} {ad : Nat → Nat} (p0 : Int32) {M : Mem} {post : Int32 → Mem → Prop} (h : wp_X6_isDinner p0 M post) : CtI l D cs ad yX6_isDinner cX6_isDinner 1 (some .boolean) 1 22 [.int p0] M post := met_I (k := 0) (fun ad => [.int p0]) (fun ad => [some (.int p0)]) (by decide +kernel) (fun _ => Nat.le_of_ble_eq_true rfl) (fun _ => rfl) (fun _ => rfl) (fun X hX hret => wk_X6_isDinner p0 hX hret h)
def wp_X6_digit (p1 : Int32) (p2 : Int32) (p3 : Int32) (M : Mem) (post : Int32 → Mem → Prop) : Prop := ((p1 ≤ (M 34 20) → post (-9) M) ∧ (¬ p1 ≤ (M 34 20) → (vp_in (M 34 20) 240 ∧ (wp_X6_within (M 37 (M 34 20).toNatClampNeg) (48 + p2) (48 + p3) M (fun r1 M2 => ((¬ r1 = 0 → (∀ M3 : Mem, M3 = up2 M2 34 20 ((M2 34 20) + 1) → (vp_in ((M3 34 20) - 1) 240 ∧ post ((M3 37 ((M3 34 20) - 1).toNatClampNeg) - 48) M3))) ∧ (r1 = 0 → post (-9) M2)))))))
set_option maxRecDepth 100000 in
theorem wk_X6_digit {X : CT} (p1 : Int32) (p2 : Int32) (p3 : Int32) (hX : okX X RX6 cX6_digit 1 22) {M : Mem} {post : Int32 → Mem → Prop} (hret : ∀ (r : Int32) (M' : Mem), narrow .int (.int r) = .int r → post r M' → RetI X cX6_digit r M') (h : wp_X6_digit p1 p2 p3 M post) : Z X M 0 [some (.ref (adX X 34)), some (.int p1), some (.int p2), some (.int p3)] [] := by
  unfold wp_X6_digit at h
  refine r_aload_n hX dX6_digit_0 rfl rfl ?_
  refine r_getI hX fg_X6_93 ly_34 rfl dX6_digit_1 ?_
  refine r_iload_n hX dX6_digit_4 rfl rfl ?_
  refine r_icmp_ge hX 31 dX6_digit_5 (by decide) (fun hc => ?_) (fun hc => ?_)
  · have h := h.1 hc
    refine r_bipush (v := (-9)) hX dX6_digit_31 (by decide) ?_
    exact r_iret (hret _ _ rfl h) dX6_digit_33
  · have h := h.2 hc
    refine r_aload_n hX dX6_digit_8 rfl rfl ?_
    refine r_getR hX fg_X6_16 ly_34 rfl dX6_digit_9 ?_
    refine r_aload_n hX dX6_digit_12 rfl rfl ?_
    refine r_getI hX fg_X6_93 ly_34 rfl dX6_digit_13 ?_
    refine r_iald hX ly_37 h.1 dX6_digit_16 ?_
    have h := h.2
    refine r_bipush (v := 48) hX dX6_digit_17 (by decide) ?_
    refine r_iload_n hX dX6_digit_19 rfl rfl ?_
    refine r_iadd hX dX6_digit_20 ?_
    refine r_bipush (v := 48) hX dX6_digit_21 (by decide) ?_
    refine r_iload_n hX dX6_digit_23 rfl rfl ?_
    refine r_iadd hX dX6_digit_24 ?_
    refine r_cSi3 hX fs_X6_83 ⟨Nat.le_of_ble_eq_true rfl, Nat.le_of_ble_eq_true rfl⟩ (c_X6_within (M 37 (M 34 20).toNatClampNeg) (48 + p2) (48 + p3) h) (Nat.le_of_ble_eq_true rfl) dX6_digit_25 (fun r1 M2 h => ?_)
    refine r_if_ne hX 34 dX6_digit_28 (by decide) (fun hc => ?_) (fun hc => ?_)
    · have h := h.1 hc
      refine r_aload_n hX dX6_digit_34 rfl rfl ?_
      refine r_dup hX dX6_digit_35 rfl ?_
      refine r_getI hX fg_X6_93 ly_34 rfl dX6_digit_36 ?_
      refine r_iconst (v := 1) hX dX6_digit_39 (by decide) ?_
      refine r_iadd hX dX6_digit_40 ?_
      refine r_putI hX fp_X6_93 ly_34 rfl dX6_digit_41 ?_
      refine r_nmM (fun M3 eM3 => ?_)
      have h := h M3 eM3
      refine r_aload_n hX dX6_digit_44 rfl rfl ?_
      refine r_getR hX fg_X6_16 ly_34 rfl dX6_digit_45 ?_
      refine r_aload_n hX dX6_digit_48 rfl rfl ?_
      refine r_getI hX fg_X6_93 ly_34 rfl dX6_digit_49 ?_
      refine r_iconst (v := 1) hX dX6_digit_52 (by decide) ?_
      refine r_isub hX dX6_digit_53 ?_
      refine r_iald hX ly_37 h.1 dX6_digit_54 ?_
      have h := h.2
      refine r_bipush (v := 48) hX dX6_digit_55 (by decide) ?_
      refine r_isub hX dX6_digit_57 ?_
      exact r_iret (hret _ _ rfl h) dX6_digit_58
    · have h := h.2 hc
      refine r_bipush (v := (-9)) hX dX6_digit_31 (by decide) ?_
      exact r_iret (hret _ _ rfl h) dX6_digit_33
set_option maxRecDepth 100000 in
theorem c_X6_digit {l : Launch} {D : va_G} {cs : CS3} {ad : Nat → Nat} (p1 : Int32) (p2 : Int32) (p3 : Int32) {M : Mem} {post : Int32 → Mem → Prop} (h : wp_X6_digit p1 p2 p3 M post) : CtI l D cs ad yX6_digit cX6_digit 4 (some .int) 1 22 [.ref (ad 34), .int p1, .int p2, .int p3] M post := met_I (k := 0) (fun ad => [.ref (ad 34), .int p1, .int p2, .int p3]) (fun ad => [some (.ref (ad 34)), some (.int p1), some (.int p2), some (.int p3)]) (by decide +kernel) (fun _ => Nat.le_of_ble_eq_true rfl) (fun _ => rfl) (fun _ => rfl) (fun X hX hret => wk_X6_digit p1 p2 p3 hX hret h)
def wp_X6_isSign (p1 : Int32) (p2 : Int32) (M : Mem) (post : Int32 → Mem → Prop) : Prop := ((p1 ≤ (M 34 20) → post 0 M) ∧ (¬ p1 ≤ (M 34 20) → (vp_in (M 34 20) 240 ∧ (((M 37 (M 34 20).toNatClampNeg) = p2 → (∀ M1 : Mem, M1 = up2 M 34 20 ((M 34 20) + 1) → post 1 M1)) ∧ (¬ (M 37 (M 34 20).toNatClampNeg) = p2 → post 0 M)))))
set_option maxRecDepth 100000 in
theorem wk_X6_isSign {X : CT} (p1 : Int32) (p2 : Int32) (hX : okX X RX6 cX6_isSign 0 0) {M : Mem} {post : Int32 → Mem → Prop} (hret : ∀ (r : Int32) (M' : Mem), narrow .boolean (.int r) = .int r → post r M' → RetI X cX6_isSign r M') (h : wp_X6_isSign p1 p2 M post) : Z X M 0 [some (.ref (adX X 34)), some (.int p1), some (.int p2)] [] := by
  unfold wp_X6_isSign at h
  refine r_aload_n hX dX6_isSign_0 rfl rfl ?_
  refine r_getI hX fg_X6_93 ly_34 rfl dX6_isSign_1 ?_
  refine r_iload_n hX dX6_isSign_4 rfl rfl ?_
  refine r_icmp_ge hX 21 dX6_isSign_5 (by decide) (fun hc => ?_) (fun hc => ?_)
  · have h := h.1 hc
    refine r_iconst (v := 0) hX dX6_isSign_21 (by decide) ?_
    exact r_iret (hret _ _ rfl h) dX6_isSign_22
  · have h := h.2 hc
    refine r_aload_n hX dX6_isSign_8 rfl rfl ?_
    refine r_getR hX fg_X6_16 ly_34 rfl dX6_isSign_9 ?_
    refine r_aload_n hX dX6_isSign_12 rfl rfl ?_
    refine r_getI hX fg_X6_93 ly_34 rfl dX6_isSign_13 ?_
    refine r_iald hX ly_37 h.1 dX6_isSign_16 ?_
    have h := h.2
    refine r_iload_n hX dX6_isSign_17 rfl rfl ?_
    refine r_icmp_eq hX 23 dX6_isSign_18 (by decide) (fun hc => ?_) (fun hc => ?_)
    · have h := h.1 hc
      refine r_aload_n hX dX6_isSign_23 rfl rfl ?_
      refine r_dup hX dX6_isSign_24 rfl ?_
      refine r_getI hX fg_X6_93 ly_34 rfl dX6_isSign_25 ?_
      refine r_iconst (v := 1) hX dX6_isSign_28 (by decide) ?_
      refine r_iadd hX dX6_isSign_29 ?_
      refine r_putI hX fp_X6_93 ly_34 rfl dX6_isSign_30 ?_
      refine r_nmM (fun M1 eM1 => ?_)
      have h := h M1 eM1
      refine r_iconst (v := 1) hX dX6_isSign_33 (by decide) ?_
      exact r_iret (hret _ _ rfl h) dX6_isSign_34
    · have h := h.2 hc
      refine r_iconst (v := 0) hX dX6_isSign_21 (by decide) ?_
      exact r_iret (hret _ _ rfl h) dX6_isSign_22
set_option maxRecDepth 100000 in
theorem c_X6_isSign {l : Launch} {D : va_G} {cs : CS3} {ad : Nat → Nat} (p1 : Int32) (p2 : Int32) {M : Mem} {post : Int32 → Mem → Prop} (h : wp_X6_isSign p1 p2 M post) : CtI l D cs ad yX6_isSign cX6_isSign 3 (some .boolean) 0 0 [.ref (ad 34), .int p1, .int p2] M post := met_I (k := 0) (fun ad => [.ref (ad 34), .int p1, .int p2]) (fun ad => [some (.ref (ad 34)), some (.int p1), some (.int p2)]) (by decide +kernel) (fun _ => Nat.le_of_ble_eq_true rfl) (fun _ => rfl) (fun _ => rfl) (fun X hX hret => wk_X6_isSign p1 p2 hX hret h)
def jn_X6_readChair_66 (p1 : Int32) (post : Int32 → Mem → Prop) (x2 : Int32) (s0 : Int32) (s1 : Int32) (M : Mem) : Prop := (vp_in s1 15 ∧ ∀ M2 : Mem, M2 = up2 M 47 s1.toNatClampNeg s0 → (vp_in x2 15 ∧ ((¬ (M2 47 x2.toNatClampNeg) = (-9) → (∀ M3 : Mem, M3 = up2 M2 34 20 ((M2 34 20) + 1) → (wp_X6_digit p1 0 4 M3 (fun r4 M5 => (vp_in (x2 + 1) 15 ∧ ∀ M6 : Mem, M6 = up2 M5 47 (x2 + 1).toNatClampNeg r4 → (vp_in (x2 + 1) 15 ∧ ((¬ (M6 47 (x2 + 1).toNatClampNeg) = (-9) → (wp_X6_digit p1 0 9 M6 (fun r7 M8 => (vp_in (x2 + 2) 15 ∧ ∀ M9 : Mem, M9 = up2 M8 47 (x2 + 2).toNatClampNeg r7 → (∀ M10 : Mem, M10 = up2 M9 34 22 ((M9 34 22) + 1) → (vp_in (x2 + 2) 15 ∧ (((M10 47 (x2 + 2).toNatClampNeg) = (-9) → post 0 M10) ∧ (¬ (M10 47 (x2 + 2).toNatClampNeg) = (-9) → post 1 M10)))))))) ∧ ((M6 47 (x2 + 1).toNatClampNeg) = (-9) → post 0 M6)))))))) ∧ ((M2 47 x2.toNatClampNeg) = (-9) → post 0 M2))))
set_option maxRecDepth 100000 in
theorem wj_X6_readChair_66 {X : CT} (p1 : Int32) (hX : okX X RX6 cX6_readChair 2 45) {post : Int32 → Mem → Prop} (hret : ∀ (r : Int32) (M' : Mem), narrow .boolean (.int r) = .int r → post r M' → RetI X cX6_readChair r M') (x2 : Int32) (s0 : Int32) (s1 : Int32) (M : Mem) (h : jn_X6_readChair_66 p1 post x2 s0 s1 M) : Z X M 66 [some (.ref (adX X 34)), some (.int p1), some (.int x2), none] [.int s0, .int s1, .ref (adX X 47)] := by
  unfold jn_X6_readChair_66 at h
  refine r_iast hX ly_47 h.1 dX6_readChair_66 ?_
  refine r_nmM (fun M2 eM2 => ?_)
  have h := h.2 M2 eM2
  refine r_aload_n hX dX6_readChair_67 rfl rfl ?_
  refine r_getR hX fg_X6_50 ly_34 rfl dX6_readChair_68 ?_
  refine r_iload_n hX dX6_readChair_71 rfl rfl ?_
  refine r_iald hX ly_47 h.1 dX6_readChair_72 ?_
  have h := h.2
  refine r_bipush (v := (-9)) hX dX6_readChair_73 (by decide) ?_
  refine r_icmp_ne hX 80 dX6_readChair_75 (by decide) (fun hc => ?_) (fun hc => ?_)
  · have h := h.1 hc
    refine r_aload_n hX dX6_readChair_80 rfl rfl ?_
    refine r_dup hX dX6_readChair_81 rfl ?_
    refine r_getI hX fg_X6_93 ly_34 rfl dX6_readChair_82 ?_
    refine r_iconst (v := 1) hX dX6_readChair_85 (by decide) ?_
    refine r_iadd hX dX6_readChair_86 ?_
    refine r_putI hX fp_X6_93 ly_34 rfl dX6_readChair_87 ?_
    refine r_nmM (fun M3 eM3 => ?_)
    have h := h M3 eM3
    refine r_aload_n hX dX6_readChair_90 rfl rfl ?_
    refine r_getR hX fg_X6_50 ly_34 rfl dX6_readChair_91 ?_
    refine r_iload_n hX dX6_readChair_94 rfl rfl ?_
    refine r_iconst (v := 1) hX dX6_readChair_95 (by decide) ?_
    refine r_iadd hX dX6_readChair_96 ?_
    refine r_aload_n hX dX6_readChair_97 rfl rfl ?_
    refine r_iload_n hX dX6_readChair_98 rfl rfl ?_
    refine r_iconst (v := 0) hX dX6_readChair_99 (by decide) ?_
    refine r_iconst (v := 4) hX dX6_readChair_100 (by decide) ?_
    refine r_cVi3 hX fv_X6_133 ly_34 rfl ⟨Nat.le_of_ble_eq_true rfl, Nat.le_of_ble_eq_true rfl⟩ (c_X6_digit p1 0 4 h) (Nat.le_of_ble_eq_true rfl) dX6_readChair_101 (fun r4 M5 h => ?_)
    refine r_iast hX ly_47 h.1 dX6_readChair_104 ?_
    refine r_nmM (fun M6 eM6 => ?_)
    have h := h.2 M6 eM6
    refine r_aload_n hX dX6_readChair_105 rfl rfl ?_
    refine r_getR hX fg_X6_50 ly_34 rfl dX6_readChair_106 ?_
    refine r_iload_n hX dX6_readChair_109 rfl rfl ?_
    refine r_iconst (v := 1) hX dX6_readChair_110 (by decide) ?_
    refine r_iadd hX dX6_readChair_111 ?_
    refine r_iald hX ly_47 h.1 dX6_readChair_112 ?_
    have h := h.2
    refine r_bipush (v := (-9)) hX dX6_readChair_113 (by decide) ?_
    refine r_icmp_ne hX 120 dX6_readChair_115 (by decide) (fun hc => ?_) (fun hc => ?_)
    · have h := h.1 hc
      refine r_aload_n hX dX6_readChair_120 rfl rfl ?_
      refine r_getR hX fg_X6_50 ly_34 rfl dX6_readChair_121 ?_
      refine r_iload_n hX dX6_readChair_124 rfl rfl ?_
      refine r_iconst (v := 2) hX dX6_readChair_125 (by decide) ?_
      refine r_iadd hX dX6_readChair_126 ?_
      refine r_aload_n hX dX6_readChair_127 rfl rfl ?_
      refine r_iload_n hX dX6_readChair_128 rfl rfl ?_
      refine r_iconst (v := 0) hX dX6_readChair_129 (by decide) ?_
      refine r_bipush (v := 9) hX dX6_readChair_130 (by decide) ?_
      refine r_cVi3 hX fv_X6_133 ly_34 rfl ⟨Nat.le_of_ble_eq_true rfl, Nat.le_of_ble_eq_true rfl⟩ (c_X6_digit p1 0 9 h) (Nat.le_of_ble_eq_true rfl) dX6_readChair_132 (fun r7 M8 h => ?_)
      refine r_iast hX ly_47 h.1 dX6_readChair_135 ?_
      refine r_nmM (fun M9 eM9 => ?_)
      have h := h.2 M9 eM9
      refine r_aload_n hX dX6_readChair_136 rfl rfl ?_
      refine r_dup hX dX6_readChair_137 rfl ?_
      refine r_getI hX fg_X6_117 ly_34 rfl dX6_readChair_138 ?_
      refine r_iconst (v := 1) hX dX6_readChair_141 (by decide) ?_
      refine r_iadd hX dX6_readChair_142 ?_
      refine r_putI hX fp_X6_117 ly_34 rfl dX6_readChair_143 ?_
      refine r_nmM (fun M10 eM10 => ?_)
      have h := h M10 eM10
      refine r_aload_n hX dX6_readChair_146 rfl rfl ?_
      refine r_getR hX fg_X6_50 ly_34 rfl dX6_readChair_147 ?_
      refine r_iload_n hX dX6_readChair_150 rfl rfl ?_
      refine r_iconst (v := 2) hX dX6_readChair_151 (by decide) ?_
      refine r_iadd hX dX6_readChair_152 ?_
      refine r_iald hX ly_47 h.1 dX6_readChair_153 ?_
      have h := h.2
      refine r_bipush (v := (-9)) hX dX6_readChair_154 (by decide) ?_
      refine r_icmp_eq hX 163 dX6_readChair_156 (by decide) (fun hc => ?_) (fun hc => ?_)
      · have h := h.1 hc
        refine r_iconst (v := 0) hX dX6_readChair_163 (by decide) ?_
        exact r_iret (hret _ _ rfl h) dX6_readChair_164
      · have h := h.2 hc
        refine r_iconst (v := 1) hX dX6_readChair_159 (by decide) ?_
        refine r_goto hX 164 dX6_readChair_160 (by decide) ?_
        exact r_iret (hret _ _ rfl h) dX6_readChair_164
    · have h := h.2 hc
      refine r_iconst (v := 0) hX dX6_readChair_118 (by decide) ?_
      exact r_iret (hret _ _ rfl h) dX6_readChair_119
  · have h := h.2 hc
    refine r_iconst (v := 0) hX dX6_readChair_78 (by decide) ?_
    exact r_iret (hret _ _ rfl h) dX6_readChair_79
def jn_X6_readChair_28 (p1 : Int32) (post : Int32 → Mem → Prop) (x2 : Int32) (s0 : Int32) (M : Mem) : Prop := ((¬ s0 = 99 → ((¬ s0 = 98 → ((¬ s0 = 116 → jn_X6_readChair_66 p1 post x2 (-9) x2 M) ∧ (s0 = 116 → jn_X6_readChair_66 p1 post x2 2 x2 M))) ∧ (s0 = 98 → jn_X6_readChair_66 p1 post x2 1 x2 M))) ∧ (s0 = 99 → jn_X6_readChair_66 p1 post x2 0 x2 M))
set_option maxRecDepth 100000 in
theorem wj_X6_readChair_28 {X : CT} (p1 : Int32) (hX : okX X RX6 cX6_readChair 2 45) {post : Int32 → Mem → Prop} (hret : ∀ (r : Int32) (M' : Mem), narrow .boolean (.int r) = .int r → post r M' → RetI X cX6_readChair r M') (x2 : Int32) (s0 : Int32) (M : Mem) (h : jn_X6_readChair_28 p1 post x2 s0 M) : Z X M 28 [some (.ref (adX X 34)), some (.int p1), some (.int x2), none] [.int s0] := by
  unfold jn_X6_readChair_28 at h
  refine r_istore_n (L' := [some (.ref (adX X 34)), some (.int p1), some (.int x2), some (.int s0)]) hX dX6_readChair_28 rfl (Nat.lt_of_ble rfl) rfl rfl ?_
  refine r_aload_n hX dX6_readChair_29 rfl rfl ?_
  refine r_getR hX fg_X6_50 ly_34 rfl dX6_readChair_30 ?_
  refine r_iload_n hX dX6_readChair_33 rfl rfl ?_
  refine r_iload_n hX dX6_readChair_34 rfl rfl ?_
  refine r_bipush (v := 99) hX dX6_readChair_35 (by decide) ?_
  refine r_icmp_ne hX 44 dX6_readChair_37 (by decide) (fun hc => ?_) (fun hc => ?_)
  · have h := h.1 hc
    refine r_iload_n hX dX6_readChair_44 rfl rfl ?_
    refine r_bipush (v := 98) hX dX6_readChair_45 (by decide) ?_
    refine r_icmp_ne hX 54 dX6_readChair_47 (by decide) (fun hc => ?_) (fun hc => ?_)
    · have h := h.1 hc
      refine r_iload_n hX dX6_readChair_54 rfl rfl ?_
      refine r_bipush (v := 116) hX dX6_readChair_55 (by decide) ?_
      refine r_icmp_ne hX 64 dX6_readChair_57 (by decide) (fun hc => ?_) (fun hc => ?_)
      · have h := h.1 hc
        refine r_bipush (v := (-9)) hX dX6_readChair_64 (by decide) ?_
        refine r_sub [some (.ref (adX X 34)), some (.int p1), some (.int x2), none] (And.intro rfl (And.intro rfl (And.intro rfl trivial))) ?_
        exact wj_X6_readChair_66 p1 hX hret _ _ _ _ h
      · have h := h.2 hc
        refine r_iconst (v := 2) hX dX6_readChair_60 (by decide) ?_
        refine r_goto hX 66 dX6_readChair_61 (by decide) ?_
        refine r_sub [some (.ref (adX X 34)), some (.int p1), some (.int x2), none] (And.intro rfl (And.intro rfl (And.intro rfl trivial))) ?_
        exact wj_X6_readChair_66 p1 hX hret _ _ _ _ h
    · have h := h.2 hc
      refine r_iconst (v := 1) hX dX6_readChair_50 (by decide) ?_
      refine r_goto hX 66 dX6_readChair_51 (by decide) ?_
      refine r_sub [some (.ref (adX X 34)), some (.int p1), some (.int x2), none] (And.intro rfl (And.intro rfl (And.intro rfl trivial))) ?_
      exact wj_X6_readChair_66 p1 hX hret _ _ _ _ h
  · have h := h.2 hc
    refine r_iconst (v := 0) hX dX6_readChair_40 (by decide) ?_
    refine r_goto hX 66 dX6_readChair_41 (by decide) ?_
    refine r_sub [some (.ref (adX X 34)), some (.int p1), some (.int x2), none] (And.intro rfl (And.intro rfl (And.intro rfl trivial))) ?_
    exact wj_X6_readChair_66 p1 hX hret _ _ _ _ h
def wp_X6_readChair (p1 : Int32) (M : Mem) (post : Int32 → Mem → Prop) : Prop := (∀ v1 : Int32, v1 = 3 * (M 34 22) → ((p1 ≤ (M 34 20) → jn_X6_readChair_28 p1 post v1 0 M) ∧ (¬ p1 ≤ (M 34 20) → (vp_in (M 34 20) 240 ∧ jn_X6_readChair_28 p1 post v1 (M 37 (M 34 20).toNatClampNeg) M))))
set_option maxRecDepth 100000 in
theorem wk_X6_readChair {X : CT} (p1 : Int32) (hX : okX X RX6 cX6_readChair 2 45) {M : Mem} {post : Int32 → Mem → Prop} (hret : ∀ (r : Int32) (M' : Mem), narrow .boolean (.int r) = .int r → post r M' → RetI X cX6_readChair r M') (h : wp_X6_readChair p1 M post) : Z X M 0 [some (.ref (adX X 34)), some (.int p1), none, none] [] := by
  unfold wp_X6_readChair at h
  refine r_iconst (v := 3) hX dX6_readChair_0 (by decide) ?_
  refine r_aload_n hX dX6_readChair_1 rfl rfl ?_
  refine r_getI hX fg_X6_117 ly_34 rfl dX6_readChair_2 ?_
  refine r_imul hX dX6_readChair_5 ?_
  refine r_nm (fun v1 ev1 => ?_)
  have h := h v1 ev1
  refine r_istore_n (L' := [some (.ref (adX X 34)), some (.int p1), some (.int v1), none]) hX dX6_readChair_6 rfl (Nat.lt_of_ble rfl) rfl rfl ?_
  refine r_aload_n hX dX6_readChair_7 rfl rfl ?_
  refine r_getI hX fg_X6_93 ly_34 rfl dX6_readChair_8 ?_
  refine r_iload_n hX dX6_readChair_11 rfl rfl ?_
  refine r_icmp_ge hX 27 dX6_readChair_12 (by decide) (fun hc => ?_) (fun hc => ?_)
  · have h := h.1 hc
    refine r_iconst (v := 0) hX dX6_readChair_27 (by decide) ?_
    refine r_sub [some (.ref (adX X 34)), some (.int p1), some (.int v1), none] (And.intro rfl (And.intro rfl (And.intro rfl trivial))) ?_
    exact wj_X6_readChair_28 p1 hX hret _ _ _ h
  · have h := h.2 hc
    refine r_aload_n hX dX6_readChair_15 rfl rfl ?_
    refine r_getR hX fg_X6_16 ly_34 rfl dX6_readChair_16 ?_
    refine r_aload_n hX dX6_readChair_19 rfl rfl ?_
    refine r_getI hX fg_X6_93 ly_34 rfl dX6_readChair_20 ?_
    refine r_iald hX ly_37 h.1 dX6_readChair_23 ?_
    have h := h.2
    refine r_goto hX 28 dX6_readChair_24 (by decide) ?_
    refine r_sub [some (.ref (adX X 34)), some (.int p1), some (.int v1), none] (And.intro rfl (And.intro rfl (And.intro rfl trivial))) ?_
    exact wj_X6_readChair_28 p1 hX hret _ _ _ h
set_option maxRecDepth 100000 in
theorem c_X6_readChair {l : Launch} {D : va_G} {cs : CS3} {ad : Nat → Nat} (p1 : Int32) {M : Mem} {post : Int32 → Mem → Prop} (h : wp_X6_readChair p1 M post) : CtI l D cs ad yX6_readChair cX6_readChair 4 (some .boolean) 2 45 [.ref (ad 34), .int p1] M post := met_I (k := 2) (fun ad => [.ref (ad 34), .int p1]) (fun ad => [some (.ref (ad 34)), some (.int p1), none, none]) (by decide +kernel) (fun _ => Nat.le_of_ble_eq_true rfl) (fun _ => rfl) (fun _ => rfl) (fun X hX hret => wk_X6_readChair p1 hX hret h)
def jn_X6_readHall_62 (p1 : Int32) (post : Int32 → Mem → Prop) (B_39 : Mem → Prop) (M : Mem) : Prop := (wp_X6_isSign p1 44 M (fun r7 M8 => ((r7 = 0 → post 0 M8) ∧ (¬ r7 = 0 → (wp_X6_readChair p1 M8 (fun r9 M10 => ((¬ r9 = 0 → B_39 M10) ∧ (r9 = 0 → post 0 M10))))))))
set_option maxRecDepth 100000 in
theorem wj_X6_readHall_62 {X : CT} (p1 : Int32) (hX : okX X RX6 cX6_readHall 3 68) {post : Int32 → Mem → Prop} (hret : ∀ (r : Int32) (M' : Mem), narrow .boolean (.int r) = .int r → post r M' → RetI X cX6_readHall r M') {B_39 : Mem → Prop} (hB_39 : ∀ (M : Mem), B_39 M → Z X M 39 [some (.ref (adX X 34)), some (.int p1)] []) (M : Mem) (h : jn_X6_readHall_62 p1 post B_39 M) : Z X M 62 [some (.ref (adX X 34)), some (.int p1)] [] := by
  unfold jn_X6_readHall_62 at h
  refine r_aload_n hX dX6_readHall_62 rfl rfl ?_
  refine r_iload_n hX dX6_readHall_63 rfl rfl ?_
  refine r_bipush (v := 44) hX dX6_readHall_64 (by decide) ?_
  refine r_cVi2 hX fv_X6_129 ly_34 rfl ⟨Nat.le_of_ble_eq_true rfl, Nat.le_of_ble_eq_true rfl⟩ (c_X6_isSign p1 44 h) (Nat.le_of_ble_eq_true rfl) dX6_readHall_66 (fun r7 M8 h => ?_)
  refine r_if_eq hX 80 dX6_readHall_69 (by decide) (fun hc => ?_) (fun hc => ?_)
  · have h := h.1 hc
    refine r_iconst (v := 0) hX dX6_readHall_80 (by decide) ?_
    exact r_iret (hret _ _ rfl h) dX6_readHall_81
  · have h := h.2 hc
    refine r_aload_n hX dX6_readHall_72 rfl rfl ?_
    refine r_iload_n hX dX6_readHall_73 rfl rfl ?_
    refine r_cVi1 hX fv_X6_137 ly_34 rfl ⟨Nat.le_of_ble_eq_true rfl, Nat.le_of_ble_eq_true rfl⟩ (c_X6_readChair p1 h) (Nat.le_of_ble_eq_true rfl) dX6_readHall_74 (fun r9 M10 h => ?_)
    refine r_if_ne hX 39 dX6_readHall_77 (by decide) (fun hc => ?_) (fun hc => ?_)
    · have h := h.1 hc
      refine r_sub [some (.ref (adX X 34)), some (.int p1)] (And.intro rfl (And.intro rfl trivial)) ?_
      exact hB_39 _ h
    · have h := h.2 hc
      refine r_iconst (v := 0) hX dX6_readHall_80 (by decide) ?_
      exact r_iret (hret _ _ rfl h) dX6_readHall_81
def jn_X6_readHall_82 (p1 : Int32) (post : Int32 → Mem → Prop) (M : Mem) : Prop := ((¬ (M 34 20) = p1 → post 0 M) ∧ ((M 34 20) = p1 → post 1 M))
set_option maxRecDepth 100000 in
theorem wj_X6_readHall_82 {X : CT} (p1 : Int32) (hX : okX X RX6 cX6_readHall 3 68) {post : Int32 → Mem → Prop} (hret : ∀ (r : Int32) (M' : Mem), narrow .boolean (.int r) = .int r → post r M' → RetI X cX6_readHall r M') (M : Mem) (h : jn_X6_readHall_82 p1 post M) : Z X M 82 [some (.ref (adX X 34)), some (.int p1)] [] := by
  unfold jn_X6_readHall_82 at h
  refine r_aload_n hX dX6_readHall_82 rfl rfl ?_
  refine r_getI hX fg_X6_93 ly_34 rfl dX6_readHall_83 ?_
  refine r_iload_n hX dX6_readHall_86 rfl rfl ?_
  refine r_icmp_ne hX 94 dX6_readHall_87 (by decide) (fun hc => ?_) (fun hc => ?_)
  · have h := h.1 hc
    refine r_iconst (v := 0) hX dX6_readHall_94 (by decide) ?_
    exact r_iret (hret _ _ rfl h) dX6_readHall_95
  · have h := h.2 hc
    refine r_iconst (v := 1) hX dX6_readHall_90 (by decide) ?_
    refine r_goto hX 95 dX6_readHall_91 (by decide) ?_
    exact r_iret (hret _ _ rfl h) dX6_readHall_95
def lp_X6_readHall_39 (p1 : Int32) (post : Int32 → Mem → Prop) : Nat → Mem → Prop
  | 0, _ => False
  | n + 1, M => (((M 34 22) = 0 → jn_X6_readHall_62 p1 post (fun M' => lp_X6_readHall_39 p1 post n M') M) ∧ (¬ (M 34 22) = 0 → ((5 ≤ (M 34 22) → jn_X6_readHall_82 p1 post M) ∧ (¬ 5 ≤ (M 34 22) → ((p1 ≤ (M 34 20) → jn_X6_readHall_82 p1 post M) ∧ (¬ p1 ≤ (M 34 20) → jn_X6_readHall_62 p1 post (fun M' => lp_X6_readHall_39 p1 post n M') M))))))
set_option maxRecDepth 100000 in
theorem wl_X6_readHall_39 {X : CT} (p1 : Int32) (hX : okX X RX6 cX6_readHall 3 68) {post : Int32 → Mem → Prop} (hret : ∀ (r : Int32) (M' : Mem), narrow .boolean (.int r) = .int r → post r M' → RetI X cX6_readHall r M') : ∀ (n : Nat) (M : Mem), lp_X6_readHall_39 p1 post n M → Z X M 39 [some (.ref (adX X 34)), some (.int p1)] [] := by
  intro n
  induction n with
  | zero =>
    intro M h
    exact False.elim h
  | succ n ih =>
    intro M h
    unfold lp_X6_readHall_39 at h
    refine r_aload_n hX dX6_readHall_39 rfl rfl ?_
    refine r_getI hX fg_X6_117 ly_34 rfl dX6_readHall_40 ?_
    refine r_if_eq hX 62 dX6_readHall_43 (by decide) (fun hc => ?_) (fun hc => ?_)
    · have h := h.1 hc
      refine r_sub [some (.ref (adX X 34)), some (.int p1)] (And.intro rfl (And.intro rfl trivial)) ?_
      exact wj_X6_readHall_62 p1 hX hret (fun M' h' => ih M' h') _ h
    · have h := h.2 hc
      refine r_aload_n hX dX6_readHall_46 rfl rfl ?_
      refine r_getI hX fg_X6_117 ly_34 rfl dX6_readHall_47 ?_
      refine r_iconst (v := 5) hX dX6_readHall_50 (by decide) ?_
      refine r_icmp_ge hX 82 dX6_readHall_51 (by decide) (fun hc => ?_) (fun hc => ?_)
      · have h := h.1 hc
        refine r_sub [some (.ref (adX X 34)), some (.int p1)] (And.intro rfl (And.intro rfl trivial)) ?_
        exact wj_X6_readHall_82 p1 hX hret _ h
      · have h := h.2 hc
        refine r_aload_n hX dX6_readHall_54 rfl rfl ?_
        refine r_getI hX fg_X6_93 ly_34 rfl dX6_readHall_55 ?_
        refine r_iload_n hX dX6_readHall_58 rfl rfl ?_
        refine r_icmp_ge hX 82 dX6_readHall_59 (by decide) (fun hc => ?_) (fun hc => ?_)
        · have h := h.1 hc
          refine r_sub [some (.ref (adX X 34)), some (.int p1)] (And.intro rfl (And.intro rfl trivial)) ?_
          exact wj_X6_readHall_82 p1 hX hret _ h
        · have h := h.2 hc
          refine r_sub [some (.ref (adX X 34)), some (.int p1)] (And.intro rfl (And.intro rfl trivial)) ?_
          exact wj_X6_readHall_62 p1 hX hret (fun M' h' => ih M' h') _ h
def wp_X6_readHall (p1 : Int32) (M : Mem) (post : Int32 → Mem → Prop) : Prop := (∀ M1 : Mem, M1 = up2 M 34 22 0 → (wp_X6_isSign p1 122 M1 (fun r2 M3 => ((¬ r2 = 0 → (wp_X6_digit p1 1 5 M3 (fun r4 M5 => (∀ M6 : Mem, M6 = up2 M5 34 21 r4 → ((¬ (M6 34 21) = (-9) → (∃ k, lp_X6_readHall_39 p1 post k M6)) ∧ ((M6 34 21) = (-9) → post 0 M6)))))) ∧ (r2 = 0 → post 0 M3)))))
set_option maxRecDepth 100000 in
theorem wk_X6_readHall {X : CT} (p1 : Int32) (hX : okX X RX6 cX6_readHall 3 68) {M : Mem} {post : Int32 → Mem → Prop} (hret : ∀ (r : Int32) (M' : Mem), narrow .boolean (.int r) = .int r → post r M' → RetI X cX6_readHall r M') (h : wp_X6_readHall p1 M post) : Z X M 0 [some (.ref (adX X 34)), some (.int p1)] [] := by
  unfold wp_X6_readHall at h
  refine r_aload_n hX dX6_readHall_0 rfl rfl ?_
  refine r_iconst (v := 0) hX dX6_readHall_1 (by decide) ?_
  refine r_putI hX fp_X6_117 ly_34 rfl dX6_readHall_2 ?_
  refine r_nmM (fun M1 eM1 => ?_)
  have h := h M1 eM1
  refine r_aload_n hX dX6_readHall_5 rfl rfl ?_
  refine r_iload_n hX dX6_readHall_6 rfl rfl ?_
  refine r_bipush (v := 122) hX dX6_readHall_7 (by decide) ?_
  refine r_cVi2 hX fv_X6_129 ly_34 rfl ⟨Nat.le_of_ble_eq_true rfl, Nat.le_of_ble_eq_true rfl⟩ (c_X6_isSign p1 122 h) (Nat.le_of_ble_eq_true rfl) dX6_readHall_9 (fun r2 M3 h => ?_)
  refine r_if_ne hX 17 dX6_readHall_12 (by decide) (fun hc => ?_) (fun hc => ?_)
  · have h := h.1 hc
    refine r_aload_n hX dX6_readHall_17 rfl rfl ?_
    refine r_aload_n hX dX6_readHall_18 rfl rfl ?_
    refine r_iload_n hX dX6_readHall_19 rfl rfl ?_
    refine r_iconst (v := 1) hX dX6_readHall_20 (by decide) ?_
    refine r_iconst (v := 5) hX dX6_readHall_21 (by decide) ?_
    refine r_cVi3 hX fv_X6_133 ly_34 rfl ⟨Nat.le_of_ble_eq_true rfl, Nat.le_of_ble_eq_true rfl⟩ (c_X6_digit p1 1 5 h) (Nat.le_of_ble_eq_true rfl) dX6_readHall_22 (fun r4 M5 h => ?_)
    refine r_putI hX fp_X6_114 ly_34 rfl dX6_readHall_25 ?_
    refine r_nmM (fun M6 eM6 => ?_)
    have h := h M6 eM6
    refine r_aload_n hX dX6_readHall_28 rfl rfl ?_
    refine r_getI hX fg_X6_114 ly_34 rfl dX6_readHall_29 ?_
    refine r_bipush (v := (-9)) hX dX6_readHall_32 (by decide) ?_
    refine r_icmp_ne hX 39 dX6_readHall_34 (by decide) (fun hc => ?_) (fun hc => ?_)
    · have h := h.1 hc
      obtain ⟨n11, h⟩ := h
      refine r_sub [some (.ref (adX X 34)), some (.int p1)] (And.intro rfl (And.intro rfl trivial)) ?_
      exact wl_X6_readHall_39 p1 hX hret n11 _ h
    · have h := h.2 hc
      refine r_iconst (v := 0) hX dX6_readHall_37 (by decide) ?_
      exact r_iret (hret _ _ rfl h) dX6_readHall_38
  · have h := h.2 hc
    refine r_iconst (v := 0) hX dX6_readHall_15 (by decide) ?_
    exact r_iret (hret _ _ rfl h) dX6_readHall_16
set_option maxRecDepth 100000 in
theorem c_X6_readHall {l : Launch} {D : va_G} {cs : CS3} {ad : Nat → Nat} (p1 : Int32) {M : Mem} {post : Int32 → Mem → Prop} (h : wp_X6_readHall p1 M post) : CtI l D cs ad yX6_readHall cX6_readHall 2 (some .boolean) 3 68 [.ref (ad 34), .int p1] M post := met_I (k := 0) (fun ad => [.ref (ad 34), .int p1]) (fun ad => [some (.ref (ad 34)), some (.int p1)]) (by decide +kernel) (fun _ => Nat.le_of_ble_eq_true rfl) (fun _ => rfl) (fun _ => rfl) (fun X hX hret => wk_X6_readHall p1 hX hret h)
def lp_X6_hall_103 (p1 : Int32) (p2 : Int32) (p3 : Int32) (p4 : Int32) (post : Int32 → Mem → Prop) : Nat → Int32 → Mem → Prop
  | 0, _, _ => False
  | n + 1, x7, M => (((M 34 6) ≤ x7 → (∀ M14 : Mem, M14 = up2 M 34 10 0 → (∀ M15 : Mem, M15 = up2 M14 34 14 0 → (∀ M16 : Mem, M16 = up2 M15 34 28 0 → post (M16 34 6) M16)))) ∧ (¬ (M 34 6) ≤ x7 → (vp_in (3 * x7) 15 ∧ (vp_in x7 5 ∧ ∀ M17 : Mem, M17 = up2 M 38 x7.toNatClampNeg (M 47 (3 * x7).toNatClampNeg) → (vp_in ((3 * x7) + 1) 15 ∧ (vp_in x7 5 ∧ ∀ M18 : Mem, M18 = up2 M17 39 x7.toNatClampNeg (M17 47 ((3 * x7) + 1).toNatClampNeg) → (vp_in ((3 * x7) + 2) 15 ∧ (vp_in x7 5 ∧ ∀ M19 : Mem, M19 = up2 M18 40 x7.toNatClampNeg (M18 47 ((3 * x7) + 2).toNatClampNeg) → lp_X6_hall_103 p1 p2 p3 p4 post n (x7 + 1) M19))))))))
set_option maxRecDepth 100000 in
theorem wl_X6_hall_103 {X : CT} (p1 : Int32) (p2 : Int32) (p3 : Int32) (p4 : Int32) (hX : okX X RX6 cX6_hall 4 89) {post : Int32 → Mem → Prop} (hret : ∀ (r : Int32) (M' : Mem), narrow .int (.int r) = .int r → post r M' → RetI X cX6_hall r M') : ∀ (n : Nat) (x7 : Int32) (M : Mem), lp_X6_hall_103 p1 p2 p3 p4 post n x7 M → Z X M 103 [some (.ref (adX X 34)), none, none, none, none, none, none, some (.int x7)] [] := by
  intro n
  induction n with
  | zero =>
    intro x7 M h
    exact False.elim h
  | succ n ih =>
    intro x7 M h
    unfold lp_X6_hall_103 at h
    refine r_iload hX dX6_hall_103 rfl ?_
    refine r_aload_n hX dX6_hall_105 rfl rfl ?_
    refine r_getI hX fg_X6_90 ly_34 rfl dX6_hall_106 ?_
    refine r_icmp_ge hX 170 dX6_hall_109 (by decide) (fun hc => ?_) (fun hc => ?_)
    · have h := h.1 hc
      refine r_aload_n hX dX6_hall_170 rfl rfl ?_
      refine r_iconst (v := 0) hX dX6_hall_171 (by decide) ?_
      refine r_putI hX fp_X6_120 ly_34 rfl dX6_hall_172 ?_
      refine r_nmM (fun M14 eM14 => ?_)
      have h := h M14 eM14
      refine r_aload_n hX dX6_hall_175 rfl rfl ?_
      refine r_iconst (v := 0) hX dX6_hall_176 (by decide) ?_
      refine r_putI hX fp_X6_123 ly_34 rfl dX6_hall_177 ?_
      refine r_nmM (fun M15 eM15 => ?_)
      have h := h M15 eM15
      refine r_aload_n hX dX6_hall_180 rfl rfl ?_
      refine r_iconst (v := 0) hX dX6_hall_181 (by decide) ?_
      refine r_putI hX fp_X6_126 ly_34 rfl dX6_hall_182 ?_
      refine r_nmM (fun M16 eM16 => ?_)
      have h := h M16 eM16
      refine r_aload_n hX dX6_hall_185 rfl rfl ?_
      refine r_getI hX fg_X6_90 ly_34 rfl dX6_hall_186 ?_
      exact r_iret (hret _ _ rfl h) dX6_hall_189
    · have h := h.2 hc
      refine r_aload_n hX dX6_hall_112 rfl rfl ?_
      refine r_getR hX fg_X6_19 ly_34 rfl dX6_hall_113 ?_
      refine r_iload hX dX6_hall_116 rfl ?_
      refine r_aload_n hX dX6_hall_118 rfl rfl ?_
      refine r_getR hX fg_X6_50 ly_34 rfl dX6_hall_119 ?_
      refine r_iconst (v := 3) hX dX6_hall_122 (by decide) ?_
      refine r_iload hX dX6_hall_123 rfl ?_
      refine r_imul hX dX6_hall_125 ?_
      refine r_iald hX ly_47 h.1 dX6_hall_126 ?_
      have h := h.2
      refine r_iast hX ly_38 h.1 dX6_hall_127 ?_
      refine r_nmM (fun M17 eM17 => ?_)
      have h := h.2 M17 eM17
      refine r_aload_n hX dX6_hall_128 rfl rfl ?_
      refine r_getR hX fg_X6_22 ly_34 rfl dX6_hall_129 ?_
      refine r_iload hX dX6_hall_132 rfl ?_
      refine r_aload_n hX dX6_hall_134 rfl rfl ?_
      refine r_getR hX fg_X6_50 ly_34 rfl dX6_hall_135 ?_
      refine r_iconst (v := 3) hX dX6_hall_138 (by decide) ?_
      refine r_iload hX dX6_hall_139 rfl ?_
      refine r_imul hX dX6_hall_141 ?_
      refine r_iconst (v := 1) hX dX6_hall_142 (by decide) ?_
      refine r_iadd hX dX6_hall_143 ?_
      refine r_iald hX ly_47 h.1 dX6_hall_144 ?_
      have h := h.2
      refine r_iast hX ly_39 h.1 dX6_hall_145 ?_
      refine r_nmM (fun M18 eM18 => ?_)
      have h := h.2 M18 eM18
      refine r_aload_n hX dX6_hall_146 rfl rfl ?_
      refine r_getR hX fg_X6_25 ly_34 rfl dX6_hall_147 ?_
      refine r_iload hX dX6_hall_150 rfl ?_
      refine r_aload_n hX dX6_hall_152 rfl rfl ?_
      refine r_getR hX fg_X6_50 ly_34 rfl dX6_hall_153 ?_
      refine r_iconst (v := 3) hX dX6_hall_156 (by decide) ?_
      refine r_iload hX dX6_hall_157 rfl ?_
      refine r_imul hX dX6_hall_159 ?_
      refine r_iconst (v := 2) hX dX6_hall_160 (by decide) ?_
      refine r_iadd hX dX6_hall_161 ?_
      refine r_iald hX ly_47 h.1 dX6_hall_162 ?_
      have h := h.2
      refine r_iast hX ly_40 h.1 dX6_hall_163 ?_
      refine r_nmM (fun M19 eM19 => ?_)
      have h := h.2 M19 eM19
      refine r_iinc (v := x7 + 1) (L' := [some (.ref (adX X 34)), none, none, none, none, none, none, some (.int (x7 + 1))]) hX dX6_hall_164 rfl rfl rfl rfl ?_
      refine r_goto hX 103 dX6_hall_167 (by decide) ?_
      refine r_sub [some (.ref (adX X 34)), none, none, none, none, none, none, some (.int (x7 + 1))] (And.intro rfl (And.intro rfl trivial)) ?_
      exact ih _ _ h
def wp_X6_hall (p1 : Int32) (p2 : Int32) (p3 : Int32) (p4 : Int32) (M : Mem) (post : Int32 → Mem → Prop) : Prop := (∀ M1 : Mem, M1 = up2 M 34 0 0 → (wp_X6_isSheet p1 M1 (fun r2 M3 => ((¬ r2 = 0 → (wp_X6_isSort p2 M3 (fun r4 M5 => ((¬ r4 = 0 → (wp_X6_against p1 p2 p3 p4 M5 (fun r6 M7 => ((r6 = 0 → (∀ v8 : Int32, v8 = (60 * p1) + p3 → (∀ M9 : Mem, M9 = up2 M7 34 20 v8 → (wp_X6_readHall (v8 + p4) M9 (fun r10 M11 => ((¬ r10 = 0 → (∀ M12 : Mem, M12 = up2 M11 34 5 (M11 34 21) → (∀ M13 : Mem, M13 = up2 M12 34 6 (M12 34 22) → (∃ k, lp_X6_hall_103 p1 p2 p3 p4 post k 0 M13)))) ∧ (r10 = 0 → post ((-100) - ((M11 34 20) - v8)) M11))))))) ∧ (¬ r6 = 0 → (wp_X6_fails r6 M7 (fun r21 M22 => post r21 M22))))))) ∧ (r4 = 0 → post (-2) M5))))) ∧ (r2 = 0 → post (-1) M3)))))
set_option maxRecDepth 100000 in
theorem wk_X6_hall {X : CT} (p1 : Int32) (p2 : Int32) (p3 : Int32) (p4 : Int32) (hX : okX X RX6 cX6_hall 4 89) {M : Mem} {post : Int32 → Mem → Prop} (hret : ∀ (r : Int32) (M' : Mem), narrow .int (.int r) = .int r → post r M' → RetI X cX6_hall r M') (h : wp_X6_hall p1 p2 p3 p4 M post) : Z X M 0 [some (.ref (adX X 34)), some (.int p1), some (.int p2), some (.int p3), some (.int p4), none, none, none] [] := by
  unfold wp_X6_hall at h
  refine r_aload_n hX dX6_hall_0 rfl rfl ?_
  refine r_iconst (v := 0) hX dX6_hall_1 (by decide) ?_
  refine r_putI hX fp_X6_78 ly_34 rfl dX6_hall_2 ?_
  refine r_nmM (fun M1 eM1 => ?_)
  have h := h M1 eM1
  refine r_iload_n hX dX6_hall_5 rfl rfl ?_
  refine r_cSi1 hX fs_X6_96 ⟨Nat.le_of_ble_eq_true rfl, Nat.le_of_ble_eq_true rfl⟩ (c_X6_isSheet p1 h) (Nat.le_of_ble_eq_true rfl) dX6_hall_6 (fun r2 M3 h => ?_)
  refine r_if_ne hX 14 dX6_hall_9 (by decide) (fun hc => ?_) (fun hc => ?_)
  · have h := h.1 hc
    refine r_iload_n hX dX6_hall_14 rfl rfl ?_
    refine r_cSi1 hX fs_X6_100 ⟨Nat.le_of_ble_eq_true rfl, Nat.le_of_ble_eq_true rfl⟩ (c_X6_isSort p2 h) (Nat.le_of_ble_eq_true rfl) dX6_hall_15 (fun r4 M5 h => ?_)
    refine r_if_ne hX 24 dX6_hall_18 (by decide) (fun hc => ?_) (fun hc => ?_)
    · have h := h.1 hc
      refine r_aload_n hX dX6_hall_24 rfl rfl ?_
      refine r_iload_n hX dX6_hall_25 rfl rfl ?_
      refine r_iload_n hX dX6_hall_26 rfl rfl ?_
      refine r_iload_n hX dX6_hall_27 rfl rfl ?_
      refine r_iload hX dX6_hall_28 rfl ?_
      refine r_cVi4 hX fv_X6_103 ly_34 rfl ⟨Nat.le_of_ble_eq_true rfl, Nat.le_of_ble_eq_true rfl⟩ (c_X6_against p1 p2 p3 p4 h) (Nat.le_of_ble_eq_true rfl) dX6_hall_30 (fun r6 M7 h => ?_)
      refine r_istore (L' := [some (.ref (adX X 34)), some (.int p1), some (.int p2), some (.int p3), some (.int p4), some (.int r6), none, none]) hX dX6_hall_33 (Nat.lt_of_ble rfl) rfl rfl ?_
      refine r_iload hX dX6_hall_35 rfl ?_
      refine r_if_eq hX 47 dX6_hall_37 (by decide) (fun hc => ?_) (fun hc => ?_)
      · have h := h.1 hc
        refine r_bipush (v := 60) hX dX6_hall_47 (by decide) ?_
        refine r_iload_n hX dX6_hall_49 rfl rfl ?_
        refine r_imul hX dX6_hall_50 ?_
        refine r_iload_n hX dX6_hall_51 rfl rfl ?_
        refine r_iadd hX dX6_hall_52 ?_
        refine r_nm (fun v8 ev8 => ?_)
        have h := h v8 ev8
        refine r_istore (L' := [some (.ref (adX X 34)), some (.int p1), some (.int p2), some (.int p3), some (.int p4), some (.int r6), some (.int v8), none]) hX dX6_hall_53 (Nat.lt_of_ble rfl) rfl rfl ?_
        refine r_aload_n hX dX6_hall_55 rfl rfl ?_
        refine r_iload hX dX6_hall_56 rfl ?_
        refine r_putI hX fp_X6_93 ly_34 rfl dX6_hall_58 ?_
        refine r_nmM (fun M9 eM9 => ?_)
        have h := h M9 eM9
        refine r_aload_n hX dX6_hall_61 rfl rfl ?_
        refine r_iload hX dX6_hall_62 rfl ?_
        refine r_iload hX dX6_hall_64 rfl ?_
        refine r_iadd hX dX6_hall_66 ?_
        refine r_cVi1 hX fv_X6_111 ly_34 rfl ⟨Nat.le_of_ble_eq_true rfl, Nat.le_of_ble_eq_true rfl⟩ (c_X6_readHall (v8 + p4) h) (Nat.le_of_ble_eq_true rfl) dX6_hall_67 (fun r10 M11 h => ?_)
        refine r_if_ne hX 84 dX6_hall_70 (by decide) (fun hc => ?_) (fun hc => ?_)
        · have h := h.1 hc
          refine r_aload_n hX dX6_hall_84 rfl rfl ?_
          refine r_aload_n hX dX6_hall_85 rfl rfl ?_
          refine r_getI hX fg_X6_114 ly_34 rfl dX6_hall_86 ?_
          refine r_putI hX fp_X6_87 ly_34 rfl dX6_hall_89 ?_
          refine r_nmM (fun M12 eM12 => ?_)
          have h := h M12 eM12
          refine r_aload_n hX dX6_hall_92 rfl rfl ?_
          refine r_aload_n hX dX6_hall_93 rfl rfl ?_
          refine r_getI hX fg_X6_117 ly_34 rfl dX6_hall_94 ?_
          refine r_putI hX fp_X6_90 ly_34 rfl dX6_hall_97 ?_
          refine r_nmM (fun M13 eM13 => ?_)
          have h := h M13 eM13
          refine r_iconst (v := 0) hX dX6_hall_100 (by decide) ?_
          refine r_istore (L' := [some (.ref (adX X 34)), some (.int p1), some (.int p2), some (.int p3), some (.int p4), some (.int r6), some (.int v8), some (.int 0)]) hX dX6_hall_101 (Nat.lt_of_ble rfl) rfl rfl ?_
          obtain ⟨n20, h⟩ := h
          refine r_sub [some (.ref (adX X 34)), none, none, none, none, none, none, some (.int 0)] (And.intro rfl (And.intro rfl trivial)) ?_
          exact wl_X6_hall_103 p1 p2 p3 p4 hX hret n20 _ _ h
        · have h := h.2 hc
          refine r_bipush (v := (-100)) hX dX6_hall_73 (by decide) ?_
          refine r_aload_n hX dX6_hall_75 rfl rfl ?_
          refine r_getI hX fg_X6_93 ly_34 rfl dX6_hall_76 ?_
          refine r_iload hX dX6_hall_79 rfl ?_
          refine r_isub hX dX6_hall_81 ?_
          refine r_isub hX dX6_hall_82 ?_
          exact r_iret (hret _ _ rfl h) dX6_hall_83
      · have h := h.2 hc
        refine r_aload_n hX dX6_hall_40 rfl rfl ?_
        refine r_iload hX dX6_hall_41 rfl ?_
        refine r_cVi1 hX fv_X6_107 ly_34 rfl ⟨Nat.le_of_ble_eq_true rfl, Nat.le_of_ble_eq_true rfl⟩ (c_X6_fails r6 h) (Nat.le_of_ble_eq_true rfl) dX6_hall_43 (fun r21 M22 h => ?_)
        exact r_iret (hret _ _ rfl h) dX6_hall_46
    · have h := h.2 hc
      refine r_bipush (v := (-2)) hX dX6_hall_21 (by decide) ?_
      exact r_iret (hret _ _ rfl h) dX6_hall_23
  · have h := h.2 hc
    refine r_iconst (v := (-1)) hX dX6_hall_12 (by decide) ?_
    exact r_iret (hret _ _ rfl h) dX6_hall_13
set_option maxRecDepth 100000 in
theorem c_X6_hall {l : Launch} {D : va_G} {cs : CS3} {ad : Nat → Nat} (p1 : Int32) (p2 : Int32) (p3 : Int32) (p4 : Int32) {M : Mem} {post : Int32 → Mem → Prop} (h : wp_X6_hall p1 p2 p3 p4 M post) : CtI l D cs ad yX6_hall cX6_hall 8 (some .int) 4 89 [.ref (ad 34), .int p1, .int p2, .int p3, .int p4] M post := met_I (k := 3) (fun ad => [.ref (ad 34), .int p1, .int p2, .int p3, .int p4]) (fun ad => [some (.ref (ad 34)), some (.int p1), some (.int p2), some (.int p3), some (.int p4), none, none, none]) (by decide +kernel) (fun _ => Nat.le_of_ble_eq_true rfl) (fun _ => rfl) (fun _ => rfl) (fun X hX hret => wk_X6_hall p1 p2 p3 p4 hX hret h)
def wp_X6_ofChair (p1 : Int32) (p2 : Int32) (M : Mem) (post : Int32 → Mem → Prop) : Prop := (wp_X6_isChair p1 M (fun r1 M2 => ((¬ r1 = 0 → ((¬ p2 = 0 → ((¬ p2 = 1 → ((¬ p2 = 2 → post (-2) M2) ∧ (p2 = 2 → (vp_in p1 5 ∧ post (M2 40 p1.toNatClampNeg) M2)))) ∧ (p2 = 1 → (vp_in p1 5 ∧ post (M2 39 p1.toNatClampNeg) M2)))) ∧ (p2 = 0 → (vp_in p1 5 ∧ post (M2 38 p1.toNatClampNeg) M2)))) ∧ (r1 = 0 → post (-1) M2))))
set_option maxRecDepth 100000 in
theorem wk_X6_ofChair {X : CT} (p1 : Int32) (p2 : Int32) (hX : okX X RX6 cX6_ofChair 1 21) {M : Mem} {post : Int32 → Mem → Prop} (hret : ∀ (r : Int32) (M' : Mem), narrow .int (.int r) = .int r → post r M' → RetI X cX6_ofChair r M') (h : wp_X6_ofChair p1 p2 M post) : Z X M 0 [some (.ref (adX X 34)), some (.int p1), some (.int p2)] [] := by
  unfold wp_X6_ofChair at h
  refine r_aload_n hX dX6_ofChair_0 rfl rfl ?_
  refine r_iload_n hX dX6_ofChair_1 rfl rfl ?_
  refine r_cVi1 hX fv_X6_140 ly_34 rfl ⟨Nat.le_of_ble_eq_true rfl, Nat.le_of_ble_eq_true rfl⟩ (c_X6_isChair p1 h) (Nat.le_of_ble_eq_true rfl) dX6_ofChair_2 (fun r1 M2 h => ?_)
  refine r_if_ne hX 10 dX6_ofChair_5 (by decide) (fun hc => ?_) (fun hc => ?_)
  · have h := h.1 hc
    refine r_iload_n hX dX6_ofChair_10 rfl rfl ?_
    refine r_if_ne hX 23 dX6_ofChair_11 (by decide) (fun hc => ?_) (fun hc => ?_)
    · have h := h.1 hc
      refine r_iload_n hX dX6_ofChair_23 rfl rfl ?_
      refine r_iconst (v := 1) hX dX6_ofChair_24 (by decide) ?_
      refine r_icmp_ne hX 37 dX6_ofChair_25 (by decide) (fun hc => ?_) (fun hc => ?_)
      · have h := h.1 hc
        refine r_iload_n hX dX6_ofChair_37 rfl rfl ?_
        refine r_iconst (v := 2) hX dX6_ofChair_38 (by decide) ?_
        refine r_icmp_ne hX 51 dX6_ofChair_39 (by decide) (fun hc => ?_) (fun hc => ?_)
        · have h := h.1 hc
          refine r_bipush (v := (-2)) hX dX6_ofChair_51 (by decide) ?_
          exact r_iret (hret _ _ rfl h) dX6_ofChair_53
        · have h := h.2 hc
          refine r_aload_n hX dX6_ofChair_42 rfl rfl ?_
          refine r_getR hX fg_X6_25 ly_34 rfl dX6_ofChair_43 ?_
          refine r_iload_n hX dX6_ofChair_46 rfl rfl ?_
          refine r_iald hX ly_40 h.1 dX6_ofChair_47 ?_
          have h := h.2
          refine r_goto hX 53 dX6_ofChair_48 (by decide) ?_
          exact r_iret (hret _ _ rfl h) dX6_ofChair_53
      · have h := h.2 hc
        refine r_aload_n hX dX6_ofChair_28 rfl rfl ?_
        refine r_getR hX fg_X6_22 ly_34 rfl dX6_ofChair_29 ?_
        refine r_iload_n hX dX6_ofChair_32 rfl rfl ?_
        refine r_iald hX ly_39 h.1 dX6_ofChair_33 ?_
        have h := h.2
        refine r_goto hX 53 dX6_ofChair_34 (by decide) ?_
        exact r_iret (hret _ _ rfl h) dX6_ofChair_53
    · have h := h.2 hc
      refine r_aload_n hX dX6_ofChair_14 rfl rfl ?_
      refine r_getR hX fg_X6_19 ly_34 rfl dX6_ofChair_15 ?_
      refine r_iload_n hX dX6_ofChair_18 rfl rfl ?_
      refine r_iald hX ly_38 h.1 dX6_ofChair_19 ?_
      have h := h.2
      refine r_goto hX 53 dX6_ofChair_20 (by decide) ?_
      exact r_iret (hret _ _ rfl h) dX6_ofChair_53
  · have h := h.2 hc
    refine r_iconst (v := (-1)) hX dX6_ofChair_8 (by decide) ?_
    exact r_iret (hret _ _ rfl h) dX6_ofChair_9
set_option maxRecDepth 100000 in
theorem c_X6_ofChair {l : Launch} {D : va_G} {cs : CS3} {ad : Nat → Nat} (p1 : Int32) (p2 : Int32) {M : Mem} {post : Int32 → Mem → Prop} (h : wp_X6_ofChair p1 p2 M post) : CtI l D cs ad yX6_ofChair cX6_ofChair 3 (some .int) 1 21 [.ref (ad 34), .int p1, .int p2] M post := met_I (k := 0) (fun ad => [.ref (ad 34), .int p1, .int p2]) (fun ad => [some (.ref (ad 34)), some (.int p1), some (.int p2)]) (by decide +kernel) (fun _ => Nat.le_of_ble_eq_true rfl) (fun _ => rfl) (fun _ => rfl) (fun X hX hret => wk_X6_ofChair p1 p2 hX hret h)
def wp_X6_slip (p1 : Int32) (p2 : Int32) (p3 : Int32) (M : Mem) (post : Int32 → Mem → Prop) : Prop := (wp_X6_isGuest p2 M (fun r1 M2 => ((r1 = 0 → post (-1) M2) ∧ (¬ r1 = 0 → (wp_X6_isChair p3 M2 (fun r3 M4 => ((¬ r3 = 0 → (wp_X6_isDinner p1 M4 (fun r5 M6 => ((¬ r5 = 0 → ((¬ (M6 34 10) = 8 → (vp_in (M6 34 10) 8 ∧ ∀ M7 : Mem, M7 = up2 M6 41 (M6 34 10).toNatClampNeg p1 → (vp_in (M7 34 10) 8 ∧ ∀ M8 : Mem, M8 = up2 M7 42 (M7 34 10).toNatClampNeg p2 → (vp_in (M8 34 10) 8 ∧ ∀ M9 : Mem, M9 = up2 M8 43 (M8 34 10).toNatClampNeg p3 → (∀ M10 : Mem, M10 = up2 M9 34 10 ((M9 34 10) + 1) → post ((M10 34 10) - 1) M10))))) ∧ ((M6 34 10) = 8 → post (-4) M6))) ∧ (r5 = 0 → post (-2) M6))))) ∧ (r3 = 0 → post (-1) M4))))))))
set_option maxRecDepth 100000 in
theorem wk_X6_slip {X : CT} (p1 : Int32) (p2 : Int32) (p3 : Int32) (hX : okX X RX6 cX6_slip 2 42) {M : Mem} {post : Int32 → Mem → Prop} (hret : ∀ (r : Int32) (M' : Mem), narrow .int (.int r) = .int r → post r M' → RetI X cX6_slip r M') (h : wp_X6_slip p1 p2 p3 M post) : Z X M 0 [some (.ref (adX X 34)), some (.int p1), some (.int p2), some (.int p3)] [] := by
  unfold wp_X6_slip at h
  refine r_aload_n hX dX6_slip_0 rfl rfl ?_
  refine r_iload_n hX dX6_slip_1 rfl rfl ?_
  refine r_cVi1 hX fv_X6_143 ly_34 rfl ⟨Nat.le_of_ble_eq_true rfl, Nat.le_of_ble_eq_true rfl⟩ (c_X6_isGuest p2 h) (Nat.le_of_ble_eq_true rfl) dX6_slip_2 (fun r1 M2 h => ?_)
  refine r_if_eq hX 16 dX6_slip_5 (by decide) (fun hc => ?_) (fun hc => ?_)
  · have h := h.1 hc
    refine r_iconst (v := (-1)) hX dX6_slip_16 (by decide) ?_
    exact r_iret (hret _ _ rfl h) dX6_slip_17
  · have h := h.2 hc
    refine r_aload_n hX dX6_slip_8 rfl rfl ?_
    refine r_iload_n hX dX6_slip_9 rfl rfl ?_
    refine r_cVi1 hX fv_X6_140 ly_34 rfl ⟨Nat.le_of_ble_eq_true rfl, Nat.le_of_ble_eq_true rfl⟩ (c_X6_isChair p3 h) (Nat.le_of_ble_eq_true rfl) dX6_slip_10 (fun r3 M4 h => ?_)
    refine r_if_ne hX 18 dX6_slip_13 (by decide) (fun hc => ?_) (fun hc => ?_)
    · have h := h.1 hc
      refine r_iload_n hX dX6_slip_18 rfl rfl ?_
      refine r_cSi1 hX fs_X6_146 ⟨Nat.le_of_ble_eq_true rfl, Nat.le_of_ble_eq_true rfl⟩ (c_X6_isDinner p1 h) (Nat.le_of_ble_eq_true rfl) dX6_slip_19 (fun r5 M6 h => ?_)
      refine r_if_ne hX 28 dX6_slip_22 (by decide) (fun hc => ?_) (fun hc => ?_)
      · have h := h.1 hc
        refine r_aload_n hX dX6_slip_28 rfl rfl ?_
        refine r_getI hX fg_X6_120 ly_34 rfl dX6_slip_29 ?_
        refine r_bipush (v := 8) hX dX6_slip_32 (by decide) ?_
        refine r_icmp_ne hX 40 dX6_slip_34 (by decide) (fun hc => ?_) (fun hc => ?_)
        · have h := h.1 hc
          refine r_aload_n hX dX6_slip_40 rfl rfl ?_
          refine r_getR hX fg_X6_28 ly_34 rfl dX6_slip_41 ?_
          refine r_aload_n hX dX6_slip_44 rfl rfl ?_
          refine r_getI hX fg_X6_120 ly_34 rfl dX6_slip_45 ?_
          refine r_iload_n hX dX6_slip_48 rfl rfl ?_
          refine r_iast hX ly_41 h.1 dX6_slip_49 ?_
          refine r_nmM (fun M7 eM7 => ?_)
          have h := h.2 M7 eM7
          refine r_aload_n hX dX6_slip_50 rfl rfl ?_
          refine r_getR hX fg_X6_31 ly_34 rfl dX6_slip_51 ?_
          refine r_aload_n hX dX6_slip_54 rfl rfl ?_
          refine r_getI hX fg_X6_120 ly_34 rfl dX6_slip_55 ?_
          refine r_iload_n hX dX6_slip_58 rfl rfl ?_
          refine r_iast hX ly_42 h.1 dX6_slip_59 ?_
          refine r_nmM (fun M8 eM8 => ?_)
          have h := h.2 M8 eM8
          refine r_aload_n hX dX6_slip_60 rfl rfl ?_
          refine r_getR hX fg_X6_34 ly_34 rfl dX6_slip_61 ?_
          refine r_aload_n hX dX6_slip_64 rfl rfl ?_
          refine r_getI hX fg_X6_120 ly_34 rfl dX6_slip_65 ?_
          refine r_iload_n hX dX6_slip_68 rfl rfl ?_
          refine r_iast hX ly_43 h.1 dX6_slip_69 ?_
          refine r_nmM (fun M9 eM9 => ?_)
          have h := h.2 M9 eM9
          refine r_aload_n hX dX6_slip_70 rfl rfl ?_
          refine r_dup hX dX6_slip_71 rfl ?_
          refine r_getI hX fg_X6_120 ly_34 rfl dX6_slip_72 ?_
          refine r_iconst (v := 1) hX dX6_slip_75 (by decide) ?_
          refine r_iadd hX dX6_slip_76 ?_
          refine r_putI hX fp_X6_120 ly_34 rfl dX6_slip_77 ?_
          refine r_nmM (fun M10 eM10 => ?_)
          have h := h M10 eM10
          refine r_aload_n hX dX6_slip_80 rfl rfl ?_
          refine r_getI hX fg_X6_120 ly_34 rfl dX6_slip_81 ?_
          refine r_iconst (v := 1) hX dX6_slip_84 (by decide) ?_
          refine r_isub hX dX6_slip_85 ?_
          exact r_iret (hret _ _ rfl h) dX6_slip_86
        · have h := h.2 hc
          refine r_bipush (v := (-4)) hX dX6_slip_37 (by decide) ?_
          exact r_iret (hret _ _ rfl h) dX6_slip_39
      · have h := h.2 hc
        refine r_bipush (v := (-2)) hX dX6_slip_25 (by decide) ?_
        exact r_iret (hret _ _ rfl h) dX6_slip_27
    · have h := h.2 hc
      refine r_iconst (v := (-1)) hX dX6_slip_16 (by decide) ?_
      exact r_iret (hret _ _ rfl h) dX6_slip_17
set_option maxRecDepth 100000 in
theorem c_X6_slip {l : Launch} {D : va_G} {cs : CS3} {ad : Nat → Nat} (p1 : Int32) (p2 : Int32) (p3 : Int32) {M : Mem} {post : Int32 → Mem → Prop} (h : wp_X6_slip p1 p2 p3 M post) : CtI l D cs ad yX6_slip cX6_slip 4 (some .int) 2 42 [.ref (ad 34), .int p1, .int p2, .int p3] M post := met_I (k := 0) (fun ad => [.ref (ad 34), .int p1, .int p2, .int p3]) (fun ad => [some (.ref (ad 34)), some (.int p1), some (.int p2), some (.int p3)]) (by decide +kernel) (fun _ => Nat.le_of_ble_eq_true rfl) (fun _ => rfl) (fun _ => rfl) (fun X hX hret => wk_X6_slip p1 p2 p3 hX hret h)
def wp_X6_isSlip (p1 : Int32) (M : Mem) (post : Int32 → Mem → Prop) : Prop := ((p1 < 0 → post 0 M) ∧ (¬ p1 < 0 → (((M 34 10) ≤ p1 → post 0 M) ∧ (¬ (M 34 10) ≤ p1 → post 1 M))))
set_option maxRecDepth 100000 in
theorem wk_X6_isSlip {X : CT} (p1 : Int32) (hX : okX X RX6 cX6_isSlip 0 0) {M : Mem} {post : Int32 → Mem → Prop} (hret : ∀ (r : Int32) (M' : Mem), narrow .boolean (.int r) = .int r → post r M' → RetI X cX6_isSlip r M') (h : wp_X6_isSlip p1 M post) : Z X M 0 [some (.ref (adX X 34)), some (.int p1)] [] := by
  unfold wp_X6_isSlip at h
  refine r_iload_n hX dX6_isSlip_0 rfl rfl ?_
  refine r_if_lt hX 16 dX6_isSlip_1 (by decide) (fun hc => ?_) (fun hc => ?_)
  · have h := h.1 hc
    refine r_iconst (v := 0) hX dX6_isSlip_16 (by decide) ?_
    exact r_iret (hret _ _ rfl h) dX6_isSlip_17
  · have h := h.2 hc
    refine r_iload_n hX dX6_isSlip_4 rfl rfl ?_
    refine r_aload_n hX dX6_isSlip_5 rfl rfl ?_
    refine r_getI hX fg_X6_120 ly_34 rfl dX6_isSlip_6 ?_
    refine r_icmp_ge hX 16 dX6_isSlip_9 (by decide) (fun hc => ?_) (fun hc => ?_)
    · have h := h.1 hc
      refine r_iconst (v := 0) hX dX6_isSlip_16 (by decide) ?_
      exact r_iret (hret _ _ rfl h) dX6_isSlip_17
    · have h := h.2 hc
      refine r_iconst (v := 1) hX dX6_isSlip_12 (by decide) ?_
      refine r_goto hX 17 dX6_isSlip_13 (by decide) ?_
      exact r_iret (hret _ _ rfl h) dX6_isSlip_17
set_option maxRecDepth 100000 in
theorem c_X6_isSlip {l : Launch} {D : va_G} {cs : CS3} {ad : Nat → Nat} (p1 : Int32) {M : Mem} {post : Int32 → Mem → Prop} (h : wp_X6_isSlip p1 M post) : CtI l D cs ad yX6_isSlip cX6_isSlip 2 (some .boolean) 0 0 [.ref (ad 34), .int p1] M post := met_I (k := 0) (fun ad => [.ref (ad 34), .int p1]) (fun ad => [some (.ref (ad 34)), some (.int p1)]) (by decide +kernel) (fun _ => Nat.le_of_ble_eq_true rfl) (fun _ => rfl) (fun _ => rfl) (fun X hX hret => wk_X6_isSlip p1 hX hret h)
def wp_X6_ofSlip (p1 : Int32) (p2 : Int32) (M : Mem) (post : Int32 → Mem → Prop) : Prop := (wp_X6_isSlip p1 M (fun r1 M2 => ((¬ r1 = 0 → ((¬ p2 = 0 → ((¬ p2 = 1 → ((¬ p2 = 2 → post (-2) M2) ∧ (p2 = 2 → (vp_in p1 8 ∧ post (M2 43 p1.toNatClampNeg) M2)))) ∧ (p2 = 1 → (vp_in p1 8 ∧ post (M2 42 p1.toNatClampNeg) M2)))) ∧ (p2 = 0 → (vp_in p1 8 ∧ post (M2 41 p1.toNatClampNeg) M2)))) ∧ (r1 = 0 → post (-1) M2))))
set_option maxRecDepth 100000 in
theorem wk_X6_ofSlip {X : CT} (p1 : Int32) (p2 : Int32) (hX : okX X RX6 cX6_ofSlip 1 21) {M : Mem} {post : Int32 → Mem → Prop} (hret : ∀ (r : Int32) (M' : Mem), narrow .int (.int r) = .int r → post r M' → RetI X cX6_ofSlip r M') (h : wp_X6_ofSlip p1 p2 M post) : Z X M 0 [some (.ref (adX X 34)), some (.int p1), some (.int p2)] [] := by
  unfold wp_X6_ofSlip at h
  refine r_aload_n hX dX6_ofSlip_0 rfl rfl ?_
  refine r_iload_n hX dX6_ofSlip_1 rfl rfl ?_
  refine r_cVi1 hX fv_X6_149 ly_34 rfl ⟨Nat.le_of_ble_eq_true rfl, Nat.le_of_ble_eq_true rfl⟩ (c_X6_isSlip p1 h) (Nat.le_of_ble_eq_true rfl) dX6_ofSlip_2 (fun r1 M2 h => ?_)
  refine r_if_ne hX 10 dX6_ofSlip_5 (by decide) (fun hc => ?_) (fun hc => ?_)
  · have h := h.1 hc
    refine r_iload_n hX dX6_ofSlip_10 rfl rfl ?_
    refine r_if_ne hX 23 dX6_ofSlip_11 (by decide) (fun hc => ?_) (fun hc => ?_)
    · have h := h.1 hc
      refine r_iload_n hX dX6_ofSlip_23 rfl rfl ?_
      refine r_iconst (v := 1) hX dX6_ofSlip_24 (by decide) ?_
      refine r_icmp_ne hX 37 dX6_ofSlip_25 (by decide) (fun hc => ?_) (fun hc => ?_)
      · have h := h.1 hc
        refine r_iload_n hX dX6_ofSlip_37 rfl rfl ?_
        refine r_iconst (v := 2) hX dX6_ofSlip_38 (by decide) ?_
        refine r_icmp_ne hX 51 dX6_ofSlip_39 (by decide) (fun hc => ?_) (fun hc => ?_)
        · have h := h.1 hc
          refine r_bipush (v := (-2)) hX dX6_ofSlip_51 (by decide) ?_
          exact r_iret (hret _ _ rfl h) dX6_ofSlip_53
        · have h := h.2 hc
          refine r_aload_n hX dX6_ofSlip_42 rfl rfl ?_
          refine r_getR hX fg_X6_34 ly_34 rfl dX6_ofSlip_43 ?_
          refine r_iload_n hX dX6_ofSlip_46 rfl rfl ?_
          refine r_iald hX ly_43 h.1 dX6_ofSlip_47 ?_
          have h := h.2
          refine r_goto hX 53 dX6_ofSlip_48 (by decide) ?_
          exact r_iret (hret _ _ rfl h) dX6_ofSlip_53
      · have h := h.2 hc
        refine r_aload_n hX dX6_ofSlip_28 rfl rfl ?_
        refine r_getR hX fg_X6_31 ly_34 rfl dX6_ofSlip_29 ?_
        refine r_iload_n hX dX6_ofSlip_32 rfl rfl ?_
        refine r_iald hX ly_42 h.1 dX6_ofSlip_33 ?_
        have h := h.2
        refine r_goto hX 53 dX6_ofSlip_34 (by decide) ?_
        exact r_iret (hret _ _ rfl h) dX6_ofSlip_53
    · have h := h.2 hc
      refine r_aload_n hX dX6_ofSlip_14 rfl rfl ?_
      refine r_getR hX fg_X6_28 ly_34 rfl dX6_ofSlip_15 ?_
      refine r_iload_n hX dX6_ofSlip_18 rfl rfl ?_
      refine r_iald hX ly_41 h.1 dX6_ofSlip_19 ?_
      have h := h.2
      refine r_goto hX 53 dX6_ofSlip_20 (by decide) ?_
      exact r_iret (hret _ _ rfl h) dX6_ofSlip_53
  · have h := h.2 hc
    refine r_iconst (v := (-1)) hX dX6_ofSlip_8 (by decide) ?_
    exact r_iret (hret _ _ rfl h) dX6_ofSlip_9
set_option maxRecDepth 100000 in
theorem c_X6_ofSlip {l : Launch} {D : va_G} {cs : CS3} {ad : Nat → Nat} (p1 : Int32) (p2 : Int32) {M : Mem} {post : Int32 → Mem → Prop} (h : wp_X6_ofSlip p1 p2 M post) : CtI l D cs ad yX6_ofSlip cX6_ofSlip 3 (some .int) 1 21 [.ref (ad 34), .int p1, .int p2] M post := met_I (k := 0) (fun ad => [.ref (ad 34), .int p1, .int p2]) (fun ad => [some (.ref (ad 34)), some (.int p1), some (.int p2)]) (by decide +kernel) (fun _ => Nat.le_of_ble_eq_true rfl) (fun _ => rfl) (fun _ => rfl) (fun X hX hret => wk_X6_ofSlip p1 p2 hX hret h)
def wp_X6_unsay (p1 : Int32) (M : Mem) (post : Int32 → Mem → Prop) : Prop := (wp_X6_within p1 0 (M 34 10) M (fun r1 M2 => ((¬ r1 = 0 → (∀ M3 : Mem, M3 = up2 M2 34 10 ((M2 34 10) - p1) → post (M3 34 10) M3)) ∧ (r1 = 0 → post (-2) M2))))
set_option maxRecDepth 100000 in
theorem wk_X6_unsay {X : CT} (p1 : Int32) (hX : okX X RX6 cX6_unsay 1 22) {M : Mem} {post : Int32 → Mem → Prop} (hret : ∀ (r : Int32) (M' : Mem), narrow .int (.int r) = .int r → post r M' → RetI X cX6_unsay r M') (h : wp_X6_unsay p1 M post) : Z X M 0 [some (.ref (adX X 34)), some (.int p1)] [] := by
  unfold wp_X6_unsay at h
  refine r_iload_n hX dX6_unsay_0 rfl rfl ?_
  refine r_iconst (v := 0) hX dX6_unsay_1 (by decide) ?_
  refine r_aload_n hX dX6_unsay_2 rfl rfl ?_
  refine r_getI hX fg_X6_120 ly_34 rfl dX6_unsay_3 ?_
  refine r_cSi3 hX fs_X6_83 ⟨Nat.le_of_ble_eq_true rfl, Nat.le_of_ble_eq_true rfl⟩ (c_X6_within p1 0 (M 34 10) h) (Nat.le_of_ble_eq_true rfl) dX6_unsay_6 (fun r1 M2 h => ?_)
  refine r_if_ne hX 15 dX6_unsay_9 (by decide) (fun hc => ?_) (fun hc => ?_)
  · have h := h.1 hc
    refine r_aload_n hX dX6_unsay_15 rfl rfl ?_
    refine r_dup hX dX6_unsay_16 rfl ?_
    refine r_getI hX fg_X6_120 ly_34 rfl dX6_unsay_17 ?_
    refine r_iload_n hX dX6_unsay_20 rfl rfl ?_
    refine r_isub hX dX6_unsay_21 ?_
    refine r_putI hX fp_X6_120 ly_34 rfl dX6_unsay_22 ?_
    refine r_nmM (fun M3 eM3 => ?_)
    have h := h M3 eM3
    refine r_aload_n hX dX6_unsay_25 rfl rfl ?_
    refine r_getI hX fg_X6_120 ly_34 rfl dX6_unsay_26 ?_
    exact r_iret (hret _ _ rfl h) dX6_unsay_29
  · have h := h.2 hc
    refine r_bipush (v := (-2)) hX dX6_unsay_12 (by decide) ?_
    exact r_iret (hret _ _ rfl h) dX6_unsay_14
set_option maxRecDepth 100000 in
theorem c_X6_unsay {l : Launch} {D : va_G} {cs : CS3} {ad : Nat → Nat} (p1 : Int32) {M : Mem} {post : Int32 → Mem → Prop} (h : wp_X6_unsay p1 M post) : CtI l D cs ad yX6_unsay cX6_unsay 2 (some .int) 1 22 [.ref (ad 34), .int p1] M post := met_I (k := 0) (fun ad => [.ref (ad 34), .int p1]) (fun ad => [some (.ref (ad 34)), some (.int p1)]) (by decide +kernel) (fun _ => Nat.le_of_ble_eq_true rfl) (fun _ => rfl) (fun _ => rfl) (fun X hX hret => wk_X6_unsay p1 hX hret h)
def wp_X6_butter (p1 : Int32) (p2 : Int32) (p3 : Int32) (M : Mem) (post : Int32 → Mem → Prop) : Prop := (wp_X6_isGuest p2 M (fun r1 M2 => ((r1 = 0 → post (-1) M2) ∧ (¬ r1 = 0 → (wp_X6_isChair p3 M2 (fun r3 M4 => ((¬ r3 = 0 → (wp_X6_isDinner p1 M4 (fun r5 M6 => ((¬ r5 = 0 → ((¬ (M6 34 14) = 8 → (vp_in (M6 34 14) 8 ∧ ∀ M7 : Mem, M7 = up2 M6 44 (M6 34 14).toNatClampNeg p1 → (vp_in (M7 34 14) 8 ∧ ∀ M8 : Mem, M8 = up2 M7 45 (M7 34 14).toNatClampNeg p2 → (vp_in (M8 34 14) 8 ∧ ∀ M9 : Mem, M9 = up2 M8 46 (M8 34 14).toNatClampNeg p3 → (∀ M10 : Mem, M10 = up2 M9 34 14 ((M9 34 14) + 1) → post ((M10 34 14) - 1) M10))))) ∧ ((M6 34 14) = 8 → post (-4) M6))) ∧ (r5 = 0 → post (-2) M6))))) ∧ (r3 = 0 → post (-1) M4))))))))
set_option maxRecDepth 100000 in
theorem wk_X6_butter {X : CT} (p1 : Int32) (p2 : Int32) (p3 : Int32) (hX : okX X RX6 cX6_butter 2 42) {M : Mem} {post : Int32 → Mem → Prop} (hret : ∀ (r : Int32) (M' : Mem), narrow .int (.int r) = .int r → post r M' → RetI X cX6_butter r M') (h : wp_X6_butter p1 p2 p3 M post) : Z X M 0 [some (.ref (adX X 34)), some (.int p1), some (.int p2), some (.int p3)] [] := by
  unfold wp_X6_butter at h
  refine r_aload_n hX dX6_butter_0 rfl rfl ?_
  refine r_iload_n hX dX6_butter_1 rfl rfl ?_
  refine r_cVi1 hX fv_X6_143 ly_34 rfl ⟨Nat.le_of_ble_eq_true rfl, Nat.le_of_ble_eq_true rfl⟩ (c_X6_isGuest p2 h) (Nat.le_of_ble_eq_true rfl) dX6_butter_2 (fun r1 M2 h => ?_)
  refine r_if_eq hX 16 dX6_butter_5 (by decide) (fun hc => ?_) (fun hc => ?_)
  · have h := h.1 hc
    refine r_iconst (v := (-1)) hX dX6_butter_16 (by decide) ?_
    exact r_iret (hret _ _ rfl h) dX6_butter_17
  · have h := h.2 hc
    refine r_aload_n hX dX6_butter_8 rfl rfl ?_
    refine r_iload_n hX dX6_butter_9 rfl rfl ?_
    refine r_cVi1 hX fv_X6_140 ly_34 rfl ⟨Nat.le_of_ble_eq_true rfl, Nat.le_of_ble_eq_true rfl⟩ (c_X6_isChair p3 h) (Nat.le_of_ble_eq_true rfl) dX6_butter_10 (fun r3 M4 h => ?_)
    refine r_if_ne hX 18 dX6_butter_13 (by decide) (fun hc => ?_) (fun hc => ?_)
    · have h := h.1 hc
      refine r_iload_n hX dX6_butter_18 rfl rfl ?_
      refine r_cSi1 hX fs_X6_146 ⟨Nat.le_of_ble_eq_true rfl, Nat.le_of_ble_eq_true rfl⟩ (c_X6_isDinner p1 h) (Nat.le_of_ble_eq_true rfl) dX6_butter_19 (fun r5 M6 h => ?_)
      refine r_if_ne hX 28 dX6_butter_22 (by decide) (fun hc => ?_) (fun hc => ?_)
      · have h := h.1 hc
        refine r_aload_n hX dX6_butter_28 rfl rfl ?_
        refine r_getI hX fg_X6_123 ly_34 rfl dX6_butter_29 ?_
        refine r_bipush (v := 8) hX dX6_butter_32 (by decide) ?_
        refine r_icmp_ne hX 40 dX6_butter_34 (by decide) (fun hc => ?_) (fun hc => ?_)
        · have h := h.1 hc
          refine r_aload_n hX dX6_butter_40 rfl rfl ?_
          refine r_getR hX fg_X6_37 ly_34 rfl dX6_butter_41 ?_
          refine r_aload_n hX dX6_butter_44 rfl rfl ?_
          refine r_getI hX fg_X6_123 ly_34 rfl dX6_butter_45 ?_
          refine r_iload_n hX dX6_butter_48 rfl rfl ?_
          refine r_iast hX ly_44 h.1 dX6_butter_49 ?_
          refine r_nmM (fun M7 eM7 => ?_)
          have h := h.2 M7 eM7
          refine r_aload_n hX dX6_butter_50 rfl rfl ?_
          refine r_getR hX fg_X6_40 ly_34 rfl dX6_butter_51 ?_
          refine r_aload_n hX dX6_butter_54 rfl rfl ?_
          refine r_getI hX fg_X6_123 ly_34 rfl dX6_butter_55 ?_
          refine r_iload_n hX dX6_butter_58 rfl rfl ?_
          refine r_iast hX ly_45 h.1 dX6_butter_59 ?_
          refine r_nmM (fun M8 eM8 => ?_)
          have h := h.2 M8 eM8
          refine r_aload_n hX dX6_butter_60 rfl rfl ?_
          refine r_getR hX fg_X6_43 ly_34 rfl dX6_butter_61 ?_
          refine r_aload_n hX dX6_butter_64 rfl rfl ?_
          refine r_getI hX fg_X6_123 ly_34 rfl dX6_butter_65 ?_
          refine r_iload_n hX dX6_butter_68 rfl rfl ?_
          refine r_iast hX ly_46 h.1 dX6_butter_69 ?_
          refine r_nmM (fun M9 eM9 => ?_)
          have h := h.2 M9 eM9
          refine r_aload_n hX dX6_butter_70 rfl rfl ?_
          refine r_dup hX dX6_butter_71 rfl ?_
          refine r_getI hX fg_X6_123 ly_34 rfl dX6_butter_72 ?_
          refine r_iconst (v := 1) hX dX6_butter_75 (by decide) ?_
          refine r_iadd hX dX6_butter_76 ?_
          refine r_putI hX fp_X6_123 ly_34 rfl dX6_butter_77 ?_
          refine r_nmM (fun M10 eM10 => ?_)
          have h := h M10 eM10
          refine r_aload_n hX dX6_butter_80 rfl rfl ?_
          refine r_getI hX fg_X6_123 ly_34 rfl dX6_butter_81 ?_
          refine r_iconst (v := 1) hX dX6_butter_84 (by decide) ?_
          refine r_isub hX dX6_butter_85 ?_
          exact r_iret (hret _ _ rfl h) dX6_butter_86
        · have h := h.2 hc
          refine r_bipush (v := (-4)) hX dX6_butter_37 (by decide) ?_
          exact r_iret (hret _ _ rfl h) dX6_butter_39
      · have h := h.2 hc
        refine r_bipush (v := (-2)) hX dX6_butter_25 (by decide) ?_
        exact r_iret (hret _ _ rfl h) dX6_butter_27
    · have h := h.2 hc
      refine r_iconst (v := (-1)) hX dX6_butter_16 (by decide) ?_
      exact r_iret (hret _ _ rfl h) dX6_butter_17
set_option maxRecDepth 100000 in
theorem c_X6_butter {l : Launch} {D : va_G} {cs : CS3} {ad : Nat → Nat} (p1 : Int32) (p2 : Int32) (p3 : Int32) {M : Mem} {post : Int32 → Mem → Prop} (h : wp_X6_butter p1 p2 p3 M post) : CtI l D cs ad yX6_butter cX6_butter 4 (some .int) 2 42 [.ref (ad 34), .int p1, .int p2, .int p3] M post := met_I (k := 0) (fun ad => [.ref (ad 34), .int p1, .int p2, .int p3]) (fun ad => [some (.ref (ad 34)), some (.int p1), some (.int p2), some (.int p3)]) (by decide +kernel) (fun _ => Nat.le_of_ble_eq_true rfl) (fun _ => rfl) (fun _ => rfl) (fun X hX hret => wk_X6_butter p1 p2 p3 hX hret h)
def wp_X6_melt (p1 : Int32) (M : Mem) (post : Int32 → Mem → Prop) : Prop := (wp_X6_within p1 0 (M 34 14) M (fun r1 M2 => ((¬ r1 = 0 → (∀ M3 : Mem, M3 = up2 M2 34 14 ((M2 34 14) - p1) → post (M3 34 14) M3)) ∧ (r1 = 0 → post (-2) M2))))
set_option maxRecDepth 100000 in
theorem wk_X6_melt {X : CT} (p1 : Int32) (hX : okX X RX6 cX6_melt 1 22) {M : Mem} {post : Int32 → Mem → Prop} (hret : ∀ (r : Int32) (M' : Mem), narrow .int (.int r) = .int r → post r M' → RetI X cX6_melt r M') (h : wp_X6_melt p1 M post) : Z X M 0 [some (.ref (adX X 34)), some (.int p1)] [] := by
  unfold wp_X6_melt at h
  refine r_iload_n hX dX6_melt_0 rfl rfl ?_
  refine r_iconst (v := 0) hX dX6_melt_1 (by decide) ?_
  refine r_aload_n hX dX6_melt_2 rfl rfl ?_
  refine r_getI hX fg_X6_123 ly_34 rfl dX6_melt_3 ?_
  refine r_cSi3 hX fs_X6_83 ⟨Nat.le_of_ble_eq_true rfl, Nat.le_of_ble_eq_true rfl⟩ (c_X6_within p1 0 (M 34 14) h) (Nat.le_of_ble_eq_true rfl) dX6_melt_6 (fun r1 M2 h => ?_)
  refine r_if_ne hX 15 dX6_melt_9 (by decide) (fun hc => ?_) (fun hc => ?_)
  · have h := h.1 hc
    refine r_aload_n hX dX6_melt_15 rfl rfl ?_
    refine r_dup hX dX6_melt_16 rfl ?_
    refine r_getI hX fg_X6_123 ly_34 rfl dX6_melt_17 ?_
    refine r_iload_n hX dX6_melt_20 rfl rfl ?_
    refine r_isub hX dX6_melt_21 ?_
    refine r_putI hX fp_X6_123 ly_34 rfl dX6_melt_22 ?_
    refine r_nmM (fun M3 eM3 => ?_)
    have h := h M3 eM3
    refine r_aload_n hX dX6_melt_25 rfl rfl ?_
    refine r_getI hX fg_X6_123 ly_34 rfl dX6_melt_26 ?_
    exact r_iret (hret _ _ rfl h) dX6_melt_29
  · have h := h.2 hc
    refine r_bipush (v := (-2)) hX dX6_melt_12 (by decide) ?_
    exact r_iret (hret _ _ rfl h) dX6_melt_14
set_option maxRecDepth 100000 in
theorem c_X6_melt {l : Launch} {D : va_G} {cs : CS3} {ad : Nat → Nat} (p1 : Int32) {M : Mem} {post : Int32 → Mem → Prop} (h : wp_X6_melt p1 M post) : CtI l D cs ad yX6_melt cX6_melt 2 (some .int) 1 22 [.ref (ad 34), .int p1] M post := met_I (k := 0) (fun ad => [.ref (ad 34), .int p1]) (fun ad => [some (.ref (ad 34)), some (.int p1)]) (by decide +kernel) (fun _ => Nat.le_of_ble_eq_true rfl) (fun _ => rfl) (fun _ => rfl) (fun X hX hret => wk_X6_melt p1 hX hret h)
def lp_X6_isForgiven_3 (p1 : Int32) (p2 : Int32) (p3 : Int32) (post : Int32 → Mem → Prop) : Nat → Int32 → Mem → Prop
  | 0, _, _ => False
  | n + 1, x4, M => (((M 34 14) ≤ x4 → post 0 M) ∧ (¬ (M 34 14) ≤ x4 → (vp_in x4 8 ∧ ((¬ (M 46 x4.toNatClampNeg) = p1 → lp_X6_isForgiven_3 p1 p2 p3 post n (x4 + 1) M) ∧ ((M 46 x4.toNatClampNeg) = p1 → (vp_in x4 8 ∧ (vp_in p2 8 ∧ ((¬ (M 45 x4.toNatClampNeg) = (M 42 p2.toNatClampNeg) → lp_X6_isForgiven_3 p1 p2 p3 post n (x4 + 1) M) ∧ ((M 45 x4.toNatClampNeg) = (M 42 p2.toNatClampNeg) → (vp_in p2 8 ∧ (vp_in x4 8 ∧ (((M 44 x4.toNatClampNeg) < (M 41 p2.toNatClampNeg) → lp_X6_isForgiven_3 p1 p2 p3 post n (x4 + 1) M) ∧ (¬ (M 44 x4.toNatClampNeg) < (M 41 p2.toNatClampNeg) → (vp_in x4 8 ∧ ((p3 ≤ (M 44 x4.toNatClampNeg) → lp_X6_isForgiven_3 p1 p2 p3 post n (x4 + 1) M) ∧ (¬ p3 ≤ (M 44 x4.toNatClampNeg) → post 1 M))))))))))))))))
set_option maxRecDepth 100000 in
theorem wl_X6_isForgiven_3 {X : CT} (p1 : Int32) (p2 : Int32) (p3 : Int32) (hX : okX X RX6 cX6_isForgiven 0 0) {post : Int32 → Mem → Prop} (hret : ∀ (r : Int32) (M' : Mem), narrow .boolean (.int r) = .int r → post r M' → RetI X cX6_isForgiven r M') : ∀ (n : Nat) (x4 : Int32) (M : Mem), lp_X6_isForgiven_3 p1 p2 p3 post n x4 M → Z X M 3 [some (.ref (adX X 34)), some (.int p1), some (.int p2), some (.int p3), some (.int x4)] [] := by
  intro n
  induction n with
  | zero =>
    intro x4 M h
    exact False.elim h
  | succ n ih =>
    intro x4 M h
    unfold lp_X6_isForgiven_3 at h
    refine r_iload hX dX6_isForgiven_3 rfl ?_
    refine r_aload_n hX dX6_isForgiven_5 rfl rfl ?_
    refine r_getI hX fg_X6_123 ly_34 rfl dX6_isForgiven_6 ?_
    refine r_icmp_ge hX 74 dX6_isForgiven_9 (by decide) (fun hc => ?_) (fun hc => ?_)
    · have h := h.1 hc
      refine r_iconst (v := 0) hX dX6_isForgiven_74 (by decide) ?_
      exact r_iret (hret _ _ rfl h) dX6_isForgiven_75
    · have h := h.2 hc
      refine r_aload_n hX dX6_isForgiven_12 rfl rfl ?_
      refine r_getR hX fg_X6_43 ly_34 rfl dX6_isForgiven_13 ?_
      refine r_iload hX dX6_isForgiven_16 rfl ?_
      refine r_iald hX ly_46 h.1 dX6_isForgiven_18 ?_
      have h := h.2
      refine r_iload_n hX dX6_isForgiven_19 rfl rfl ?_
      refine r_icmp_ne hX 68 dX6_isForgiven_20 (by decide) (fun hc => ?_) (fun hc => ?_)
      · have h := h.1 hc
        refine r_iinc (v := x4 + 1) (L' := [some (.ref (adX X 34)), some (.int p1), some (.int p2), some (.int p3), some (.int (x4 + 1))]) hX dX6_isForgiven_68 rfl rfl rfl rfl ?_
        refine r_goto hX 3 dX6_isForgiven_71 (by decide) ?_
        refine r_sub [some (.ref (adX X 34)), some (.int p1), some (.int p2), some (.int p3), some (.int (x4 + 1))] (And.intro rfl (And.intro rfl (And.intro rfl (And.intro rfl (And.intro rfl trivial))))) ?_
        exact ih _ _ h
      · have h := h.2 hc
        refine r_aload_n hX dX6_isForgiven_23 rfl rfl ?_
        refine r_getR hX fg_X6_40 ly_34 rfl dX6_isForgiven_24 ?_
        refine r_iload hX dX6_isForgiven_27 rfl ?_
        refine r_iald hX ly_45 h.1 dX6_isForgiven_29 ?_
        have h := h.2
        refine r_aload_n hX dX6_isForgiven_30 rfl rfl ?_
        refine r_getR hX fg_X6_31 ly_34 rfl dX6_isForgiven_31 ?_
        refine r_iload_n hX dX6_isForgiven_34 rfl rfl ?_
        refine r_iald hX ly_42 h.1 dX6_isForgiven_35 ?_
        have h := h.2
        refine r_icmp_ne hX 68 dX6_isForgiven_36 (by decide) (fun hc => ?_) (fun hc => ?_)
        · have h := h.1 hc
          refine r_iinc (v := x4 + 1) (L' := [some (.ref (adX X 34)), some (.int p1), some (.int p2), some (.int p3), some (.int (x4 + 1))]) hX dX6_isForgiven_68 rfl rfl rfl rfl ?_
          refine r_goto hX 3 dX6_isForgiven_71 (by decide) ?_
          refine r_sub [some (.ref (adX X 34)), some (.int p1), some (.int p2), some (.int p3), some (.int (x4 + 1))] (And.intro rfl (And.intro rfl (And.intro rfl (And.intro rfl (And.intro rfl trivial))))) ?_
          exact ih _ _ h
        · have h := h.2 hc
          refine r_aload_n hX dX6_isForgiven_39 rfl rfl ?_
          refine r_getR hX fg_X6_28 ly_34 rfl dX6_isForgiven_40 ?_
          refine r_iload_n hX dX6_isForgiven_43 rfl rfl ?_
          refine r_iald hX ly_41 h.1 dX6_isForgiven_44 ?_
          have h := h.2
          refine r_aload_n hX dX6_isForgiven_45 rfl rfl ?_
          refine r_getR hX fg_X6_37 ly_34 rfl dX6_isForgiven_46 ?_
          refine r_iload hX dX6_isForgiven_49 rfl ?_
          refine r_iald hX ly_44 h.1 dX6_isForgiven_51 ?_
          have h := h.2
          refine r_icmp_gt hX 68 dX6_isForgiven_52 (by decide) (fun hc => ?_) (fun hc => ?_)
          · have h := h.1 hc
            refine r_iinc (v := x4 + 1) (L' := [some (.ref (adX X 34)), some (.int p1), some (.int p2), some (.int p3), some (.int (x4 + 1))]) hX dX6_isForgiven_68 rfl rfl rfl rfl ?_
            refine r_goto hX 3 dX6_isForgiven_71 (by decide) ?_
            refine r_sub [some (.ref (adX X 34)), some (.int p1), some (.int p2), some (.int p3), some (.int (x4 + 1))] (And.intro rfl (And.intro rfl (And.intro rfl (And.intro rfl (And.intro rfl trivial))))) ?_
            exact ih _ _ h
          · have h := h.2 hc
            refine r_aload_n hX dX6_isForgiven_55 rfl rfl ?_
            refine r_getR hX fg_X6_37 ly_34 rfl dX6_isForgiven_56 ?_
            refine r_iload hX dX6_isForgiven_59 rfl ?_
            refine r_iald hX ly_44 h.1 dX6_isForgiven_61 ?_
            have h := h.2
            refine r_iload_n hX dX6_isForgiven_62 rfl rfl ?_
            refine r_icmp_ge hX 68 dX6_isForgiven_63 (by decide) (fun hc => ?_) (fun hc => ?_)
            · have h := h.1 hc
              refine r_iinc (v := x4 + 1) (L' := [some (.ref (adX X 34)), some (.int p1), some (.int p2), some (.int p3), some (.int (x4 + 1))]) hX dX6_isForgiven_68 rfl rfl rfl rfl ?_
              refine r_goto hX 3 dX6_isForgiven_71 (by decide) ?_
              refine r_sub [some (.ref (adX X 34)), some (.int p1), some (.int p2), some (.int p3), some (.int (x4 + 1))] (And.intro rfl (And.intro rfl (And.intro rfl (And.intro rfl (And.intro rfl trivial))))) ?_
              exact ih _ _ h
            · have h := h.2 hc
              refine r_iconst (v := 1) hX dX6_isForgiven_66 (by decide) ?_
              exact r_iret (hret _ _ rfl h) dX6_isForgiven_67
def wp_X6_isForgiven (p1 : Int32) (p2 : Int32) (p3 : Int32) (M : Mem) (post : Int32 → Mem → Prop) : Prop := (∃ k, lp_X6_isForgiven_3 p1 p2 p3 post k 0 M)
set_option maxRecDepth 100000 in
theorem wk_X6_isForgiven {X : CT} (p1 : Int32) (p2 : Int32) (p3 : Int32) (hX : okX X RX6 cX6_isForgiven 0 0) {M : Mem} {post : Int32 → Mem → Prop} (hret : ∀ (r : Int32) (M' : Mem), narrow .boolean (.int r) = .int r → post r M' → RetI X cX6_isForgiven r M') (h : wp_X6_isForgiven p1 p2 p3 M post) : Z X M 0 [some (.ref (adX X 34)), some (.int p1), some (.int p2), some (.int p3), none] [] := by
  unfold wp_X6_isForgiven at h
  refine r_iconst (v := 0) hX dX6_isForgiven_0 (by decide) ?_
  refine r_istore (L' := [some (.ref (adX X 34)), some (.int p1), some (.int p2), some (.int p3), some (.int 0)]) hX dX6_isForgiven_1 (Nat.lt_of_ble rfl) rfl rfl ?_
  obtain ⟨n1, h⟩ := h
  refine r_sub [some (.ref (adX X 34)), some (.int p1), some (.int p2), some (.int p3), some (.int 0)] (And.intro rfl (And.intro rfl (And.intro rfl (And.intro rfl (And.intro rfl trivial))))) ?_
  exact wl_X6_isForgiven_3 p1 p2 p3 hX hret n1 _ _ h
set_option maxRecDepth 100000 in
theorem c_X6_isForgiven {l : Launch} {D : va_G} {cs : CS3} {ad : Nat → Nat} (p1 : Int32) (p2 : Int32) (p3 : Int32) {M : Mem} {post : Int32 → Mem → Prop} (h : wp_X6_isForgiven p1 p2 p3 M post) : CtI l D cs ad yX6_isForgiven cX6_isForgiven 5 (some .boolean) 0 0 [.ref (ad 34), .int p1, .int p2, .int p3] M post := met_I (k := 1) (fun ad => [.ref (ad 34), .int p1, .int p2, .int p3]) (fun ad => [some (.ref (ad 34)), some (.int p1), some (.int p2), some (.int p3), none]) (by decide +kernel) (fun _ => Nat.le_of_ble_eq_true rfl) (fun _ => rfl) (fun _ => rfl) (fun X hX hret => wk_X6_isForgiven p1 p2 p3 hX hret h)
def jn_X6_minds_122 (p1 : Int32) (p2 : Int32) (p3 : Int32) (post : Int32 → Mem → Prop) (B_32 : Int32 → Int32 → Mem → Prop) (x4 : Int32) (x5 : Int32) (s0 : Int32) (M : Mem) : Prop := ((s0 = 0 → B_32 x4 (x5 + 1) M) ∧ (¬ s0 = 0 → (vp_in x5 8 ∧ (wp_X6_within (p3 - (M 41 x5.toNatClampNeg)) 1 x4 M (fun r1 M2 => ((r1 = 0 → B_32 x4 (x5 + 1) M2) ∧ (¬ r1 = 0 → (wp_X6_isForgiven p1 x5 p3 M2 (fun r3 M4 => ((¬ r3 = 0 → B_32 x4 (x5 + 1) M4) ∧ (r3 = 0 → post 1 M4)))))))))))
set_option maxRecDepth 100000 in
theorem wj_X6_minds_122 {X : CT} (p1 : Int32) (p2 : Int32) (p3 : Int32) (hX : okX X RX6 cX6_minds 1 24) {post : Int32 → Mem → Prop} (hret : ∀ (r : Int32) (M' : Mem), narrow .boolean (.int r) = .int r → post r M' → RetI X cX6_minds r M') {B_32 : Int32 → Int32 → Mem → Prop} (hB_32 : ∀ (x4 : Int32) (x5 : Int32) (M : Mem), B_32 x4 x5 M → Z X M 32 [some (.ref (adX X 34)), some (.int p1), some (.int p2), some (.int p3), some (.int x4), some (.int x5), none, none] []) (x4 : Int32) (x5 : Int32) (s0 : Int32) (M : Mem) (h : jn_X6_minds_122 p1 p2 p3 post B_32 x4 x5 s0 M) : Z X M 122 [some (.ref (adX X 34)), some (.int p1), some (.int p2), some (.int p3), some (.int x4), some (.int x5), none, none] [.int s0] := by
  unfold jn_X6_minds_122 at h
  refine r_istore (L' := [some (.ref (adX X 34)), some (.int p1), some (.int p2), some (.int p3), some (.int x4), some (.int x5), none, some (.int s0)]) hX dX6_minds_122 (Nat.lt_of_ble rfl) rfl rfl ?_
  refine r_iload hX dX6_minds_124 rfl ?_
  refine r_if_eq hX 160 dX6_minds_126 (by decide) (fun hc => ?_) (fun hc => ?_)
  · have h := h.1 hc
    refine r_iinc (v := x5 + 1) (L' := [some (.ref (adX X 34)), some (.int p1), some (.int p2), some (.int p3), some (.int x4), some (.int (x5 + 1)), none, some (.int s0)]) hX dX6_minds_160 rfl rfl rfl rfl ?_
    refine r_goto hX 32 dX6_minds_163 (by decide) ?_
    refine r_sub [some (.ref (adX X 34)), some (.int p1), some (.int p2), some (.int p3), some (.int x4), some (.int (x5 + 1)), none, none] (And.intro rfl (And.intro rfl (And.intro rfl (And.intro rfl (And.intro rfl (And.intro rfl trivial)))))) ?_
    exact hB_32 _ _ _ h
  · have h := h.2 hc
    refine r_iload_n hX dX6_minds_129 rfl rfl ?_
    refine r_aload_n hX dX6_minds_130 rfl rfl ?_
    refine r_getR hX fg_X6_28 ly_34 rfl dX6_minds_131 ?_
    refine r_iload hX dX6_minds_134 rfl ?_
    refine r_iald hX ly_41 h.1 dX6_minds_136 ?_
    have h := h.2
    refine r_isub hX dX6_minds_137 ?_
    refine r_iconst (v := 1) hX dX6_minds_138 (by decide) ?_
    refine r_iload hX dX6_minds_139 rfl ?_
    refine r_cSi3 hX fs_X6_83 ⟨Nat.le_of_ble_eq_true rfl, Nat.le_of_ble_eq_true rfl⟩ (c_X6_within (p3 - (M 41 x5.toNatClampNeg)) 1 x4 h) (Nat.le_of_ble_eq_true rfl) dX6_minds_141 (fun r1 M2 h => ?_)
    refine r_if_eq hX 160 dX6_minds_144 (by decide) (fun hc => ?_) (fun hc => ?_)
    · have h := h.1 hc
      refine r_iinc (v := x5 + 1) (L' := [some (.ref (adX X 34)), some (.int p1), some (.int p2), some (.int p3), some (.int x4), some (.int (x5 + 1)), none, some (.int s0)]) hX dX6_minds_160 rfl rfl rfl rfl ?_
      refine r_goto hX 32 dX6_minds_163 (by decide) ?_
      refine r_sub [some (.ref (adX X 34)), some (.int p1), some (.int p2), some (.int p3), some (.int x4), some (.int (x5 + 1)), none, none] (And.intro rfl (And.intro rfl (And.intro rfl (And.intro rfl (And.intro rfl (And.intro rfl trivial)))))) ?_
      exact hB_32 _ _ _ h
    · have h := h.2 hc
      refine r_aload_n hX dX6_minds_147 rfl rfl ?_
      refine r_iload_n hX dX6_minds_148 rfl rfl ?_
      refine r_iload hX dX6_minds_149 rfl ?_
      refine r_iload_n hX dX6_minds_151 rfl rfl ?_
      refine r_cVi3 hX fv_X6_155 ly_34 rfl ⟨Nat.le_of_ble_eq_true rfl, Nat.le_of_ble_eq_true rfl⟩ (c_X6_isForgiven p1 x5 p3 h) (Nat.le_of_ble_eq_true rfl) dX6_minds_152 (fun r3 M4 h => ?_)
      refine r_if_ne hX 160 dX6_minds_155 (by decide) (fun hc => ?_) (fun hc => ?_)
      · have h := h.1 hc
        refine r_iinc (v := x5 + 1) (L' := [some (.ref (adX X 34)), some (.int p1), some (.int p2), some (.int p3), some (.int x4), some (.int (x5 + 1)), none, some (.int s0)]) hX dX6_minds_160 rfl rfl rfl rfl ?_
        refine r_goto hX 32 dX6_minds_163 (by decide) ?_
        refine r_sub [some (.ref (adX X 34)), some (.int p1), some (.int p2), some (.int p3), some (.int x4), some (.int (x5 + 1)), none, none] (And.intro rfl (And.intro rfl (And.intro rfl (And.intro rfl (And.intro rfl (And.intro rfl trivial)))))) ?_
        exact hB_32 _ _ _ h
      · have h := h.2 hc
        refine r_iconst (v := 1) hX dX6_minds_158 (by decide) ?_
        exact r_iret (hret _ _ rfl h) dX6_minds_159
def jn_X6_minds_121 (p1 : Int32) (p2 : Int32) (p3 : Int32) (post : Int32 → Mem → Prop) (B_32 : Int32 → Int32 → Mem → Prop) (x4 : Int32) (x5 : Int32) (M : Mem) : Prop := jn_X6_minds_122 p1 p2 p3 post B_32 x4 x5 0 M
set_option maxRecDepth 100000 in
theorem wj_X6_minds_121 {X : CT} (p1 : Int32) (p2 : Int32) (p3 : Int32) (hX : okX X RX6 cX6_minds 1 24) {post : Int32 → Mem → Prop} (hret : ∀ (r : Int32) (M' : Mem), narrow .boolean (.int r) = .int r → post r M' → RetI X cX6_minds r M') {B_32 : Int32 → Int32 → Mem → Prop} (hB_32 : ∀ (x4 : Int32) (x5 : Int32) (M : Mem), B_32 x4 x5 M → Z X M 32 [some (.ref (adX X 34)), some (.int p1), some (.int p2), some (.int p3), some (.int x4), some (.int x5), none, none] []) (x4 : Int32) (x5 : Int32) (M : Mem) (h : jn_X6_minds_121 p1 p2 p3 post B_32 x4 x5 M) : Z X M 121 [some (.ref (adX X 34)), some (.int p1), some (.int p2), some (.int p3), some (.int x4), some (.int x5), none, none] [] := by
  unfold jn_X6_minds_121 at h
  refine r_iconst (v := 0) hX dX6_minds_121 (by decide) ?_
  refine r_sub [some (.ref (adX X 34)), some (.int p1), some (.int p2), some (.int p3), some (.int x4), some (.int x5), none, none] (And.intro rfl (And.intro rfl (And.intro rfl (And.intro rfl (And.intro rfl (And.intro rfl trivial)))))) ?_
  exact wj_X6_minds_122 p1 p2 p3 hX hret hB_32 _ _ _ _ h
def jn_X6_minds_81 (p1 : Int32) (p2 : Int32) (p3 : Int32) (post : Int32 → Mem → Prop) (B_32 : Int32 → Int32 → Mem → Prop) (x4 : Int32) (x5 : Int32) (s0 : Int32) (M : Mem) : Prop := (vp_in x5 8 ∧ ((¬ (M 42 x5.toNatClampNeg) = p2 → jn_X6_minds_121 p1 p2 p3 post B_32 x4 x5 M) ∧ ((M 42 x5.toNatClampNeg) = p2 → ((¬ (((M 34 18) >>> (x5 &&& 31)) &&& 1) = 0 → jn_X6_minds_121 p1 p2 p3 post B_32 x4 x5 M) ∧ ((((M 34 18) >>> (x5 &&& 31)) &&& 1) = 0 → (vp_in p1 5 ∧ (((M 39 p1.toNatClampNeg) < s0 → jn_X6_minds_121 p1 p2 p3 post B_32 x4 x5 M) ∧ (¬ (M 39 p1.toNatClampNeg) < s0 → jn_X6_minds_122 p1 p2 p3 post B_32 x4 x5 1 M))))))))
set_option maxRecDepth 100000 in
theorem wj_X6_minds_81 {X : CT} (p1 : Int32) (p2 : Int32) (p3 : Int32) (hX : okX X RX6 cX6_minds 1 24) {post : Int32 → Mem → Prop} (hret : ∀ (r : Int32) (M' : Mem), narrow .boolean (.int r) = .int r → post r M' → RetI X cX6_minds r M') {B_32 : Int32 → Int32 → Mem → Prop} (hB_32 : ∀ (x4 : Int32) (x5 : Int32) (M : Mem), B_32 x4 x5 M → Z X M 32 [some (.ref (adX X 34)), some (.int p1), some (.int p2), some (.int p3), some (.int x4), some (.int x5), none, none] []) (x4 : Int32) (x5 : Int32) (s0 : Int32) (M : Mem) (h : jn_X6_minds_81 p1 p2 p3 post B_32 x4 x5 s0 M) : Z X M 81 [some (.ref (adX X 34)), some (.int p1), some (.int p2), some (.int p3), some (.int x4), some (.int x5), none, none] [.int s0] := by
  unfold jn_X6_minds_81 at h
  refine r_istore (L' := [some (.ref (adX X 34)), some (.int p1), some (.int p2), some (.int p3), some (.int x4), some (.int x5), some (.int s0), none]) hX dX6_minds_81 (Nat.lt_of_ble rfl) rfl rfl ?_
  refine r_aload_n hX dX6_minds_83 rfl rfl ?_
  refine r_getR hX fg_X6_31 ly_34 rfl dX6_minds_84 ?_
  refine r_iload hX dX6_minds_87 rfl ?_
  refine r_iald hX ly_42 h.1 dX6_minds_89 ?_
  have h := h.2
  refine r_iload_n hX dX6_minds_90 rfl rfl ?_
  refine r_icmp_ne hX 121 dX6_minds_91 (by decide) (fun hc => ?_) (fun hc => ?_)
  · have h := h.1 hc
    refine r_sub [some (.ref (adX X 34)), some (.int p1), some (.int p2), some (.int p3), some (.int x4), some (.int x5), none, none] (And.intro rfl (And.intro rfl (And.intro rfl (And.intro rfl (And.intro rfl (And.intro rfl trivial)))))) ?_
    exact wj_X6_minds_121 p1 p2 p3 hX hret hB_32 _ _ _ h
  · have h := h.2 hc
    refine r_aload_n hX dX6_minds_94 rfl rfl ?_
    refine r_getI hX fg_X6_152 ly_34 rfl dX6_minds_95 ?_
    refine r_iload hX dX6_minds_98 rfl ?_
    refine r_ishr hX dX6_minds_100 ?_
    refine r_iconst (v := 1) hX dX6_minds_101 (by decide) ?_
    refine r_iand hX dX6_minds_102 ?_
    refine r_if_ne hX 121 dX6_minds_103 (by decide) (fun hc => ?_) (fun hc => ?_)
    · have h := h.1 hc
      refine r_sub [some (.ref (adX X 34)), some (.int p1), some (.int p2), some (.int p3), some (.int x4), some (.int x5), none, none] (And.intro rfl (And.intro rfl (And.intro rfl (And.intro rfl (And.intro rfl (And.intro rfl trivial)))))) ?_
      exact wj_X6_minds_121 p1 p2 p3 hX hret hB_32 _ _ _ h
    · have h := h.2 hc
      refine r_iload hX dX6_minds_106 rfl ?_
      refine r_aload_n hX dX6_minds_108 rfl rfl ?_
      refine r_getR hX fg_X6_22 ly_34 rfl dX6_minds_109 ?_
      refine r_iload_n hX dX6_minds_112 rfl rfl ?_
      refine r_iald hX ly_39 h.1 dX6_minds_113 ?_
      have h := h.2
      refine r_icmp_gt hX 121 dX6_minds_114 (by decide) (fun hc => ?_) (fun hc => ?_)
      · have h := h.1 hc
        refine r_sub [some (.ref (adX X 34)), some (.int p1), some (.int p2), some (.int p3), some (.int x4), some (.int x5), none, none] (And.intro rfl (And.intro rfl (And.intro rfl (And.intro rfl (And.intro rfl (And.intro rfl trivial)))))) ?_
        exact wj_X6_minds_121 p1 p2 p3 hX hret hB_32 _ _ _ h
      · have h := h.2 hc
        refine r_iconst (v := 1) hX dX6_minds_117 (by decide) ?_
        refine r_goto hX 122 dX6_minds_118 (by decide) ?_
        refine r_sub [some (.ref (adX X 34)), some (.int p1), some (.int p2), some (.int p3), some (.int x4), some (.int x5), none, none] (And.intro rfl (And.intro rfl (And.intro rfl (And.intro rfl (And.intro rfl (And.intro rfl trivial)))))) ?_
        exact wj_X6_minds_122 p1 p2 p3 hX hret hB_32 _ _ _ _ h
def lp_X6_minds_32 (p1 : Int32) (p2 : Int32) (p3 : Int32) (post : Int32 → Mem → Prop) : Nat → Int32 → Int32 → Mem → Prop
  | 0, _, _, _ => False
  | n + 1, x4, x5, M => (((M 34 10) ≤ x5 → post 0 M) ∧ (¬ (M 34 10) ≤ x5 → ((p1 = (M 34 19) → post 0 M) ∧ (¬ p1 = (M 34 19) → (vp_in x5 8 ∧ ((p1 ≤ (M 43 x5.toNatClampNeg) → (vp_in x5 8 ∧ jn_X6_minds_81 p1 p2 p3 post (fun y4 y5 M' => lp_X6_minds_32 p1 p2 p3 post n y4 y5 M') x4 x5 ((M 43 x5.toNatClampNeg) - p1) M)) ∧ (¬ p1 ≤ (M 43 x5.toNatClampNeg) → (vp_in x5 8 ∧ jn_X6_minds_81 p1 p2 p3 post (fun y4 y5 M' => lp_X6_minds_32 p1 p2 p3 post n y4 y5 M') x4 x5 (p1 - (M 43 x5.toNatClampNeg)) M))))))))
set_option maxRecDepth 100000 in
theorem wl_X6_minds_32 {X : CT} (p1 : Int32) (p2 : Int32) (p3 : Int32) (hX : okX X RX6 cX6_minds 1 24) {post : Int32 → Mem → Prop} (hret : ∀ (r : Int32) (M' : Mem), narrow .boolean (.int r) = .int r → post r M' → RetI X cX6_minds r M') : ∀ (n : Nat) (x4 : Int32) (x5 : Int32) (M : Mem), lp_X6_minds_32 p1 p2 p3 post n x4 x5 M → Z X M 32 [some (.ref (adX X 34)), some (.int p1), some (.int p2), some (.int p3), some (.int x4), some (.int x5), none, none] [] := by
  intro n
  induction n with
  | zero =>
    intro x4 x5 M h
    exact False.elim h
  | succ n ih =>
    intro x4 x5 M h
    unfold lp_X6_minds_32 at h
    refine r_iload hX dX6_minds_32 rfl ?_
    refine r_aload_n hX dX6_minds_34 rfl rfl ?_
    refine r_getI hX fg_X6_120 ly_34 rfl dX6_minds_35 ?_
    refine r_icmp_ge hX 166 dX6_minds_38 (by decide) (fun hc => ?_) (fun hc => ?_)
    · have h := h.1 hc
      refine r_iconst (v := 0) hX dX6_minds_166 (by decide) ?_
      exact r_iret (hret _ _ rfl h) dX6_minds_167
    · have h := h.2 hc
      refine r_iload_n hX dX6_minds_41 rfl rfl ?_
      refine r_aload_n hX dX6_minds_42 rfl rfl ?_
      refine r_getI hX fg_X6_46 ly_34 rfl dX6_minds_43 ?_
      refine r_icmp_eq hX 166 dX6_minds_46 (by decide) (fun hc => ?_) (fun hc => ?_)
      · have h := h.1 hc
        refine r_iconst (v := 0) hX dX6_minds_166 (by decide) ?_
        exact r_iret (hret _ _ rfl h) dX6_minds_167
      · have h := h.2 hc
        refine r_aload_n hX dX6_minds_49 rfl rfl ?_
        refine r_getR hX fg_X6_34 ly_34 rfl dX6_minds_50 ?_
        refine r_iload hX dX6_minds_53 rfl ?_
        refine r_iald hX ly_43 h.1 dX6_minds_55 ?_
        have h := h.2
        refine r_iload_n hX dX6_minds_56 rfl rfl ?_
        refine r_icmp_ge hX 72 dX6_minds_57 (by decide) (fun hc => ?_) (fun hc => ?_)
        · have h := h.1 hc
          refine r_aload_n hX dX6_minds_72 rfl rfl ?_
          refine r_getR hX fg_X6_34 ly_34 rfl dX6_minds_73 ?_
          refine r_iload hX dX6_minds_76 rfl ?_
          refine r_iald hX ly_43 h.1 dX6_minds_78 ?_
          have h := h.2
          refine r_iload_n hX dX6_minds_79 rfl rfl ?_
          refine r_isub hX dX6_minds_80 ?_
          refine r_sub [some (.ref (adX X 34)), some (.int p1), some (.int p2), some (.int p3), some (.int x4), some (.int x5), none, none] (And.intro rfl (And.intro rfl (And.intro rfl (And.intro rfl (And.intro rfl (And.intro rfl trivial)))))) ?_
          exact wj_X6_minds_81 p1 p2 p3 hX hret (fun y4 y5 M' h' => ih y4 y5 M' h') _ _ _ _ h
        · have h := h.2 hc
          refine r_iload_n hX dX6_minds_60 rfl rfl ?_
          refine r_aload_n hX dX6_minds_61 rfl rfl ?_
          refine r_getR hX fg_X6_34 ly_34 rfl dX6_minds_62 ?_
          refine r_iload hX dX6_minds_65 rfl ?_
          refine r_iald hX ly_43 h.1 dX6_minds_67 ?_
          have h := h.2
          refine r_isub hX dX6_minds_68 ?_
          refine r_goto hX 81 dX6_minds_69 (by decide) ?_
          refine r_sub [some (.ref (adX X 34)), some (.int p1), some (.int p2), some (.int p3), some (.int x4), some (.int x5), none, none] (And.intro rfl (And.intro rfl (And.intro rfl (And.intro rfl (And.intro rfl (And.intro rfl trivial)))))) ?_
          exact wj_X6_minds_81 p1 p2 p3 hX hret (fun y4 y5 M' h' => ih y4 y5 M' h') _ _ _ _ h
def jn_X6_minds_27 (p1 : Int32) (p2 : Int32) (p3 : Int32) (post : Int32 → Mem → Prop) (s0 : Int32) (M : Mem) : Prop := (∃ k, lp_X6_minds_32 p1 p2 p3 post k s0 0 M)
set_option maxRecDepth 100000 in
theorem wj_X6_minds_27 {X : CT} (p1 : Int32) (p2 : Int32) (p3 : Int32) (hX : okX X RX6 cX6_minds 1 24) {post : Int32 → Mem → Prop} (hret : ∀ (r : Int32) (M' : Mem), narrow .boolean (.int r) = .int r → post r M' → RetI X cX6_minds r M') (s0 : Int32) (M : Mem) (h : jn_X6_minds_27 p1 p2 p3 post s0 M) : Z X M 27 [some (.ref (adX X 34)), some (.int p1), some (.int p2), some (.int p3), none, none, none, none] [.int s0] := by
  unfold jn_X6_minds_27 at h
  refine r_istore (L' := [some (.ref (adX X 34)), some (.int p1), some (.int p2), some (.int p3), some (.int s0), none, none, none]) hX dX6_minds_27 (Nat.lt_of_ble rfl) rfl rfl ?_
  refine r_iconst (v := 0) hX dX6_minds_29 (by decide) ?_
  refine r_istore (L' := [some (.ref (adX X 34)), some (.int p1), some (.int p2), some (.int p3), some (.int s0), some (.int 0), none, none]) hX dX6_minds_30 (Nat.lt_of_ble rfl) rfl rfl ?_
  obtain ⟨n5, h⟩ := h
  refine r_sub [some (.ref (adX X 34)), some (.int p1), some (.int p2), some (.int p3), some (.int s0), some (.int 0), none, none] (And.intro rfl (And.intro rfl (And.intro rfl (And.intro rfl (And.intro rfl (And.intro rfl trivial)))))) ?_
  exact wl_X6_minds_32 p1 p2 p3 hX hret n5 _ _ _ h
def wp_X6_minds (p1 : Int32) (p2 : Int32) (p3 : Int32) (M : Mem) (post : Int32 → Mem → Prop) : Prop := (vp_in p1 5 ∧ ((¬ (M 38 p1.toNatClampNeg) = 2 → (vp_in p1 5 ∧ jn_X6_minds_27 p1 p2 p3 post (M 40 p1.toNatClampNeg) M)) ∧ ((M 38 p1.toNatClampNeg) = 2 → (vp_in p1 5 ∧ jn_X6_minds_27 p1 p2 p3 post (2 * (M 40 p1.toNatClampNeg)) M))))
set_option maxRecDepth 100000 in
theorem wk_X6_minds {X : CT} (p1 : Int32) (p2 : Int32) (p3 : Int32) (hX : okX X RX6 cX6_minds 1 24) {M : Mem} {post : Int32 → Mem → Prop} (hret : ∀ (r : Int32) (M' : Mem), narrow .boolean (.int r) = .int r → post r M' → RetI X cX6_minds r M') (h : wp_X6_minds p1 p2 p3 M post) : Z X M 0 [some (.ref (adX X 34)), some (.int p1), some (.int p2), some (.int p3), none, none, none, none] [] := by
  unfold wp_X6_minds at h
  refine r_aload_n hX dX6_minds_0 rfl rfl ?_
  refine r_getR hX fg_X6_19 ly_34 rfl dX6_minds_1 ?_
  refine r_iload_n hX dX6_minds_4 rfl rfl ?_
  refine r_iald hX ly_38 h.1 dX6_minds_5 ?_
  have h := h.2
  refine r_iconst (v := 2) hX dX6_minds_6 (by decide) ?_
  refine r_icmp_ne hX 21 dX6_minds_7 (by decide) (fun hc => ?_) (fun hc => ?_)
  · have h := h.1 hc
    refine r_aload_n hX dX6_minds_21 rfl rfl ?_
    refine r_getR hX fg_X6_25 ly_34 rfl dX6_minds_22 ?_
    refine r_iload_n hX dX6_minds_25 rfl rfl ?_
    refine r_iald hX ly_40 h.1 dX6_minds_26 ?_
    have h := h.2
    refine r_sub [some (.ref (adX X 34)), some (.int p1), some (.int p2), some (.int p3), none, none, none, none] (And.intro rfl (And.intro rfl (And.intro rfl (And.intro rfl trivial)))) ?_
    exact wj_X6_minds_27 p1 p2 p3 hX hret _ _ h
  · have h := h.2 hc
    refine r_iconst (v := 2) hX dX6_minds_10 (by decide) ?_
    refine r_aload_n hX dX6_minds_11 rfl rfl ?_
    refine r_getR hX fg_X6_25 ly_34 rfl dX6_minds_12 ?_
    refine r_iload_n hX dX6_minds_15 rfl rfl ?_
    refine r_iald hX ly_40 h.1 dX6_minds_16 ?_
    have h := h.2
    refine r_imul hX dX6_minds_17 ?_
    refine r_goto hX 27 dX6_minds_18 (by decide) ?_
    refine r_sub [some (.ref (adX X 34)), some (.int p1), some (.int p2), some (.int p3), none, none, none, none] (And.intro rfl (And.intro rfl (And.intro rfl (And.intro rfl trivial)))) ?_
    exact wj_X6_minds_27 p1 p2 p3 hX hret _ _ h
set_option maxRecDepth 100000 in
theorem c_X6_minds {l : Launch} {D : va_G} {cs : CS3} {ad : Nat → Nat} (p1 : Int32) (p2 : Int32) (p3 : Int32) {M : Mem} {post : Int32 → Mem → Prop} (h : wp_X6_minds p1 p2 p3 M post) : CtI l D cs ad yX6_minds cX6_minds 8 (some .boolean) 1 24 [.ref (ad 34), .int p1, .int p2, .int p3] M post := met_I (k := 4) (fun ad => [.ref (ad 34), .int p1, .int p2, .int p3]) (fun ad => [some (.ref (ad 34)), some (.int p1), some (.int p2), some (.int p3), none, none, none, none]) (by decide +kernel) (fun _ => Nat.le_of_ble_eq_true rfl) (fun _ => rfl) (fun _ => rfl) (fun X hX hret => wk_X6_minds p1 p2 p3 hX hret h)
def lp_X6_doesBear_39 (p1 : Int32) (p2 : Int32) (p3 : Int32) (post : Int32 → Mem → Prop) : Nat → Int32 → Mem → Prop
  | 0, _, _ => False
  | n + 1, x4, M => (((M 34 6) ≤ x4 → post 1 M) ∧ (¬ (M 34 6) ≤ x4 → (vp_in x4 5 ∧ ((¬ (M 38 x4.toNatClampNeg) = 1 → lp_X6_doesBear_39 p1 p2 p3 post n (x4 + 1) M) ∧ ((M 38 x4.toNatClampNeg) = 1 → (wp_X6_minds x4 p2 p3 M (fun r1 M2 => ((r1 = 0 → lp_X6_doesBear_39 p1 p2 p3 post n (x4 + 1) M2) ∧ (¬ r1 = 0 → post 0 M2)))))))))
set_option maxRecDepth 100000 in
theorem wl_X6_doesBear_39 {X : CT} (p1 : Int32) (p2 : Int32) (p3 : Int32) (hX : okX X RX6 cX6_doesBear 2 51) {post : Int32 → Mem → Prop} (hret : ∀ (r : Int32) (M' : Mem), narrow .boolean (.int r) = .int r → post r M' → RetI X cX6_doesBear r M') : ∀ (n : Nat) (x4 : Int32) (M : Mem), lp_X6_doesBear_39 p1 p2 p3 post n x4 M → Z X M 39 [some (.ref (adX X 34)), none, some (.int p2), some (.int p3), some (.int x4)] [] := by
  intro n
  induction n with
  | zero =>
    intro x4 M h
    exact False.elim h
  | succ n ih =>
    intro x4 M h
    unfold lp_X6_doesBear_39 at h
    refine r_iload hX dX6_doesBear_39 rfl ?_
    refine r_aload_n hX dX6_doesBear_41 rfl rfl ?_
    refine r_getI hX fg_X6_90 ly_34 rfl dX6_doesBear_42 ?_
    refine r_icmp_ge hX 78 dX6_doesBear_45 (by decide) (fun hc => ?_) (fun hc => ?_)
    · have h := h.1 hc
      refine r_iconst (v := 1) hX dX6_doesBear_78 (by decide) ?_
      exact r_iret (hret _ _ rfl h) dX6_doesBear_79
    · have h := h.2 hc
      refine r_aload_n hX dX6_doesBear_48 rfl rfl ?_
      refine r_getR hX fg_X6_19 ly_34 rfl dX6_doesBear_49 ?_
      refine r_iload hX dX6_doesBear_52 rfl ?_
      refine r_iald hX ly_38 h.1 dX6_doesBear_54 ?_
      have h := h.2
      refine r_iconst (v := 1) hX dX6_doesBear_55 (by decide) ?_
      refine r_icmp_ne hX 72 dX6_doesBear_56 (by decide) (fun hc => ?_) (fun hc => ?_)
      · have h := h.1 hc
        refine r_iinc (v := x4 + 1) (L' := [some (.ref (adX X 34)), none, some (.int p2), some (.int p3), some (.int (x4 + 1))]) hX dX6_doesBear_72 rfl rfl rfl rfl ?_
        refine r_goto hX 39 dX6_doesBear_75 (by decide) ?_
        refine r_sub [some (.ref (adX X 34)), none, some (.int p2), some (.int p3), some (.int (x4 + 1))] (And.intro rfl (And.intro rfl (And.intro rfl (And.intro rfl trivial)))) ?_
        exact ih _ _ h
      · have h := h.2 hc
        refine r_aload_n hX dX6_doesBear_59 rfl rfl ?_
        refine r_iload hX dX6_doesBear_60 rfl ?_
        refine r_iload_n hX dX6_doesBear_62 rfl rfl ?_
        refine r_iload_n hX dX6_doesBear_63 rfl rfl ?_
        refine r_cVi3 hX fv_X6_158 ly_34 rfl ⟨Nat.le_of_ble_eq_true rfl, Nat.le_of_ble_eq_true rfl⟩ (c_X6_minds x4 p2 p3 h) (Nat.le_of_ble_eq_true rfl) dX6_doesBear_64 (fun r1 M2 h => ?_)
        refine r_if_eq hX 72 dX6_doesBear_67 (by decide) (fun hc => ?_) (fun hc => ?_)
        · have h := h.1 hc
          refine r_iinc (v := x4 + 1) (L' := [some (.ref (adX X 34)), none, some (.int p2), some (.int p3), some (.int (x4 + 1))]) hX dX6_doesBear_72 rfl rfl rfl rfl ?_
          refine r_goto hX 39 dX6_doesBear_75 (by decide) ?_
          refine r_sub [some (.ref (adX X 34)), none, some (.int p2), some (.int p3), some (.int (x4 + 1))] (And.intro rfl (And.intro rfl (And.intro rfl (And.intro rfl trivial)))) ?_
          exact ih _ _ h
        · have h := h.2 hc
          refine r_iconst (v := 0) hX dX6_doesBear_70 (by decide) ?_
          exact r_iret (hret _ _ rfl h) dX6_doesBear_71
def wp_X6_doesBear (p1 : Int32) (p2 : Int32) (p3 : Int32) (M : Mem) (post : Int32 → Mem → Prop) : Prop := ((¬ p1 = (M 34 19) → (vp_in p1 5 ∧ (((M 38 p1.toNatClampNeg) = 1 → (∃ k, lp_X6_doesBear_39 p1 p2 p3 post k 0 M)) ∧ (¬ (M 38 p1.toNatClampNeg) = 1 → (wp_X6_minds p1 p2 p3 M (fun r4 M5 => ((¬ r4 = 0 → post 0 M5) ∧ (r4 = 0 → post 1 M5)))))))) ∧ (p1 = (M 34 19) → post 1 M))
set_option maxRecDepth 100000 in
theorem wk_X6_doesBear {X : CT} (p1 : Int32) (p2 : Int32) (p3 : Int32) (hX : okX X RX6 cX6_doesBear 2 51) {M : Mem} {post : Int32 → Mem → Prop} (hret : ∀ (r : Int32) (M' : Mem), narrow .boolean (.int r) = .int r → post r M' → RetI X cX6_doesBear r M') (h : wp_X6_doesBear p1 p2 p3 M post) : Z X M 0 [some (.ref (adX X 34)), some (.int p1), some (.int p2), some (.int p3), none] [] := by
  unfold wp_X6_doesBear at h
  refine r_iload_n hX dX6_doesBear_0 rfl rfl ?_
  refine r_aload_n hX dX6_doesBear_1 rfl rfl ?_
  refine r_getI hX fg_X6_46 ly_34 rfl dX6_doesBear_2 ?_
  refine r_icmp_ne hX 10 dX6_doesBear_5 (by decide) (fun hc => ?_) (fun hc => ?_)
  · have h := h.1 hc
    refine r_aload_n hX dX6_doesBear_10 rfl rfl ?_
    refine r_getR hX fg_X6_19 ly_34 rfl dX6_doesBear_11 ?_
    refine r_iload_n hX dX6_doesBear_14 rfl rfl ?_
    refine r_iald hX ly_38 h.1 dX6_doesBear_15 ?_
    have h := h.2
    refine r_iconst (v := 1) hX dX6_doesBear_16 (by decide) ?_
    refine r_icmp_eq hX 36 dX6_doesBear_17 (by decide) (fun hc => ?_) (fun hc => ?_)
    · have h := h.1 hc
      refine r_iconst (v := 0) hX dX6_doesBear_36 (by decide) ?_
      refine r_istore (L' := [some (.ref (adX X 34)), some (.int p1), some (.int p2), some (.int p3), some (.int 0)]) hX dX6_doesBear_37 (Nat.lt_of_ble rfl) rfl rfl ?_
      obtain ⟨n3, h⟩ := h
      refine r_sub [some (.ref (adX X 34)), none, some (.int p2), some (.int p3), some (.int 0)] (And.intro rfl (And.intro rfl (And.intro rfl (And.intro rfl trivial)))) ?_
      exact wl_X6_doesBear_39 p1 p2 p3 hX hret n3 _ _ h
    · have h := h.2 hc
      refine r_aload_n hX dX6_doesBear_20 rfl rfl ?_
      refine r_iload_n hX dX6_doesBear_21 rfl rfl ?_
      refine r_iload_n hX dX6_doesBear_22 rfl rfl ?_
      refine r_iload_n hX dX6_doesBear_23 rfl rfl ?_
      refine r_cVi3 hX fv_X6_158 ly_34 rfl ⟨Nat.le_of_ble_eq_true rfl, Nat.le_of_ble_eq_true rfl⟩ (c_X6_minds p1 p2 p3 h) (Nat.le_of_ble_eq_true rfl) dX6_doesBear_24 (fun r4 M5 h => ?_)
      refine r_if_ne hX 34 dX6_doesBear_27 (by decide) (fun hc => ?_) (fun hc => ?_)
      · have h := h.1 hc
        refine r_iconst (v := 0) hX dX6_doesBear_34 (by decide) ?_
        exact r_iret (hret _ _ rfl h) dX6_doesBear_35
      · have h := h.2 hc
        refine r_iconst (v := 1) hX dX6_doesBear_30 (by decide) ?_
        refine r_goto hX 35 dX6_doesBear_31 (by decide) ?_
        exact r_iret (hret _ _ rfl h) dX6_doesBear_35
  · have h := h.2 hc
    refine r_iconst (v := 1) hX dX6_doesBear_8 (by decide) ?_
    exact r_iret (hret _ _ rfl h) dX6_doesBear_9
set_option maxRecDepth 100000 in
theorem c_X6_doesBear {l : Launch} {D : va_G} {cs : CS3} {ad : Nat → Nat} (p1 : Int32) (p2 : Int32) (p3 : Int32) {M : Mem} {post : Int32 → Mem → Prop} (h : wp_X6_doesBear p1 p2 p3 M post) : CtI l D cs ad yX6_doesBear cX6_doesBear 5 (some .boolean) 2 51 [.ref (ad 34), .int p1, .int p2, .int p3] M post := met_I (k := 1) (fun ad => [.ref (ad 34), .int p1, .int p2, .int p3]) (fun ad => [some (.ref (ad 34)), some (.int p1), some (.int p2), some (.int p3), none]) (by decide +kernel) (fun _ => Nat.le_of_ble_eq_true rfl) (fun _ => rfl) (fun _ => rfl) (fun X hX hret => wk_X6_doesBear p1 p2 p3 hX hret h)
def wp_X6_bears (p1 : Int32) (p2 : Int32) (p3 : Int32) (M : Mem) (post : Int32 → Mem → Prop) : Prop := (wp_X6_isChair p1 M (fun r1 M2 => ((r1 = 0 → post (-1) M2) ∧ (¬ r1 = 0 → (wp_X6_isGuest p2 M2 (fun r3 M4 => ((¬ r3 = 0 → (wp_X6_isDinner p3 M4 (fun r5 M6 => ((¬ r5 = 0 → (wp_X6_doesBear p1 p2 p3 M6 (fun r7 M8 => ((r7 = 0 → post 0 M8) ∧ (¬ r7 = 0 → post 1 M8))))) ∧ (r5 = 0 → post (-2) M6))))) ∧ (r3 = 0 → post (-1) M4))))))))
set_option maxRecDepth 100000 in
theorem wk_X6_bears {X : CT} (p1 : Int32) (p2 : Int32) (p3 : Int32) (hX : okX X RX6 cX6_bears 3 75) {M : Mem} {post : Int32 → Mem → Prop} (hret : ∀ (r : Int32) (M' : Mem), narrow .int (.int r) = .int r → post r M' → RetI X cX6_bears r M') (h : wp_X6_bears p1 p2 p3 M post) : Z X M 0 [some (.ref (adX X 34)), some (.int p1), some (.int p2), some (.int p3)] [] := by
  unfold wp_X6_bears at h
  refine r_aload_n hX dX6_bears_0 rfl rfl ?_
  refine r_iload_n hX dX6_bears_1 rfl rfl ?_
  refine r_cVi1 hX fv_X6_140 ly_34 rfl ⟨Nat.le_of_ble_eq_true rfl, Nat.le_of_ble_eq_true rfl⟩ (c_X6_isChair p1 h) (Nat.le_of_ble_eq_true rfl) dX6_bears_2 (fun r1 M2 h => ?_)
  refine r_if_eq hX 16 dX6_bears_5 (by decide) (fun hc => ?_) (fun hc => ?_)
  · have h := h.1 hc
    refine r_iconst (v := (-1)) hX dX6_bears_16 (by decide) ?_
    exact r_iret (hret _ _ rfl h) dX6_bears_17
  · have h := h.2 hc
    refine r_aload_n hX dX6_bears_8 rfl rfl ?_
    refine r_iload_n hX dX6_bears_9 rfl rfl ?_
    refine r_cVi1 hX fv_X6_143 ly_34 rfl ⟨Nat.le_of_ble_eq_true rfl, Nat.le_of_ble_eq_true rfl⟩ (c_X6_isGuest p2 h) (Nat.le_of_ble_eq_true rfl) dX6_bears_10 (fun r3 M4 h => ?_)
    refine r_if_ne hX 18 dX6_bears_13 (by decide) (fun hc => ?_) (fun hc => ?_)
    · have h := h.1 hc
      refine r_iload_n hX dX6_bears_18 rfl rfl ?_
      refine r_cSi1 hX fs_X6_146 ⟨Nat.le_of_ble_eq_true rfl, Nat.le_of_ble_eq_true rfl⟩ (c_X6_isDinner p3 h) (Nat.le_of_ble_eq_true rfl) dX6_bears_19 (fun r5 M6 h => ?_)
      refine r_if_ne hX 28 dX6_bears_22 (by decide) (fun hc => ?_) (fun hc => ?_)
      · have h := h.1 hc
        refine r_aload_n hX dX6_bears_28 rfl rfl ?_
        refine r_iload_n hX dX6_bears_29 rfl rfl ?_
        refine r_iload_n hX dX6_bears_30 rfl rfl ?_
        refine r_iload_n hX dX6_bears_31 rfl rfl ?_
        refine r_cVi3 hX fv_X6_161 ly_34 rfl ⟨Nat.le_of_ble_eq_true rfl, Nat.le_of_ble_eq_true rfl⟩ (c_X6_doesBear p1 p2 p3 h) (Nat.le_of_ble_eq_true rfl) dX6_bears_32 (fun r7 M8 h => ?_)
        refine r_if_eq hX 42 dX6_bears_35 (by decide) (fun hc => ?_) (fun hc => ?_)
        · have h := h.1 hc
          refine r_iconst (v := 0) hX dX6_bears_42 (by decide) ?_
          exact r_iret (hret _ _ rfl h) dX6_bears_43
        · have h := h.2 hc
          refine r_iconst (v := 1) hX dX6_bears_38 (by decide) ?_
          refine r_goto hX 43 dX6_bears_39 (by decide) ?_
          exact r_iret (hret _ _ rfl h) dX6_bears_43
      · have h := h.2 hc
        refine r_bipush (v := (-2)) hX dX6_bears_25 (by decide) ?_
        exact r_iret (hret _ _ rfl h) dX6_bears_27
    · have h := h.2 hc
      refine r_iconst (v := (-1)) hX dX6_bears_16 (by decide) ?_
      exact r_iret (hret _ _ rfl h) dX6_bears_17
set_option maxRecDepth 100000 in
theorem c_X6_bears {l : Launch} {D : va_G} {cs : CS3} {ad : Nat → Nat} (p1 : Int32) (p2 : Int32) (p3 : Int32) {M : Mem} {post : Int32 → Mem → Prop} (h : wp_X6_bears p1 p2 p3 M post) : CtI l D cs ad yX6_bears cX6_bears 4 (some .int) 3 75 [.ref (ad 34), .int p1, .int p2, .int p3] M post := met_I (k := 0) (fun ad => [.ref (ad 34), .int p1, .int p2, .int p3]) (fun ad => [some (.ref (ad 34)), some (.int p1), some (.int p2), some (.int p3)]) (by decide +kernel) (fun _ => Nat.le_of_ble_eq_true rfl) (fun _ => rfl) (fun _ => rfl) (fun X hX hret => wk_X6_bears p1 p2 p3 hX hret h)
def lp_X6_whom_25 (p1 : Int32) (p2 : Int32) (post : Int32 → Mem → Prop) : Nat → Int32 → Int32 → Mem → Prop
  | 0, _, _, _ => False
  | n + 1, x3, x4, M => (((M 34 5) ≤ x4 → post x3 M) ∧ (¬ (M 34 5) ≤ x4 → (wp_X6_doesBear p1 x4 p2 M (fun r5 M6 => ((r5 = 0 → (∀ v7 : Int32, v7 = x3 ||| 0 → lp_X6_whom_25 p1 p2 post n v7 (x4 + 1) M6)) ∧ (¬ r5 = 0 → (∀ v8 : Int32, v8 = x3 ||| (1 <<< (x4 &&& 31)) → lp_X6_whom_25 p1 p2 post n v8 (x4 + 1) M6)))))))
set_option maxRecDepth 100000 in
theorem wl_X6_whom_25 {X : CT} (p1 : Int32) (p2 : Int32) (hX : okX X RX6 cX6_whom 3 75) {post : Int32 → Mem → Prop} (hret : ∀ (r : Int32) (M' : Mem), narrow .int (.int r) = .int r → post r M' → RetI X cX6_whom r M') : ∀ (n : Nat) (x3 : Int32) (x4 : Int32) (M : Mem), lp_X6_whom_25 p1 p2 post n x3 x4 M → Z X M 25 [some (.ref (adX X 34)), some (.int p1), some (.int p2), some (.int x3), some (.int x4)] [] := by
  intro n
  induction n with
  | zero =>
    intro x3 x4 M h
    exact False.elim h
  | succ n ih =>
    intro x3 x4 M h
    unfold lp_X6_whom_25 at h
    refine r_iload hX dX6_whom_25 rfl ?_
    refine r_aload_n hX dX6_whom_27 rfl rfl ?_
    refine r_getI hX fg_X6_87 ly_34 rfl dX6_whom_28 ?_
    refine r_icmp_ge hX 62 dX6_whom_31 (by decide) (fun hc => ?_) (fun hc => ?_)
    · have h := h.1 hc
      refine r_iload_n hX dX6_whom_62 rfl rfl ?_
      exact r_iret (hret _ _ rfl h) dX6_whom_63
    · have h := h.2 hc
      refine r_iload_n hX dX6_whom_34 rfl rfl ?_
      refine r_aload_n hX dX6_whom_35 rfl rfl ?_
      refine r_iload_n hX dX6_whom_36 rfl rfl ?_
      refine r_iload hX dX6_whom_37 rfl ?_
      refine r_iload_n hX dX6_whom_39 rfl rfl ?_
      refine r_cVi3 hX fv_X6_161 ly_34 rfl ⟨Nat.le_of_ble_eq_true rfl, Nat.le_of_ble_eq_true rfl⟩ (c_X6_doesBear p1 x4 p2 h) (Nat.le_of_ble_eq_true rfl) dX6_whom_40 (fun r5 M6 h => ?_)
      refine r_if_eq hX 53 dX6_whom_43 (by decide) (fun hc => ?_) (fun hc => ?_)
      · have h := h.1 hc
        refine r_iconst (v := 0) hX dX6_whom_53 (by decide) ?_
        refine r_ior hX dX6_whom_54 ?_
        refine r_nm (fun v7 ev7 => ?_)
        have h := h v7 ev7
        refine r_istore_n (L' := [some (.ref (adX X 34)), some (.int p1), some (.int p2), some (.int v7), some (.int x4)]) hX dX6_whom_55 rfl (Nat.lt_of_ble rfl) rfl rfl ?_
        refine r_iinc (v := x4 + 1) (L' := [some (.ref (adX X 34)), some (.int p1), some (.int p2), some (.int v7), some (.int (x4 + 1))]) hX dX6_whom_56 rfl rfl rfl rfl ?_
        refine r_goto hX 25 dX6_whom_59 (by decide) ?_
        refine r_sub [some (.ref (adX X 34)), some (.int p1), some (.int p2), some (.int v7), some (.int (x4 + 1))] (And.intro rfl (And.intro rfl (And.intro rfl (And.intro rfl (And.intro rfl trivial))))) ?_
        exact ih _ _ _ h
      · have h := h.2 hc
        refine r_iconst (v := 1) hX dX6_whom_46 (by decide) ?_
        refine r_iload hX dX6_whom_47 rfl ?_
        refine r_ishl hX dX6_whom_49 ?_
        refine r_goto hX 54 dX6_whom_50 (by decide) ?_
        refine r_ior hX dX6_whom_54 ?_
        refine r_nm (fun v8 ev8 => ?_)
        have h := h v8 ev8
        refine r_istore_n (L' := [some (.ref (adX X 34)), some (.int p1), some (.int p2), some (.int v8), some (.int x4)]) hX dX6_whom_55 rfl (Nat.lt_of_ble rfl) rfl rfl ?_
        refine r_iinc (v := x4 + 1) (L' := [some (.ref (adX X 34)), some (.int p1), some (.int p2), some (.int v8), some (.int (x4 + 1))]) hX dX6_whom_56 rfl rfl rfl rfl ?_
        refine r_goto hX 25 dX6_whom_59 (by decide) ?_
        refine r_sub [some (.ref (adX X 34)), some (.int p1), some (.int p2), some (.int v8), some (.int (x4 + 1))] (And.intro rfl (And.intro rfl (And.intro rfl (And.intro rfl (And.intro rfl trivial))))) ?_
        exact ih _ _ _ h
def wp_X6_whom (p1 : Int32) (p2 : Int32) (M : Mem) (post : Int32 → Mem → Prop) : Prop := (wp_X6_isChair p1 M (fun r1 M2 => ((¬ r1 = 0 → (wp_X6_isDinner p2 M2 (fun r3 M4 => ((¬ r3 = 0 → (∃ k, lp_X6_whom_25 p1 p2 post k 0 0 M4)) ∧ (r3 = 0 → post (-2) M4))))) ∧ (r1 = 0 → post (-1) M2))))
set_option maxRecDepth 100000 in
theorem wk_X6_whom {X : CT} (p1 : Int32) (p2 : Int32) (hX : okX X RX6 cX6_whom 3 75) {M : Mem} {post : Int32 → Mem → Prop} (hret : ∀ (r : Int32) (M' : Mem), narrow .int (.int r) = .int r → post r M' → RetI X cX6_whom r M') (h : wp_X6_whom p1 p2 M post) : Z X M 0 [some (.ref (adX X 34)), some (.int p1), some (.int p2), none, none] [] := by
  unfold wp_X6_whom at h
  refine r_aload_n hX dX6_whom_0 rfl rfl ?_
  refine r_iload_n hX dX6_whom_1 rfl rfl ?_
  refine r_cVi1 hX fv_X6_140 ly_34 rfl ⟨Nat.le_of_ble_eq_true rfl, Nat.le_of_ble_eq_true rfl⟩ (c_X6_isChair p1 h) (Nat.le_of_ble_eq_true rfl) dX6_whom_2 (fun r1 M2 h => ?_)
  refine r_if_ne hX 10 dX6_whom_5 (by decide) (fun hc => ?_) (fun hc => ?_)
  · have h := h.1 hc
    refine r_iload_n hX dX6_whom_10 rfl rfl ?_
    refine r_cSi1 hX fs_X6_146 ⟨Nat.le_of_ble_eq_true rfl, Nat.le_of_ble_eq_true rfl⟩ (c_X6_isDinner p2 h) (Nat.le_of_ble_eq_true rfl) dX6_whom_11 (fun r3 M4 h => ?_)
    refine r_if_ne hX 20 dX6_whom_14 (by decide) (fun hc => ?_) (fun hc => ?_)
    · have h := h.1 hc
      refine r_iconst (v := 0) hX dX6_whom_20 (by decide) ?_
      refine r_istore_n (L' := [some (.ref (adX X 34)), some (.int p1), some (.int p2), some (.int 0), none]) hX dX6_whom_21 rfl (Nat.lt_of_ble rfl) rfl rfl ?_
      refine r_iconst (v := 0) hX dX6_whom_22 (by decide) ?_
      refine r_istore (L' := [some (.ref (adX X 34)), some (.int p1), some (.int p2), some (.int 0), some (.int 0)]) hX dX6_whom_23 (Nat.lt_of_ble rfl) rfl rfl ?_
      obtain ⟨n9, h⟩ := h
      refine r_sub [some (.ref (adX X 34)), some (.int p1), some (.int p2), some (.int 0), some (.int 0)] (And.intro rfl (And.intro rfl (And.intro rfl (And.intro rfl (And.intro rfl trivial))))) ?_
      exact wl_X6_whom_25 p1 p2 hX hret n9 _ _ _ h
    · have h := h.2 hc
      refine r_bipush (v := (-2)) hX dX6_whom_17 (by decide) ?_
      exact r_iret (hret _ _ rfl h) dX6_whom_19
  · have h := h.2 hc
    refine r_iconst (v := (-1)) hX dX6_whom_8 (by decide) ?_
    exact r_iret (hret _ _ rfl h) dX6_whom_9
set_option maxRecDepth 100000 in
theorem c_X6_whom {l : Launch} {D : va_G} {cs : CS3} {ad : Nat → Nat} (p1 : Int32) (p2 : Int32) {M : Mem} {post : Int32 → Mem → Prop} (h : wp_X6_whom p1 p2 M post) : CtI l D cs ad yX6_whom cX6_whom 5 (some .int) 3 75 [.ref (ad 34), .int p1, .int p2] M post := met_I (k := 2) (fun ad => [.ref (ad 34), .int p1, .int p2]) (fun ad => [some (.ref (ad 34)), some (.int p1), some (.int p2), none, none]) (by decide +kernel) (fun _ => Nat.le_of_ble_eq_true rfl) (fun _ => rfl) (fun _ => rfl) (fun X hX hret => wk_X6_whom p1 p2 hX hret h)
def jn_X6_layDinner_51 (p1 : Int32) (post : Mem → Prop) (B_2 : Int32 → Mem → Prop) (B_19 : Int32 → Int32 → Mem → Prop) (x2 : Int32) (x3 : Int32) (s0 : Int32) (s1 : Int32) (s2 : Int32) (M : Mem) : Prop := (vp_in s2 5 ∧ ∀ M4 : Mem, M4 = up2 M 48 s2.toNatClampNeg (s1 ||| s0) → B_19 x2 (x3 + 1) M4)
set_option maxRecDepth 100000 in
theorem wj_X6_layDinner_51 {X : CT} (p1 : Int32) (hX : okX X RX6 cX6_layDinner 3 75) {post : Mem → Prop} (hret : ∀ (M' : Mem), post M' → RetV X cX6_layDinner M') {B_2 : Int32 → Mem → Prop} {B_19 : Int32 → Int32 → Mem → Prop} (hB_2 : ∀ (x2 : Int32) (M : Mem), B_2 x2 M → Z X M 2 [some (.ref (adX X 34)), some (.int p1), some (.int x2), none] []) (hB_19 : ∀ (x2 : Int32) (x3 : Int32) (M : Mem), B_19 x2 x3 M → Z X M 19 [some (.ref (adX X 34)), some (.int p1), some (.int x2), some (.int x3)] []) (x2 : Int32) (x3 : Int32) (s0 : Int32) (s1 : Int32) (s2 : Int32) (M : Mem) (h : jn_X6_layDinner_51 p1 post B_2 B_19 x2 x3 s0 s1 s2 M) : Z X M 51 [some (.ref (adX X 34)), some (.int p1), some (.int x2), some (.int x3)] [.int s0, .int s1, .int s2, .ref (adX X 48)] := by
  unfold jn_X6_layDinner_51 at h
  refine r_ior hX dX6_layDinner_51 ?_
  refine r_iast hX ly_48 h.1 dX6_layDinner_52 ?_
  refine r_nmM (fun M4 eM4 => ?_)
  have h := h.2 M4 eM4
  refine r_iinc (v := x3 + 1) (L' := [some (.ref (adX X 34)), some (.int p1), some (.int x2), some (.int (x3 + 1))]) hX dX6_layDinner_53 rfl rfl rfl rfl ?_
  refine r_goto hX 19 dX6_layDinner_56 (by decide) ?_
  refine r_sub [some (.ref (adX X 34)), some (.int p1), some (.int x2), some (.int (x3 + 1))] (And.intro rfl (And.intro rfl (And.intro rfl (And.intro rfl trivial)))) ?_
  exact hB_19 _ _ _ h
def lp_X6_layDinner_19 (p1 : Int32) (post : Mem → Prop) (B_2 : Int32 → Mem → Prop) : Nat → Int32 → Int32 → Mem → Prop
  | 0, _, _, _ => False
  | n + 1, x2, x3, M => (((M 34 6) ≤ x3 → B_2 (x2 + 1) M) ∧ (¬ (M 34 6) ≤ x3 → (vp_in x2 5 ∧ (wp_X6_doesBear x3 x2 p1 M (fun r2 M3 => ((r2 = 0 → jn_X6_layDinner_51 p1 post B_2 (fun y2 y3 M' => lp_X6_layDinner_19 p1 post B_2 n y2 y3 M') x2 x3 0 (M 48 x2.toNatClampNeg) x2 M3) ∧ (¬ r2 = 0 → jn_X6_layDinner_51 p1 post B_2 (fun y2 y3 M' => lp_X6_layDinner_19 p1 post B_2 n y2 y3 M') x2 x3 (1 <<< (x3 &&& 31)) (M 48 x2.toNatClampNeg) x2 M3)))))))
set_option maxRecDepth 100000 in
theorem wl_X6_layDinner_19 {X : CT} (p1 : Int32) (hX : okX X RX6 cX6_layDinner 3 75) {post : Mem → Prop} (hret : ∀ (M' : Mem), post M' → RetV X cX6_layDinner M') {B_2 : Int32 → Mem → Prop} (hB_2 : ∀ (x2 : Int32) (M : Mem), B_2 x2 M → Z X M 2 [some (.ref (adX X 34)), some (.int p1), some (.int x2), none] []) : ∀ (n : Nat) (x2 : Int32) (x3 : Int32) (M : Mem), lp_X6_layDinner_19 p1 post B_2 n x2 x3 M → Z X M 19 [some (.ref (adX X 34)), some (.int p1), some (.int x2), some (.int x3)] [] := by
  intro n
  induction n with
  | zero =>
    intro x2 x3 M h
    exact False.elim h
  | succ n ih =>
    intro x2 x3 M h
    unfold lp_X6_layDinner_19 at h
    refine r_iload_n hX dX6_layDinner_19 rfl rfl ?_
    refine r_aload_n hX dX6_layDinner_20 rfl rfl ?_
    refine r_getI hX fg_X6_90 ly_34 rfl dX6_layDinner_21 ?_
    refine r_icmp_ge hX 59 dX6_layDinner_24 (by decide) (fun hc => ?_) (fun hc => ?_)
    · have h := h.1 hc
      refine r_iinc (v := x2 + 1) (L' := [some (.ref (adX X 34)), some (.int p1), some (.int (x2 + 1)), some (.int x3)]) hX dX6_layDinner_59 rfl rfl rfl rfl ?_
      refine r_goto hX 2 dX6_layDinner_62 (by decide) ?_
      refine r_sub [some (.ref (adX X 34)), some (.int p1), some (.int (x2 + 1)), none] (And.intro rfl (And.intro rfl (And.intro rfl trivial))) ?_
      exact hB_2 _ _ h
    · have h := h.2 hc
      refine r_aload_n hX dX6_layDinner_27 rfl rfl ?_
      refine r_getR hX fg_X6_53 ly_34 rfl dX6_layDinner_28 ?_
      refine r_iload_n hX dX6_layDinner_31 rfl rfl ?_
      refine r_dup2 hX dX6_layDinner_32 rfl rfl ?_
      refine r_iald hX ly_48 h.1 dX6_layDinner_33 ?_
      have h := h.2
      refine r_aload_n hX dX6_layDinner_34 rfl rfl ?_
      refine r_iload_n hX dX6_layDinner_35 rfl rfl ?_
      refine r_iload_n hX dX6_layDinner_36 rfl rfl ?_
      refine r_iload_n hX dX6_layDinner_37 rfl rfl ?_
      refine r_cVi3 hX fv_X6_161 ly_34 rfl ⟨Nat.le_of_ble_eq_true rfl, Nat.le_of_ble_eq_true rfl⟩ (c_X6_doesBear x3 x2 p1 h) (Nat.le_of_ble_eq_true rfl) dX6_layDinner_38 (fun r2 M3 h => ?_)
      refine r_if_eq hX 50 dX6_layDinner_41 (by decide) (fun hc => ?_) (fun hc => ?_)
      · have h := h.1 hc
        refine r_iconst (v := 0) hX dX6_layDinner_50 (by decide) ?_
        refine r_sub [some (.ref (adX X 34)), some (.int p1), some (.int x2), some (.int x3)] (And.intro rfl (And.intro rfl (And.intro rfl (And.intro rfl trivial)))) ?_
        exact wj_X6_layDinner_51 p1 hX hret hB_2 (fun y2 y3 M' h' => ih y2 y3 M' h') _ _ _ _ _ _ h
      · have h := h.2 hc
        refine r_iconst (v := 1) hX dX6_layDinner_44 (by decide) ?_
        refine r_iload_n hX dX6_layDinner_45 rfl rfl ?_
        refine r_ishl hX dX6_layDinner_46 ?_
        refine r_goto hX 51 dX6_layDinner_47 (by decide) ?_
        refine r_sub [some (.ref (adX X 34)), some (.int p1), some (.int x2), some (.int x3)] (And.intro rfl (And.intro rfl (And.intro rfl (And.intro rfl trivial)))) ?_
        exact wj_X6_layDinner_51 p1 hX hret hB_2 (fun y2 y3 M' h' => ih y2 y3 M' h') _ _ _ _ _ _ h
def lp_X6_layDinner_2 (p1 : Int32) (post : Mem → Prop) : Nat → Int32 → Mem → Prop
  | 0, _, _ => False
  | n + 1, x2, M => (((M 34 5) ≤ x2 → post M) ∧ (¬ (M 34 5) ≤ x2 → (vp_in x2 5 ∧ ∀ M1 : Mem, M1 = up2 M 48 x2.toNatClampNeg 0 → (∃ k, lp_X6_layDinner_19 p1 post (fun y2 M' => lp_X6_layDinner_2 p1 post n y2 M') k x2 0 M1))))
set_option maxRecDepth 100000 in
theorem wl_X6_layDinner_2 {X : CT} (p1 : Int32) (hX : okX X RX6 cX6_layDinner 3 75) {post : Mem → Prop} (hret : ∀ (M' : Mem), post M' → RetV X cX6_layDinner M') : ∀ (n : Nat) (x2 : Int32) (M : Mem), lp_X6_layDinner_2 p1 post n x2 M → Z X M 2 [some (.ref (adX X 34)), some (.int p1), some (.int x2), none] [] := by
  intro n
  induction n with
  | zero =>
    intro x2 M h
    exact False.elim h
  | succ n ih =>
    intro x2 M h
    unfold lp_X6_layDinner_2 at h
    refine r_iload_n hX dX6_layDinner_2 rfl rfl ?_
    refine r_aload_n hX dX6_layDinner_3 rfl rfl ?_
    refine r_getI hX fg_X6_87 ly_34 rfl dX6_layDinner_4 ?_
    refine r_icmp_ge hX 65 dX6_layDinner_7 (by decide) (fun hc => ?_) (fun hc => ?_)
    · have h := h.1 hc
      exact r_vret (hret _ h) dX6_layDinner_65
    · have h := h.2 hc
      refine r_aload_n hX dX6_layDinner_10 rfl rfl ?_
      refine r_getR hX fg_X6_53 ly_34 rfl dX6_layDinner_11 ?_
      refine r_iload_n hX dX6_layDinner_14 rfl rfl ?_
      refine r_iconst (v := 0) hX dX6_layDinner_15 (by decide) ?_
      refine r_iast hX ly_48 h.1 dX6_layDinner_16 ?_
      refine r_nmM (fun M1 eM1 => ?_)
      have h := h.2 M1 eM1
      refine r_iconst (v := 0) hX dX6_layDinner_17 (by decide) ?_
      refine r_istore_n (L' := [some (.ref (adX X 34)), some (.int p1), some (.int x2), some (.int 0)]) hX dX6_layDinner_18 rfl (Nat.lt_of_ble rfl) rfl rfl ?_
      obtain ⟨n5, h⟩ := h
      refine r_sub [some (.ref (adX X 34)), some (.int p1), some (.int x2), some (.int 0)] (And.intro rfl (And.intro rfl (And.intro rfl (And.intro rfl trivial)))) ?_
      exact wl_X6_layDinner_19 p1 hX hret (fun y2 M' h' => ih y2 M' h') n5 _ _ _ h
def wp_X6_layDinner (p1 : Int32) (M : Mem) (post : Mem → Prop) : Prop := (∃ k, lp_X6_layDinner_2 p1 post k 0 M)
set_option maxRecDepth 100000 in
theorem wk_X6_layDinner {X : CT} (p1 : Int32) (hX : okX X RX6 cX6_layDinner 3 75) {M : Mem} {post : Mem → Prop} (hret : ∀ (M' : Mem), post M' → RetV X cX6_layDinner M') (h : wp_X6_layDinner p1 M post) : Z X M 0 [some (.ref (adX X 34)), some (.int p1), none, none] [] := by
  unfold wp_X6_layDinner at h
  refine r_iconst (v := 0) hX dX6_layDinner_0 (by decide) ?_
  refine r_istore_n (L' := [some (.ref (adX X 34)), some (.int p1), some (.int 0), none]) hX dX6_layDinner_1 rfl (Nat.lt_of_ble rfl) rfl rfl ?_
  obtain ⟨n6, h⟩ := h
  refine r_sub [some (.ref (adX X 34)), some (.int p1), some (.int 0), none] (And.intro rfl (And.intro rfl (And.intro rfl trivial))) ?_
  exact wl_X6_layDinner_2 p1 hX hret n6 _ _ h
set_option maxRecDepth 100000 in
theorem c_X6_layDinner {l : Launch} {D : va_G} {cs : CS3} {ad : Nat → Nat} (p1 : Int32) {M : Mem} {post : Mem → Prop} (h : wp_X6_layDinner p1 M post) : CtV l D cs ad yX6_layDinner cX6_layDinner 4 none 3 75 [.ref (ad 34), .int p1] M post := met_V (k := 2) (fun ad => [.ref (ad 34), .int p1]) (fun ad => [some (.ref (ad 34)), some (.int p1), none, none]) (by decide +kernel) (fun _ => Nat.le_of_ble_eq_true rfl) (fun _ => rfl) (fun _ => rfl) (fun X hX hret => wk_X6_layDinner p1 hX hret h)
def lp_X6_size_4 (p0 : Int32) (post : Int32 → Mem → Prop) : Nat → Int32 → Int32 → Mem → Prop
  | 0, _, _, _ => False
  | n + 1, x1, x2, M => ((x2 ≤ 0 → post x1 M) ∧ (¬ x2 ≤ 0 → (∀ v1 : Int32, v1 = x1 + (x2 &&& 1) → (∀ v2 : Int32, v2 = x2 >>> (1 &&& 31) → lp_X6_size_4 p0 post n v1 v2 M))))
set_option maxRecDepth 100000 in
theorem wl_X6_size_4 {X : CT} (p0 : Int32) (hX : okX X RX6 cX6_size 0 0) {post : Int32 → Mem → Prop} (hret : ∀ (r : Int32) (M' : Mem), narrow .int (.int r) = .int r → post r M' → RetI X cX6_size r M') : ∀ (n : Nat) (x1 : Int32) (x2 : Int32) (M : Mem), lp_X6_size_4 p0 post n x1 x2 M → Z X M 4 [none, some (.int x1), some (.int x2)] [] := by
  intro n
  induction n with
  | zero =>
    intro x1 x2 M h
    exact False.elim h
  | succ n ih =>
    intro x1 x2 M h
    unfold lp_X6_size_4 at h
    refine r_iload_n hX dX6_size_4 rfl rfl ?_
    refine r_if_le hX 21 dX6_size_5 (by decide) (fun hc => ?_) (fun hc => ?_)
    · have h := h.1 hc
      refine r_iload_n hX dX6_size_21 rfl rfl ?_
      exact r_iret (hret _ _ rfl h) dX6_size_22
    · have h := h.2 hc
      refine r_iload_n hX dX6_size_8 rfl rfl ?_
      refine r_iload_n hX dX6_size_9 rfl rfl ?_
      refine r_iconst (v := 1) hX dX6_size_10 (by decide) ?_
      refine r_iand hX dX6_size_11 ?_
      refine r_iadd hX dX6_size_12 ?_
      refine r_nm (fun v1 ev1 => ?_)
      have h := h v1 ev1
      refine r_istore_n (L' := [none, some (.int v1), some (.int x2)]) hX dX6_size_13 rfl (Nat.lt_of_ble rfl) rfl rfl ?_
      refine r_iload_n hX dX6_size_14 rfl rfl ?_
      refine r_iconst (v := 1) hX dX6_size_15 (by decide) ?_
      refine r_ishr hX dX6_size_16 ?_
      refine r_nm (fun v2 ev2 => ?_)
      have h := h v2 ev2
      refine r_istore_n (L' := [none, some (.int v1), some (.int v2)]) hX dX6_size_17 rfl (Nat.lt_of_ble rfl) rfl rfl ?_
      refine r_goto hX 4 dX6_size_18 (by decide) ?_
      refine r_sub [none, some (.int v1), some (.int v2)] (And.intro rfl (And.intro rfl trivial)) ?_
      exact ih _ _ _ h
def wp_X6_size (p0 : Int32) (M : Mem) (post : Int32 → Mem → Prop) : Prop := (∃ k, lp_X6_size_4 p0 post k 0 p0 M)
set_option maxRecDepth 100000 in
theorem wk_X6_size {X : CT} (p0 : Int32) (hX : okX X RX6 cX6_size 0 0) {M : Mem} {post : Int32 → Mem → Prop} (hret : ∀ (r : Int32) (M' : Mem), narrow .int (.int r) = .int r → post r M' → RetI X cX6_size r M') (h : wp_X6_size p0 M post) : Z X M 0 [some (.int p0), none, none] [] := by
  unfold wp_X6_size at h
  refine r_iconst (v := 0) hX dX6_size_0 (by decide) ?_
  refine r_istore_n (L' := [some (.int p0), some (.int 0), none]) hX dX6_size_1 rfl (Nat.lt_of_ble rfl) rfl rfl ?_
  refine r_iload_n hX dX6_size_2 rfl rfl ?_
  refine r_istore_n (L' := [some (.int p0), some (.int 0), some (.int p0)]) hX dX6_size_3 rfl (Nat.lt_of_ble rfl) rfl rfl ?_
  obtain ⟨n3, h⟩ := h
  refine r_sub [none, some (.int 0), some (.int p0)] (And.intro rfl (And.intro rfl trivial)) ?_
  exact wl_X6_size_4 p0 hX hret n3 _ _ _ h
set_option maxRecDepth 100000 in
theorem c_X6_size {l : Launch} {D : va_G} {cs : CS3} {ad : Nat → Nat} (p0 : Int32) {M : Mem} {post : Int32 → Mem → Prop} (h : wp_X6_size p0 M post) : CtI l D cs ad yX6_size cX6_size 3 (some .int) 0 0 [.int p0] M post := met_I (k := 2) (fun ad => [.int p0]) (fun ad => [some (.int p0), none, none]) (by decide +kernel) (fun _ => Nat.le_of_ble_eq_true rfl) (fun _ => rfl) (fun _ => rfl) (fun X hX hret => wk_X6_size p0 hX hret h)
def lp_X6_mostSit_120 (post : Int32 → Mem → Prop) : Nat → Int32 → Int32 → Mem → Prop
  | 0, _, _, _ => False
  | n + 1, x1, x2, M => ((32 ≤ x2 → post x1 M) ∧ (¬ 32 ≤ x2 → (vp_in x2 32 ∧ (((M 49 x2.toNatClampNeg) = 0 → lp_X6_mostSit_120 post n x1 (x2 + 1) M) ∧ (¬ (M 49 x2.toNatClampNeg) = 0 → (wp_X6_size x2 M (fun r1 M2 => ((r1 ≤ x1 → lp_X6_mostSit_120 post n x1 (x2 + 1) M2) ∧ (¬ r1 ≤ x1 → (wp_X6_size x2 M2 (fun r3 M4 => lp_X6_mostSit_120 post n r3 (x2 + 1) M4)))))))))))
set_option maxRecDepth 100000 in
theorem wl_X6_mostSit_120 {X : CT} (hX : okX X RX6 cX6_mostSit 1 22) {post : Int32 → Mem → Prop} (hret : ∀ (r : Int32) (M' : Mem), narrow .int (.int r) = .int r → post r M' → RetI X cX6_mostSit r M') : ∀ (n : Nat) (x1 : Int32) (x2 : Int32) (M : Mem), lp_X6_mostSit_120 post n x1 x2 M → Z X M 120 [some (.ref (adX X 34)), some (.int x1), some (.int x2), none] [] := by
  intro n
  induction n with
  | zero =>
    intro x1 x2 M h
    exact False.elim h
  | succ n ih =>
    intro x1 x2 M h
    unfold lp_X6_mostSit_120 at h
    refine r_iload_n hX dX6_mostSit_120 rfl rfl ?_
    refine r_bipush (v := 32) hX dX6_mostSit_121 (by decide) ?_
    refine r_icmp_ge hX 158 dX6_mostSit_123 (by decide) (fun hc => ?_) (fun hc => ?_)
    · have h := h.1 hc
      refine r_iload_n hX dX6_mostSit_158 rfl rfl ?_
      exact r_iret (hret _ _ rfl h) dX6_mostSit_159
    · have h := h.2 hc
      refine r_aload_n hX dX6_mostSit_126 rfl rfl ?_
      refine r_getR hX fg_X6_56 ly_34 rfl dX6_mostSit_127 ?_
      refine r_iload_n hX dX6_mostSit_130 rfl rfl ?_
      refine r_zald hX ly_49 h.1 dX6_mostSit_131 ?_
      have h := h.2
      refine r_if_eq hX 150 dX6_mostSit_132 (by decide) (fun hc => ?_) (fun hc => ?_)
      · have h := h.1 hc
        refine r_iload_n hX dX6_mostSit_150 rfl rfl ?_
        refine r_istore_n (L' := [some (.ref (adX X 34)), some (.int x1), some (.int x2), none]) hX dX6_mostSit_151 rfl (Nat.lt_of_ble rfl) rfl rfl ?_
        refine r_iinc (v := x2 + 1) (L' := [some (.ref (adX X 34)), some (.int x1), some (.int (x2 + 1)), none]) hX dX6_mostSit_152 rfl rfl rfl rfl ?_
        refine r_goto hX 120 dX6_mostSit_155 (by decide) ?_
        refine r_sub [some (.ref (adX X 34)), some (.int x1), some (.int (x2 + 1)), none] (And.intro rfl (And.intro rfl (And.intro rfl trivial))) ?_
        exact ih _ _ _ h
      · have h := h.2 hc
        refine r_iload_n hX dX6_mostSit_135 rfl rfl ?_
        refine r_cSi1 hX fs_X6_164 ⟨Nat.le_of_ble_eq_true rfl, Nat.le_of_ble_eq_true rfl⟩ (c_X6_size x2 h) (Nat.le_of_ble_eq_true rfl) dX6_mostSit_136 (fun r1 M2 h => ?_)
        refine r_iload_n hX dX6_mostSit_139 rfl rfl ?_
        refine r_icmp_le hX 150 dX6_mostSit_140 (by decide) (fun hc => ?_) (fun hc => ?_)
        · have h := h.1 hc
          refine r_iload_n hX dX6_mostSit_150 rfl rfl ?_
          refine r_istore_n (L' := [some (.ref (adX X 34)), some (.int x1), some (.int x2), none]) hX dX6_mostSit_151 rfl (Nat.lt_of_ble rfl) rfl rfl ?_
          refine r_iinc (v := x2 + 1) (L' := [some (.ref (adX X 34)), some (.int x1), some (.int (x2 + 1)), none]) hX dX6_mostSit_152 rfl rfl rfl rfl ?_
          refine r_goto hX 120 dX6_mostSit_155 (by decide) ?_
          refine r_sub [some (.ref (adX X 34)), some (.int x1), some (.int (x2 + 1)), none] (And.intro rfl (And.intro rfl (And.intro rfl trivial))) ?_
          exact ih _ _ _ h
        · have h := h.2 hc
          refine r_iload_n hX dX6_mostSit_143 rfl rfl ?_
          refine r_cSi1 hX fs_X6_164 ⟨Nat.le_of_ble_eq_true rfl, Nat.le_of_ble_eq_true rfl⟩ (c_X6_size x2 h) (Nat.le_of_ble_eq_true rfl) dX6_mostSit_144 (fun r3 M4 h => ?_)
          refine r_goto hX 151 dX6_mostSit_147 (by decide) ?_
          refine r_istore_n (L' := [some (.ref (adX X 34)), some (.int r3), some (.int x2), none]) hX dX6_mostSit_151 rfl (Nat.lt_of_ble rfl) rfl rfl ?_
          refine r_iinc (v := x2 + 1) (L' := [some (.ref (adX X 34)), some (.int r3), some (.int (x2 + 1)), none]) hX dX6_mostSit_152 rfl rfl rfl rfl ?_
          refine r_goto hX 120 dX6_mostSit_155 (by decide) ?_
          refine r_sub [some (.ref (adX X 34)), some (.int r3), some (.int (x2 + 1)), none] (And.intro rfl (And.intro rfl (And.intro rfl trivial))) ?_
          exact ih _ _ _ h
def lp_X6_mostSit_48 (post : Int32 → Mem → Prop) (B_31 : Int32 → Mem → Prop) (B_42 : Int32 → Int32 → Mem → Prop) : Nat → Int32 → Int32 → Int32 → Mem → Prop
  | 0, _, _, _, _ => False
  | n + 1, x1, x2, x3, M => (((M 34 6) ≤ x3 → B_42 x1 (x2 + (-1)) M) ∧ (¬ (M 34 6) ≤ x3 → (vp_in x2 32 ∧ (((M 49 x2.toNatClampNeg) = 0 → B_42 x1 (x2 + (-1)) M) ∧ (¬ (M 49 x2.toNatClampNeg) = 0 → ((¬ ((x2 >>> (x3 &&& 31)) &&& 1) = 0 → lp_X6_mostSit_48 post B_31 B_42 n x1 x2 (x3 + 1) M) ∧ (((x2 >>> (x3 &&& 31)) &&& 1) = 0 → (vp_in x1 5 ∧ ((¬ (((M 48 x1.toNatClampNeg) >>> (x3 &&& 31)) &&& 1) = 1 → lp_X6_mostSit_48 post B_31 B_42 n x1 x2 (x3 + 1) M) ∧ ((((M 48 x1.toNatClampNeg) >>> (x3 &&& 31)) &&& 1) = 1 → (vp_in (x2 ||| (1 <<< (x3 &&& 31))) 32 ∧ ∀ M6 : Mem, M6 = up2 M 49 (x2 ||| (1 <<< (x3 &&& 31))).toNatClampNeg (vp_nar .boolean 1) → lp_X6_mostSit_48 post B_31 B_42 n x1 x2 (x3 + 1) M6)))))))))))
set_option maxRecDepth 100000 in
theorem wl_X6_mostSit_48 {X : CT} (hX : okX X RX6 cX6_mostSit 1 22) {post : Int32 → Mem → Prop} (hret : ∀ (r : Int32) (M' : Mem), narrow .int (.int r) = .int r → post r M' → RetI X cX6_mostSit r M') {B_31 : Int32 → Mem → Prop} {B_42 : Int32 → Int32 → Mem → Prop} (hB_31 : ∀ (x1 : Int32) (M : Mem), B_31 x1 M → Z X M 31 [some (.ref (adX X 34)), some (.int x1), none, none] []) (hB_42 : ∀ (x1 : Int32) (x2 : Int32) (M : Mem), B_42 x1 x2 M → Z X M 42 [some (.ref (adX X 34)), some (.int x1), some (.int x2), none] []) : ∀ (n : Nat) (x1 : Int32) (x2 : Int32) (x3 : Int32) (M : Mem), lp_X6_mostSit_48 post B_31 B_42 n x1 x2 x3 M → Z X M 48 [some (.ref (adX X 34)), some (.int x1), some (.int x2), some (.int x3)] [] := by
  intro n
  induction n with
  | zero =>
    intro x1 x2 x3 M h
    exact False.elim h
  | succ n ih =>
    intro x1 x2 x3 M h
    unfold lp_X6_mostSit_48 at h
    refine r_iload_n hX dX6_mostSit_48 rfl rfl ?_
    refine r_aload_n hX dX6_mostSit_49 rfl rfl ?_
    refine r_getI hX fg_X6_90 ly_34 rfl dX6_mostSit_50 ?_
    refine r_icmp_ge hX 104 dX6_mostSit_53 (by decide) (fun hc => ?_) (fun hc => ?_)
    · have h := h.1 hc
      refine r_iinc (v := x2 + (-1)) (L' := [some (.ref (adX X 34)), some (.int x1), some (.int (x2 + (-1))), some (.int x3)]) hX dX6_mostSit_104 rfl rfl rfl rfl ?_
      refine r_goto hX 42 dX6_mostSit_107 (by decide) ?_
      refine r_sub [some (.ref (adX X 34)), some (.int x1), some (.int (x2 + (-1))), none] (And.intro rfl (And.intro rfl (And.intro rfl trivial))) ?_
      exact hB_42 _ _ _ h
    · have h := h.2 hc
      refine r_aload_n hX dX6_mostSit_56 rfl rfl ?_
      refine r_getR hX fg_X6_56 ly_34 rfl dX6_mostSit_57 ?_
      refine r_iload_n hX dX6_mostSit_60 rfl rfl ?_
      refine r_zald hX ly_49 h.1 dX6_mostSit_61 ?_
      have h := h.2
      refine r_if_eq hX 104 dX6_mostSit_62 (by decide) (fun hc => ?_) (fun hc => ?_)
      · have h := h.1 hc
        refine r_iinc (v := x2 + (-1)) (L' := [some (.ref (adX X 34)), some (.int x1), some (.int (x2 + (-1))), some (.int x3)]) hX dX6_mostSit_104 rfl rfl rfl rfl ?_
        refine r_goto hX 42 dX6_mostSit_107 (by decide) ?_
        refine r_sub [some (.ref (adX X 34)), some (.int x1), some (.int (x2 + (-1))), none] (And.intro rfl (And.intro rfl (And.intro rfl trivial))) ?_
        exact hB_42 _ _ _ h
      · have h := h.2 hc
        refine r_iload_n hX dX6_mostSit_65 rfl rfl ?_
        refine r_iload_n hX dX6_mostSit_66 rfl rfl ?_
        refine r_ishr hX dX6_mostSit_67 ?_
        refine r_iconst (v := 1) hX dX6_mostSit_68 (by decide) ?_
        refine r_iand hX dX6_mostSit_69 ?_
        refine r_if_ne hX 98 dX6_mostSit_70 (by decide) (fun hc => ?_) (fun hc => ?_)
        · have h := h.1 hc
          refine r_iinc (v := x3 + 1) (L' := [some (.ref (adX X 34)), some (.int x1), some (.int x2), some (.int (x3 + 1))]) hX dX6_mostSit_98 rfl rfl rfl rfl ?_
          refine r_goto hX 48 dX6_mostSit_101 (by decide) ?_
          refine r_sub [some (.ref (adX X 34)), some (.int x1), some (.int x2), some (.int (x3 + 1))] (And.intro rfl (And.intro rfl (And.intro rfl (And.intro rfl trivial)))) ?_
          exact ih _ _ _ _ h
        · have h := h.2 hc
          refine r_aload_n hX dX6_mostSit_73 rfl rfl ?_
          refine r_getR hX fg_X6_53 ly_34 rfl dX6_mostSit_74 ?_
          refine r_iload_n hX dX6_mostSit_77 rfl rfl ?_
          refine r_iald hX ly_48 h.1 dX6_mostSit_78 ?_
          have h := h.2
          refine r_iload_n hX dX6_mostSit_79 rfl rfl ?_
          refine r_ishr hX dX6_mostSit_80 ?_
          refine r_iconst (v := 1) hX dX6_mostSit_81 (by decide) ?_
          refine r_iand hX dX6_mostSit_82 ?_
          refine r_iconst (v := 1) hX dX6_mostSit_83 (by decide) ?_
          refine r_icmp_ne hX 98 dX6_mostSit_84 (by decide) (fun hc => ?_) (fun hc => ?_)
          · have h := h.1 hc
            refine r_iinc (v := x3 + 1) (L' := [some (.ref (adX X 34)), some (.int x1), some (.int x2), some (.int (x3 + 1))]) hX dX6_mostSit_98 rfl rfl rfl rfl ?_
            refine r_goto hX 48 dX6_mostSit_101 (by decide) ?_
            refine r_sub [some (.ref (adX X 34)), some (.int x1), some (.int x2), some (.int (x3 + 1))] (And.intro rfl (And.intro rfl (And.intro rfl (And.intro rfl trivial)))) ?_
            exact ih _ _ _ _ h
          · have h := h.2 hc
            refine r_aload_n hX dX6_mostSit_87 rfl rfl ?_
            refine r_getR hX fg_X6_56 ly_34 rfl dX6_mostSit_88 ?_
            refine r_iload_n hX dX6_mostSit_91 rfl rfl ?_
            refine r_iconst (v := 1) hX dX6_mostSit_92 (by decide) ?_
            refine r_iload_n hX dX6_mostSit_93 rfl rfl ?_
            refine r_ishl hX dX6_mostSit_94 ?_
            refine r_ior hX dX6_mostSit_95 ?_
            refine r_iconst (v := 1) hX dX6_mostSit_96 (by decide) ?_
            refine r_zast hX ly_49 h.1 dX6_mostSit_97 ?_
            refine r_nmM (fun M6 eM6 => ?_)
            have h := h.2 M6 eM6
            refine r_iinc (v := x3 + 1) (L' := [some (.ref (adX X 34)), some (.int x1), some (.int x2), some (.int (x3 + 1))]) hX dX6_mostSit_98 rfl rfl rfl rfl ?_
            refine r_goto hX 48 dX6_mostSit_101 (by decide) ?_
            refine r_sub [some (.ref (adX X 34)), some (.int x1), some (.int x2), some (.int (x3 + 1))] (And.intro rfl (And.intro rfl (And.intro rfl (And.intro rfl trivial)))) ?_
            exact ih _ _ _ _ h
def lp_X6_mostSit_42 (post : Int32 → Mem → Prop) (B_31 : Int32 → Mem → Prop) : Nat → Int32 → Int32 → Mem → Prop
  | 0, _, _, _ => False
  | n + 1, x1, x2, M => ((x2 < 0 → B_31 (x1 + 1) M) ∧ (¬ x2 < 0 → (∃ k, lp_X6_mostSit_48 post B_31 (fun y1 y2 M' => lp_X6_mostSit_42 post B_31 n y1 y2 M') k x1 x2 0 M)))
set_option maxRecDepth 100000 in
theorem wl_X6_mostSit_42 {X : CT} (hX : okX X RX6 cX6_mostSit 1 22) {post : Int32 → Mem → Prop} (hret : ∀ (r : Int32) (M' : Mem), narrow .int (.int r) = .int r → post r M' → RetI X cX6_mostSit r M') {B_31 : Int32 → Mem → Prop} (hB_31 : ∀ (x1 : Int32) (M : Mem), B_31 x1 M → Z X M 31 [some (.ref (adX X 34)), some (.int x1), none, none] []) : ∀ (n : Nat) (x1 : Int32) (x2 : Int32) (M : Mem), lp_X6_mostSit_42 post B_31 n x1 x2 M → Z X M 42 [some (.ref (adX X 34)), some (.int x1), some (.int x2), none] [] := by
  intro n
  induction n with
  | zero =>
    intro x1 x2 M h
    exact False.elim h
  | succ n ih =>
    intro x1 x2 M h
    unfold lp_X6_mostSit_42 at h
    refine r_iload_n hX dX6_mostSit_42 rfl rfl ?_
    refine r_if_lt hX 110 dX6_mostSit_43 (by decide) (fun hc => ?_) (fun hc => ?_)
    · have h := h.1 hc
      refine r_iinc (v := x1 + 1) (L' := [some (.ref (adX X 34)), some (.int (x1 + 1)), some (.int x2), none]) hX dX6_mostSit_110 rfl rfl rfl rfl ?_
      refine r_goto hX 31 dX6_mostSit_113 (by decide) ?_
      refine r_sub [some (.ref (adX X 34)), some (.int (x1 + 1)), none, none] (And.intro rfl (And.intro rfl trivial)) ?_
      exact hB_31 _ _ h
    · have h := h.2 hc
      refine r_iconst (v := 0) hX dX6_mostSit_46 (by decide) ?_
      refine r_istore_n (L' := [some (.ref (adX X 34)), some (.int x1), some (.int x2), some (.int 0)]) hX dX6_mostSit_47 rfl (Nat.lt_of_ble rfl) rfl rfl ?_
      obtain ⟨n7, h⟩ := h
      refine r_sub [some (.ref (adX X 34)), some (.int x1), some (.int x2), some (.int 0)] (And.intro rfl (And.intro rfl (And.intro rfl (And.intro rfl trivial)))) ?_
      exact wl_X6_mostSit_48 hX hret hB_31 (fun y1 y2 M' h' => ih y1 y2 M' h') n7 _ _ _ _ h
def lp_X6_mostSit_31 (post : Int32 → Mem → Prop) : Nat → Int32 → Mem → Prop
  | 0, _, _ => False
  | n + 1, x1, M => (((M 34 5) ≤ x1 → (∃ k, lp_X6_mostSit_120 post k 0 0 M)) ∧ (¬ (M 34 5) ≤ x1 → (∃ k, lp_X6_mostSit_42 post (fun y1 M' => lp_X6_mostSit_31 post n y1 M') k x1 31 M)))
set_option maxRecDepth 100000 in
theorem wl_X6_mostSit_31 {X : CT} (hX : okX X RX6 cX6_mostSit 1 22) {post : Int32 → Mem → Prop} (hret : ∀ (r : Int32) (M' : Mem), narrow .int (.int r) = .int r → post r M' → RetI X cX6_mostSit r M') : ∀ (n : Nat) (x1 : Int32) (M : Mem), lp_X6_mostSit_31 post n x1 M → Z X M 31 [some (.ref (adX X 34)), some (.int x1), none, none] [] := by
  intro n
  induction n with
  | zero =>
    intro x1 M h
    exact False.elim h
  | succ n ih =>
    intro x1 M h
    unfold lp_X6_mostSit_31 at h
    refine r_iload_n hX dX6_mostSit_31 rfl rfl ?_
    refine r_aload_n hX dX6_mostSit_32 rfl rfl ?_
    refine r_getI hX fg_X6_87 ly_34 rfl dX6_mostSit_33 ?_
    refine r_icmp_ge hX 116 dX6_mostSit_36 (by decide) (fun hc => ?_) (fun hc => ?_)
    · have h := h.1 hc
      refine r_iconst (v := 0) hX dX6_mostSit_116 (by decide) ?_
      refine r_istore_n (L' := [some (.ref (adX X 34)), some (.int 0), none, none]) hX dX6_mostSit_117 rfl (Nat.lt_of_ble rfl) rfl rfl ?_
      refine r_iconst (v := 0) hX dX6_mostSit_118 (by decide) ?_
      refine r_istore_n (L' := [some (.ref (adX X 34)), some (.int 0), some (.int 0), none]) hX dX6_mostSit_119 rfl (Nat.lt_of_ble rfl) rfl rfl ?_
      obtain ⟨n5, h⟩ := h
      refine r_sub [some (.ref (adX X 34)), some (.int 0), some (.int 0), none] (And.intro rfl (And.intro rfl (And.intro rfl trivial))) ?_
      exact wl_X6_mostSit_120 hX hret n5 _ _ _ h
    · have h := h.2 hc
      refine r_bipush (v := 31) hX dX6_mostSit_39 (by decide) ?_
      refine r_istore_n (L' := [some (.ref (adX X 34)), some (.int x1), some (.int 31), none]) hX dX6_mostSit_41 rfl (Nat.lt_of_ble rfl) rfl rfl ?_
      obtain ⟨n8, h⟩ := h
      refine r_sub [some (.ref (adX X 34)), some (.int x1), some (.int 31), none] (And.intro rfl (And.intro rfl (And.intro rfl trivial))) ?_
      exact wl_X6_mostSit_42 hX hret (fun y1 M' h' => ih y1 M' h') n8 _ _ _ h
def jn_X6_mostSit_22 (post : Int32 → Mem → Prop) (B_2 : Int32 → Mem → Prop) (x1 : Int32) (s0 : Int32) (s1 : Int32) (M : Mem) : Prop := (vp_in s1 32 ∧ ∀ M10 : Mem, M10 = up2 M 49 s1.toNatClampNeg (vp_nar .boolean s0) → B_2 (x1 + 1) M10)
set_option maxRecDepth 100000 in
theorem wj_X6_mostSit_22 {X : CT} (hX : okX X RX6 cX6_mostSit 1 22) {post : Int32 → Mem → Prop} (hret : ∀ (r : Int32) (M' : Mem), narrow .int (.int r) = .int r → post r M' → RetI X cX6_mostSit r M') {B_2 : Int32 → Mem → Prop} (hB_2 : ∀ (x1 : Int32) (M : Mem), B_2 x1 M → Z X M 2 [some (.ref (adX X 34)), some (.int x1), none, none] []) (x1 : Int32) (s0 : Int32) (s1 : Int32) (M : Mem) (h : jn_X6_mostSit_22 post B_2 x1 s0 s1 M) : Z X M 22 [some (.ref (adX X 34)), some (.int x1), none, none] [.int s0, .int s1, .ref (adX X 49)] := by
  unfold jn_X6_mostSit_22 at h
  refine r_zast hX ly_49 h.1 dX6_mostSit_22 ?_
  refine r_nmM (fun M10 eM10 => ?_)
  have h := h.2 M10 eM10
  refine r_iinc (v := x1 + 1) (L' := [some (.ref (adX X 34)), some (.int (x1 + 1)), none, none]) hX dX6_mostSit_23 rfl rfl rfl rfl ?_
  refine r_goto hX 2 dX6_mostSit_26 (by decide) ?_
  refine r_sub [some (.ref (adX X 34)), some (.int (x1 + 1)), none, none] (And.intro rfl (And.intro rfl trivial)) ?_
  exact hB_2 _ _ h
def lp_X6_mostSit_2 (post : Int32 → Mem → Prop) : Nat → Int32 → Mem → Prop
  | 0, _, _ => False
  | n + 1, x1, M => ((32 ≤ x1 → (∃ k, lp_X6_mostSit_31 post k 0 M)) ∧ (¬ 32 ≤ x1 → ((¬ x1 = 0 → jn_X6_mostSit_22 post (fun y1 M' => lp_X6_mostSit_2 post n y1 M') x1 0 x1 M) ∧ (x1 = 0 → jn_X6_mostSit_22 post (fun y1 M' => lp_X6_mostSit_2 post n y1 M') x1 1 x1 M))))
set_option maxRecDepth 100000 in
theorem wl_X6_mostSit_2 {X : CT} (hX : okX X RX6 cX6_mostSit 1 22) {post : Int32 → Mem → Prop} (hret : ∀ (r : Int32) (M' : Mem), narrow .int (.int r) = .int r → post r M' → RetI X cX6_mostSit r M') : ∀ (n : Nat) (x1 : Int32) (M : Mem), lp_X6_mostSit_2 post n x1 M → Z X M 2 [some (.ref (adX X 34)), some (.int x1), none, none] [] := by
  intro n
  induction n with
  | zero =>
    intro x1 M h
    exact False.elim h
  | succ n ih =>
    intro x1 M h
    unfold lp_X6_mostSit_2 at h
    refine r_iload_n hX dX6_mostSit_2 rfl rfl ?_
    refine r_bipush (v := 32) hX dX6_mostSit_3 (by decide) ?_
    refine r_icmp_ge hX 29 dX6_mostSit_5 (by decide) (fun hc => ?_) (fun hc => ?_)
    · have h := h.1 hc
      refine r_iconst (v := 0) hX dX6_mostSit_29 (by decide) ?_
      refine r_istore_n (L' := [some (.ref (adX X 34)), some (.int 0), none, none]) hX dX6_mostSit_30 rfl (Nat.lt_of_ble rfl) rfl rfl ?_
      obtain ⟨n9, h⟩ := h
      refine r_sub [some (.ref (adX X 34)), some (.int 0), none, none] (And.intro rfl (And.intro rfl trivial)) ?_
      exact wl_X6_mostSit_31 hX hret n9 _ _ h
    · have h := h.2 hc
      refine r_aload_n hX dX6_mostSit_8 rfl rfl ?_
      refine r_getR hX fg_X6_56 ly_34 rfl dX6_mostSit_9 ?_
      refine r_iload_n hX dX6_mostSit_12 rfl rfl ?_
      refine r_iload_n hX dX6_mostSit_13 rfl rfl ?_
      refine r_if_ne hX 21 dX6_mostSit_14 (by decide) (fun hc => ?_) (fun hc => ?_)
      · have h := h.1 hc
        refine r_iconst (v := 0) hX dX6_mostSit_21 (by decide) ?_
        refine r_sub [some (.ref (adX X 34)), some (.int x1), none, none] (And.intro rfl (And.intro rfl trivial)) ?_
        exact wj_X6_mostSit_22 hX hret (fun y1 M' h' => ih y1 M' h') _ _ _ _ h
      · have h := h.2 hc
        refine r_iconst (v := 1) hX dX6_mostSit_17 (by decide) ?_
        refine r_goto hX 22 dX6_mostSit_18 (by decide) ?_
        refine r_sub [some (.ref (adX X 34)), some (.int x1), none, none] (And.intro rfl (And.intro rfl trivial)) ?_
        exact wj_X6_mostSit_22 hX hret (fun y1 M' h' => ih y1 M' h') _ _ _ _ h
def wp_X6_mostSit (M : Mem) (post : Int32 → Mem → Prop) : Prop := (∃ k, lp_X6_mostSit_2 post k 0 M)
set_option maxRecDepth 100000 in
theorem wk_X6_mostSit {X : CT} (hX : okX X RX6 cX6_mostSit 1 22) {M : Mem} {post : Int32 → Mem → Prop} (hret : ∀ (r : Int32) (M' : Mem), narrow .int (.int r) = .int r → post r M' → RetI X cX6_mostSit r M') (h : wp_X6_mostSit M post) : Z X M 0 [some (.ref (adX X 34)), none, none, none] [] := by
  unfold wp_X6_mostSit at h
  refine r_iconst (v := 0) hX dX6_mostSit_0 (by decide) ?_
  refine r_istore_n (L' := [some (.ref (adX X 34)), some (.int 0), none, none]) hX dX6_mostSit_1 rfl (Nat.lt_of_ble rfl) rfl rfl ?_
  obtain ⟨n11, h⟩ := h
  refine r_sub [some (.ref (adX X 34)), some (.int 0), none, none] (And.intro rfl (And.intro rfl trivial)) ?_
  exact wl_X6_mostSit_2 hX hret n11 _ _ h
set_option maxRecDepth 100000 in
theorem c_X6_mostSit {l : Launch} {D : va_G} {cs : CS3} {ad : Nat → Nat} {M : Mem} {post : Int32 → Mem → Prop} (h : wp_X6_mostSit M post) : CtI l D cs ad yX6_mostSit cX6_mostSit 4 (some .int) 1 22 [.ref (ad 34)] M post := met_I (k := 3) (fun ad => [.ref (ad 34)]) (fun ad => [some (.ref (ad 34)), none, none, none]) (by decide +kernel) (fun _ => Nat.le_of_ble_eq_true rfl) (fun _ => rfl) (fun _ => rfl) (fun X hX hret => wk_X6_mostSit hX hret h)
def jn_X6_layRow_74 (p1 : Int32) (p2 : Int32) (post : Int32 → Mem → Prop) (B_16 : Int32 → Int32 → Int32 → Int32 → Mem → Prop) (x3 : Int32) (x4 : Int32) (x6 : Int32) (s0 : Int32) (M : Mem) : Prop := (vp_in x6 5 ∧ (∀ v4 : Int32, v4 = x4 ||| (1 <<< ((M 50 x6.toNatClampNeg) &&& 31)) → B_16 x3 v4 s0 (x6 + (-1)) M))
set_option maxRecDepth 100000 in
theorem wj_X6_layRow_74 {X : CT} (p1 : Int32) (p2 : Int32) (hX : okX X RX6 cX6_layRow 0 0) {post : Int32 → Mem → Prop} (hret : ∀ (r : Int32) (M' : Mem), narrow .boolean (.int r) = .int r → post r M' → RetI X cX6_layRow r M') {B_16 : Int32 → Int32 → Int32 → Int32 → Mem → Prop} (hB_16 : ∀ (x3 : Int32) (x4 : Int32) (x5 : Int32) (x6 : Int32) (M : Mem), B_16 x3 x4 x5 x6 M → Z X M 16 [some (.ref (adX X 34)), none, some (.int p2), some (.int x3), some (.int x4), some (.int x5), some (.int x6)] []) (x3 : Int32) (x4 : Int32) (x6 : Int32) (s0 : Int32) (M : Mem) (h : jn_X6_layRow_74 p1 p2 post B_16 x3 x4 x6 s0 M) : Z X M 74 [some (.ref (adX X 34)), none, some (.int p2), some (.int x3), some (.int x4), none, some (.int x6)] [.int s0] := by
  unfold jn_X6_layRow_74 at h
  refine r_istore (L' := [some (.ref (adX X 34)), none, some (.int p2), some (.int x3), some (.int x4), some (.int s0), some (.int x6)]) hX dX6_layRow_74 (Nat.lt_of_ble rfl) rfl rfl ?_
  refine r_iload hX dX6_layRow_76 rfl ?_
  refine r_iconst (v := 1) hX dX6_layRow_78 (by decide) ?_
  refine r_aload_n hX dX6_layRow_79 rfl rfl ?_
  refine r_getR hX fg_X6_60 ly_34 rfl dX6_layRow_80 ?_
  refine r_iload hX dX6_layRow_83 rfl ?_
  refine r_iald hX ly_50 h.1 dX6_layRow_85 ?_
  have h := h.2
  refine r_ishl hX dX6_layRow_86 ?_
  refine r_ior hX dX6_layRow_87 ?_
  refine r_nm (fun v4 ev4 => ?_)
  have h := h v4 ev4
  refine r_istore (L' := [some (.ref (adX X 34)), none, some (.int p2), some (.int x3), some (.int v4), some (.int s0), some (.int x6)]) hX dX6_layRow_88 (Nat.lt_of_ble rfl) rfl rfl ?_
  refine r_iinc (v := x6 + (-1)) (L' := [some (.ref (adX X 34)), none, some (.int p2), some (.int x3), some (.int v4), some (.int s0), some (.int (x6 + (-1)))]) hX dX6_layRow_90 rfl rfl rfl rfl ?_
  refine r_goto hX 16 dX6_layRow_93 (by decide) ?_
  refine r_sub [some (.ref (adX X 34)), none, some (.int p2), some (.int x3), some (.int v4), some (.int s0), some (.int (x6 + (-1)))] (And.intro rfl (And.intro rfl (And.intro rfl (And.intro rfl (And.intro rfl (And.intro rfl trivial)))))) ?_
  exact hB_16 _ _ _ _ _ h
def jn_X6_layRow_73 (p1 : Int32) (p2 : Int32) (post : Int32 → Mem → Prop) (B_16 : Int32 → Int32 → Int32 → Int32 → Mem → Prop) (x3 : Int32) (x4 : Int32) (x6 : Int32) (M : Mem) : Prop := jn_X6_layRow_74 p1 p2 post B_16 x3 x4 x6 0 M
set_option maxRecDepth 100000 in
theorem wj_X6_layRow_73 {X : CT} (p1 : Int32) (p2 : Int32) (hX : okX X RX6 cX6_layRow 0 0) {post : Int32 → Mem → Prop} (hret : ∀ (r : Int32) (M' : Mem), narrow .boolean (.int r) = .int r → post r M' → RetI X cX6_layRow r M') {B_16 : Int32 → Int32 → Int32 → Int32 → Mem → Prop} (hB_16 : ∀ (x3 : Int32) (x4 : Int32) (x5 : Int32) (x6 : Int32) (M : Mem), B_16 x3 x4 x5 x6 M → Z X M 16 [some (.ref (adX X 34)), none, some (.int p2), some (.int x3), some (.int x4), some (.int x5), some (.int x6)] []) (x3 : Int32) (x4 : Int32) (x6 : Int32) (M : Mem) (h : jn_X6_layRow_73 p1 p2 post B_16 x3 x4 x6 M) : Z X M 73 [some (.ref (adX X 34)), none, some (.int p2), some (.int x3), some (.int x4), none, some (.int x6)] [] := by
  unfold jn_X6_layRow_73 at h
  refine r_iconst (v := 0) hX dX6_layRow_73 (by decide) ?_
  refine r_sub [some (.ref (adX X 34)), none, some (.int p2), some (.int x3), some (.int x4), none, some (.int x6)] (And.intro rfl (And.intro rfl (And.intro rfl (And.intro rfl (And.intro rfl trivial))))) ?_
  exact wj_X6_layRow_74 p1 p2 hX hret hB_16 _ _ _ _ _ h
def jn_X6_layRow_69 (p1 : Int32) (p2 : Int32) (post : Int32 → Mem → Prop) (B_16 : Int32 → Int32 → Int32 → Int32 → Mem → Prop) (x3 : Int32) (x4 : Int32) (x6 : Int32) (M : Mem) : Prop := jn_X6_layRow_74 p1 p2 post B_16 x3 x4 x6 1 M
set_option maxRecDepth 100000 in
theorem wj_X6_layRow_69 {X : CT} (p1 : Int32) (p2 : Int32) (hX : okX X RX6 cX6_layRow 0 0) {post : Int32 → Mem → Prop} (hret : ∀ (r : Int32) (M' : Mem), narrow .boolean (.int r) = .int r → post r M' → RetI X cX6_layRow r M') {B_16 : Int32 → Int32 → Int32 → Int32 → Mem → Prop} (hB_16 : ∀ (x3 : Int32) (x4 : Int32) (x5 : Int32) (x6 : Int32) (M : Mem), B_16 x3 x4 x5 x6 M → Z X M 16 [some (.ref (adX X 34)), none, some (.int p2), some (.int x3), some (.int x4), some (.int x5), some (.int x6)] []) (x3 : Int32) (x4 : Int32) (x6 : Int32) (M : Mem) (h : jn_X6_layRow_69 p1 p2 post B_16 x3 x4 x6 M) : Z X M 69 [some (.ref (adX X 34)), none, some (.int p2), some (.int x3), some (.int x4), none, some (.int x6)] [] := by
  unfold jn_X6_layRow_69 at h
  refine r_iconst (v := 1) hX dX6_layRow_69 (by decide) ?_
  refine r_goto hX 74 dX6_layRow_70 (by decide) ?_
  refine r_sub [some (.ref (adX X 34)), none, some (.int p2), some (.int x3), some (.int x4), none, some (.int x6)] (And.intro rfl (And.intro rfl (And.intro rfl (And.intro rfl (And.intro rfl trivial))))) ?_
  exact wj_X6_layRow_74 p1 p2 hX hret hB_16 _ _ _ _ _ h
def lp_X6_layRow_16 (p1 : Int32) (p2 : Int32) (post : Int32 → Mem → Prop) : Nat → Int32 → Int32 → Int32 → Int32 → Mem → Prop
  | 0, _, _, _, _, _ => False
  | n + 1, x3, x4, x5, x6, M => ((x6 < 0 → (narrow .boolean (.int x5) = .int x5 ∧ post x5 M)) ∧ (¬ x6 < 0 → (¬ p2 = 0 ∧ (vp_in x6 5 ∧ ∀ M2 : Mem, M2 = up2 M 50 x6.toNatClampNeg (x3 - x3 / p2 * p2) → (¬ p2 = 0 ∧ (∀ v3 : Int32, v3 = x3 / p2 → ((x5 = 0 → jn_X6_layRow_73 p1 p2 post (fun y3 y4 y5 y6 M' => lp_X6_layRow_16 p1 p2 post n y3 y4 y5 y6 M') v3 x4 x6 M2) ∧ (¬ x5 = 0 → (vp_in x6 5 ∧ (((M2 50 x6.toNatClampNeg) = (M2 34 6) → jn_X6_layRow_69 p1 p2 post (fun y3 y4 y5 y6 M' => lp_X6_layRow_16 p1 p2 post n y3 y4 y5 y6 M') v3 x4 x6 M2) ∧ (¬ (M2 50 x6.toNatClampNeg) = (M2 34 6) → (vp_in x6 5 ∧ ((¬ ((x4 >>> ((M2 50 x6.toNatClampNeg) &&& 31)) &&& 1) = 0 → jn_X6_layRow_73 p1 p2 post (fun y3 y4 y5 y6 M' => lp_X6_layRow_16 p1 p2 post n y3 y4 y5 y6 M') v3 x4 x6 M2) ∧ (((x4 >>> ((M2 50 x6.toNatClampNeg) &&& 31)) &&& 1) = 0 → jn_X6_layRow_69 p1 p2 post (fun y3 y4 y5 y6 M' => lp_X6_layRow_16 p1 p2 post n y3 y4 y5 y6 M') v3 x4 x6 M2))))))))))))))
set_option maxRecDepth 100000 in
theorem wl_X6_layRow_16 {X : CT} (p1 : Int32) (p2 : Int32) (hX : okX X RX6 cX6_layRow 0 0) {post : Int32 → Mem → Prop} (hret : ∀ (r : Int32) (M' : Mem), narrow .boolean (.int r) = .int r → post r M' → RetI X cX6_layRow r M') : ∀ (n : Nat) (x3 : Int32) (x4 : Int32) (x5 : Int32) (x6 : Int32) (M : Mem), lp_X6_layRow_16 p1 p2 post n x3 x4 x5 x6 M → Z X M 16 [some (.ref (adX X 34)), none, some (.int p2), some (.int x3), some (.int x4), some (.int x5), some (.int x6)] [] := by
  intro n
  induction n with
  | zero =>
    intro x3 x4 x5 x6 M h
    exact False.elim h
  | succ n ih =>
    intro x3 x4 x5 x6 M h
    unfold lp_X6_layRow_16 at h
    refine r_iload hX dX6_layRow_16 rfl ?_
    refine r_if_lt hX 96 dX6_layRow_18 (by decide) (fun hc => ?_) (fun hc => ?_)
    · have h := h.1 hc
      refine r_iload hX dX6_layRow_96 rfl ?_
      exact r_iret (hret _ _ h.1 h.2) dX6_layRow_98
    · have h := h.2 hc
      refine r_aload_n hX dX6_layRow_21 rfl rfl ?_
      refine r_getR hX fg_X6_60 ly_34 rfl dX6_layRow_22 ?_
      refine r_iload hX dX6_layRow_25 rfl ?_
      refine r_iload_n hX dX6_layRow_27 rfl rfl ?_
      refine r_iload_n hX dX6_layRow_28 rfl rfl ?_
      refine r_irem hX dX6_layRow_29 h.1 ?_
      have h := h.2
      refine r_iast hX ly_50 h.1 dX6_layRow_30 ?_
      refine r_nmM (fun M2 eM2 => ?_)
      have h := h.2 M2 eM2
      refine r_iload_n hX dX6_layRow_31 rfl rfl ?_
      refine r_iload_n hX dX6_layRow_32 rfl rfl ?_
      refine r_idiv hX dX6_layRow_33 h.1 ?_
      have h := h.2
      refine r_nm (fun v3 ev3 => ?_)
      have h := h v3 ev3
      refine r_istore_n (L' := [some (.ref (adX X 34)), none, some (.int p2), some (.int v3), some (.int x4), some (.int x5), some (.int x6)]) hX dX6_layRow_34 rfl (Nat.lt_of_ble rfl) rfl rfl ?_
      refine r_iload hX dX6_layRow_35 rfl ?_
      refine r_if_eq hX 73 dX6_layRow_37 (by decide) (fun hc => ?_) (fun hc => ?_)
      · have h := h.1 hc
        refine r_sub [some (.ref (adX X 34)), none, some (.int p2), some (.int v3), some (.int x4), none, some (.int x6)] (And.intro rfl (And.intro rfl (And.intro rfl (And.intro rfl (And.intro rfl trivial))))) ?_
        exact wj_X6_layRow_73 p1 p2 hX hret (fun y3 y4 y5 y6 M' h' => ih y3 y4 y5 y6 M' h') _ _ _ _ h
      · have h := h.2 hc
        refine r_aload_n hX dX6_layRow_40 rfl rfl ?_
        refine r_getR hX fg_X6_60 ly_34 rfl dX6_layRow_41 ?_
        refine r_iload hX dX6_layRow_44 rfl ?_
        refine r_iald hX ly_50 h.1 dX6_layRow_46 ?_
        have h := h.2
        refine r_aload_n hX dX6_layRow_47 rfl rfl ?_
        refine r_getI hX fg_X6_90 ly_34 rfl dX6_layRow_48 ?_
        refine r_icmp_eq hX 69 dX6_layRow_51 (by decide) (fun hc => ?_) (fun hc => ?_)
        · have h := h.1 hc
          refine r_sub [some (.ref (adX X 34)), none, some (.int p2), some (.int v3), some (.int x4), none, some (.int x6)] (And.intro rfl (And.intro rfl (And.intro rfl (And.intro rfl (And.intro rfl trivial))))) ?_
          exact wj_X6_layRow_69 p1 p2 hX hret (fun y3 y4 y5 y6 M' h' => ih y3 y4 y5 y6 M' h') _ _ _ _ h
        · have h := h.2 hc
          refine r_iload hX dX6_layRow_54 rfl ?_
          refine r_aload_n hX dX6_layRow_56 rfl rfl ?_
          refine r_getR hX fg_X6_60 ly_34 rfl dX6_layRow_57 ?_
          refine r_iload hX dX6_layRow_60 rfl ?_
          refine r_iald hX ly_50 h.1 dX6_layRow_62 ?_
          have h := h.2
          refine r_ishr hX dX6_layRow_63 ?_
          refine r_iconst (v := 1) hX dX6_layRow_64 (by decide) ?_
          refine r_iand hX dX6_layRow_65 ?_
          refine r_if_ne hX 73 dX6_layRow_66 (by decide) (fun hc => ?_) (fun hc => ?_)
          · have h := h.1 hc
            refine r_sub [some (.ref (adX X 34)), none, some (.int p2), some (.int v3), some (.int x4), none, some (.int x6)] (And.intro rfl (And.intro rfl (And.intro rfl (And.intro rfl (And.intro rfl trivial))))) ?_
            exact wj_X6_layRow_73 p1 p2 hX hret (fun y3 y4 y5 y6 M' h' => ih y3 y4 y5 y6 M' h') _ _ _ _ h
          · have h := h.2 hc
            refine r_sub [some (.ref (adX X 34)), none, some (.int p2), some (.int v3), some (.int x4), none, some (.int x6)] (And.intro rfl (And.intro rfl (And.intro rfl (And.intro rfl (And.intro rfl trivial))))) ?_
            exact wj_X6_layRow_69 p1 p2 hX hret (fun y3 y4 y5 y6 M' h' => ih y3 y4 y5 y6 M' h') _ _ _ _ h
def wp_X6_layRow (p1 : Int32) (p2 : Int32) (M : Mem) (post : Int32 → Mem → Prop) : Prop := (∀ v1 : Int32, v1 = (M 34 5) - 1 → (∃ k, lp_X6_layRow_16 p1 p2 post k p1 0 1 v1 M))
set_option maxRecDepth 100000 in
theorem wk_X6_layRow {X : CT} (p1 : Int32) (p2 : Int32) (hX : okX X RX6 cX6_layRow 0 0) {M : Mem} {post : Int32 → Mem → Prop} (hret : ∀ (r : Int32) (M' : Mem), narrow .boolean (.int r) = .int r → post r M' → RetI X cX6_layRow r M') (h : wp_X6_layRow p1 p2 M post) : Z X M 0 [some (.ref (adX X 34)), some (.int p1), some (.int p2), none, none, none, none] [] := by
  unfold wp_X6_layRow at h
  refine r_iload_n hX dX6_layRow_0 rfl rfl ?_
  refine r_istore_n (L' := [some (.ref (adX X 34)), some (.int p1), some (.int p2), some (.int p1), none, none, none]) hX dX6_layRow_1 rfl (Nat.lt_of_ble rfl) rfl rfl ?_
  refine r_iconst (v := 0) hX dX6_layRow_2 (by decide) ?_
  refine r_istore (L' := [some (.ref (adX X 34)), some (.int p1), some (.int p2), some (.int p1), some (.int 0), none, none]) hX dX6_layRow_3 (Nat.lt_of_ble rfl) rfl rfl ?_
  refine r_iconst (v := 1) hX dX6_layRow_5 (by decide) ?_
  refine r_istore (L' := [some (.ref (adX X 34)), some (.int p1), some (.int p2), some (.int p1), some (.int 0), some (.int 1), none]) hX dX6_layRow_6 (Nat.lt_of_ble rfl) rfl rfl ?_
  refine r_aload_n hX dX6_layRow_8 rfl rfl ?_
  refine r_getI hX fg_X6_87 ly_34 rfl dX6_layRow_9 ?_
  refine r_iconst (v := 1) hX dX6_layRow_12 (by decide) ?_
  refine r_isub hX dX6_layRow_13 ?_
  refine r_nm (fun v1 ev1 => ?_)
  have h := h v1 ev1
  refine r_istore (L' := [some (.ref (adX X 34)), some (.int p1), some (.int p2), some (.int p1), some (.int 0), some (.int 1), some (.int v1)]) hX dX6_layRow_14 (Nat.lt_of_ble rfl) rfl rfl ?_
  obtain ⟨n5, h⟩ := h
  refine r_sub [some (.ref (adX X 34)), none, some (.int p2), some (.int p1), some (.int 0), some (.int 1), some (.int v1)] (And.intro rfl (And.intro rfl (And.intro rfl (And.intro rfl (And.intro rfl (And.intro rfl trivial)))))) ?_
  exact wl_X6_layRow_16 p1 p2 hX hret n5 _ _ _ _ _ h
set_option maxRecDepth 100000 in
theorem c_X6_layRow {l : Launch} {D : va_G} {cs : CS3} {ad : Nat → Nat} (p1 : Int32) (p2 : Int32) {M : Mem} {post : Int32 → Mem → Prop} (h : wp_X6_layRow p1 p2 M post) : CtI l D cs ad yX6_layRow cX6_layRow 7 (some .boolean) 0 0 [.ref (ad 34), .int p1, .int p2] M post := met_I (k := 4) (fun ad => [.ref (ad 34), .int p1, .int p2]) (fun ad => [some (.ref (ad 34)), some (.int p1), some (.int p2), none, none, none, none]) (by decide +kernel) (fun _ => Nat.le_of_ble_eq_true rfl) (fun _ => rfl) (fun _ => rfl) (fun X hX hret => wk_X6_layRow p1 p2 hX hret h)
def lp_X6_rowsOf_4 (p1 : Int32) (post : Int32 → Mem → Prop) : Nat → Int32 → Int32 → Mem → Prop
  | 0, _, _, _ => False
  | n + 1, x2, x3, M => (((M 34 5) ≤ x3 → post x2 M) ∧ (¬ (M 34 5) ≤ x3 → (∀ v1 : Int32, v1 = x2 * p1 → lp_X6_rowsOf_4 p1 post n v1 (x3 + 1) M)))
set_option maxRecDepth 100000 in
theorem wl_X6_rowsOf_4 {X : CT} (p1 : Int32) (hX : okX X RX6 cX6_rowsOf 0 0) {post : Int32 → Mem → Prop} (hret : ∀ (r : Int32) (M' : Mem), narrow .int (.int r) = .int r → post r M' → RetI X cX6_rowsOf r M') : ∀ (n : Nat) (x2 : Int32) (x3 : Int32) (M : Mem), lp_X6_rowsOf_4 p1 post n x2 x3 M → Z X M 4 [some (.ref (adX X 34)), some (.int p1), some (.int x2), some (.int x3)] [] := by
  intro n
  induction n with
  | zero =>
    intro x2 x3 M h
    exact False.elim h
  | succ n ih =>
    intro x2 x3 M h
    unfold lp_X6_rowsOf_4 at h
    refine r_iload_n hX dX6_rowsOf_4 rfl rfl ?_
    refine r_aload_n hX dX6_rowsOf_5 rfl rfl ?_
    refine r_getI hX fg_X6_87 ly_34 rfl dX6_rowsOf_6 ?_
    refine r_icmp_ge hX 22 dX6_rowsOf_9 (by decide) (fun hc => ?_) (fun hc => ?_)
    · have h := h.1 hc
      refine r_iload_n hX dX6_rowsOf_22 rfl rfl ?_
      exact r_iret (hret _ _ rfl h) dX6_rowsOf_23
    · have h := h.2 hc
      refine r_iload_n hX dX6_rowsOf_12 rfl rfl ?_
      refine r_iload_n hX dX6_rowsOf_13 rfl rfl ?_
      refine r_imul hX dX6_rowsOf_14 ?_
      refine r_nm (fun v1 ev1 => ?_)
      have h := h v1 ev1
      refine r_istore_n (L' := [some (.ref (adX X 34)), some (.int p1), some (.int v1), some (.int x3)]) hX dX6_rowsOf_15 rfl (Nat.lt_of_ble rfl) rfl rfl ?_
      refine r_iinc (v := x3 + 1) (L' := [some (.ref (adX X 34)), some (.int p1), some (.int v1), some (.int (x3 + 1))]) hX dX6_rowsOf_16 rfl rfl rfl rfl ?_
      refine r_goto hX 4 dX6_rowsOf_19 (by decide) ?_
      refine r_sub [some (.ref (adX X 34)), some (.int p1), some (.int v1), some (.int (x3 + 1))] (And.intro rfl (And.intro rfl (And.intro rfl (And.intro rfl trivial)))) ?_
      exact ih _ _ _ h
def wp_X6_rowsOf (p1 : Int32) (M : Mem) (post : Int32 → Mem → Prop) : Prop := (∃ k, lp_X6_rowsOf_4 p1 post k 1 0 M)
set_option maxRecDepth 100000 in
theorem wk_X6_rowsOf {X : CT} (p1 : Int32) (hX : okX X RX6 cX6_rowsOf 0 0) {M : Mem} {post : Int32 → Mem → Prop} (hret : ∀ (r : Int32) (M' : Mem), narrow .int (.int r) = .int r → post r M' → RetI X cX6_rowsOf r M') (h : wp_X6_rowsOf p1 M post) : Z X M 0 [some (.ref (adX X 34)), some (.int p1), none, none] [] := by
  unfold wp_X6_rowsOf at h
  refine r_iconst (v := 1) hX dX6_rowsOf_0 (by decide) ?_
  refine r_istore_n (L' := [some (.ref (adX X 34)), some (.int p1), some (.int 1), none]) hX dX6_rowsOf_1 rfl (Nat.lt_of_ble rfl) rfl rfl ?_
  refine r_iconst (v := 0) hX dX6_rowsOf_2 (by decide) ?_
  refine r_istore_n (L' := [some (.ref (adX X 34)), some (.int p1), some (.int 1), some (.int 0)]) hX dX6_rowsOf_3 rfl (Nat.lt_of_ble rfl) rfl rfl ?_
  obtain ⟨n2, h⟩ := h
  refine r_sub [some (.ref (adX X 34)), some (.int p1), some (.int 1), some (.int 0)] (And.intro rfl (And.intro rfl (And.intro rfl (And.intro rfl trivial)))) ?_
  exact wl_X6_rowsOf_4 p1 hX hret n2 _ _ _ h
set_option maxRecDepth 100000 in
theorem c_X6_rowsOf {l : Launch} {D : va_G} {cs : CS3} {ad : Nat → Nat} (p1 : Int32) {M : Mem} {post : Int32 → Mem → Prop} (h : wp_X6_rowsOf p1 M post) : CtI l D cs ad yX6_rowsOf cX6_rowsOf 4 (some .int) 0 0 [.ref (ad 34), .int p1] M post := met_I (k := 2) (fun ad => [.ref (ad 34), .int p1]) (fun ad => [some (.ref (ad 34)), some (.int p1), none, none]) (by decide +kernel) (fun _ => Nat.le_of_ble_eq_true rfl) (fun _ => rfl) (fun _ => rfl) (fun X hX hret => wk_X6_rowsOf p1 hX hret h)
def lp_X6_sitBy_4 (post : Int32 → Mem → Prop) : Nat → Int32 → Int32 → Mem → Prop
  | 0, _, _, _ => False
  | n + 1, x1, x2, M => (((M 34 5) ≤ x2 → post x1 M) ∧ (¬ (M 34 5) ≤ x2 → (vp_in x2 5 ∧ (((M 50 x2.toNatClampNeg) = (M 34 6) → lp_X6_sitBy_4 post n x1 (x2 + 1) M) ∧ (¬ (M 50 x2.toNatClampNeg) = (M 34 6) → (vp_in x2 5 ∧ (vp_in x2 5 ∧ ((¬ (((M 48 x2.toNatClampNeg) >>> ((M 50 x2.toNatClampNeg) &&& 31)) &&& 1) = 0 → lp_X6_sitBy_4 post n (x1 + 1) (x2 + 1) M) ∧ ((((M 48 x2.toNatClampNeg) >>> ((M 50 x2.toNatClampNeg) &&& 31)) &&& 1) = 0 → post (-9) M)))))))))
set_option maxRecDepth 100000 in
theorem wl_X6_sitBy_4 {X : CT} (hX : okX X RX6 cX6_sitBy 0 0) {post : Int32 → Mem → Prop} (hret : ∀ (r : Int32) (M' : Mem), narrow .int (.int r) = .int r → post r M' → RetI X cX6_sitBy r M') : ∀ (n : Nat) (x1 : Int32) (x2 : Int32) (M : Mem), lp_X6_sitBy_4 post n x1 x2 M → Z X M 4 [some (.ref (adX X 34)), some (.int x1), some (.int x2)] [] := by
  intro n
  induction n with
  | zero =>
    intro x1 x2 M h
    exact False.elim h
  | succ n ih =>
    intro x1 x2 M h
    unfold lp_X6_sitBy_4 at h
    refine r_iload_n hX dX6_sitBy_4 rfl rfl ?_
    refine r_aload_n hX dX6_sitBy_5 rfl rfl ?_
    refine r_getI hX fg_X6_87 ly_34 rfl dX6_sitBy_6 ?_
    refine r_icmp_ge hX 55 dX6_sitBy_9 (by decide) (fun hc => ?_) (fun hc => ?_)
    · have h := h.1 hc
      refine r_iload_n hX dX6_sitBy_55 rfl rfl ?_
      exact r_iret (hret _ _ rfl h) dX6_sitBy_56
    · have h := h.2 hc
      refine r_aload_n hX dX6_sitBy_12 rfl rfl ?_
      refine r_getR hX fg_X6_60 ly_34 rfl dX6_sitBy_13 ?_
      refine r_iload_n hX dX6_sitBy_16 rfl rfl ?_
      refine r_iald hX ly_50 h.1 dX6_sitBy_17 ?_
      have h := h.2
      refine r_aload_n hX dX6_sitBy_18 rfl rfl ?_
      refine r_getI hX fg_X6_90 ly_34 rfl dX6_sitBy_19 ?_
      refine r_icmp_eq hX 49 dX6_sitBy_22 (by decide) (fun hc => ?_) (fun hc => ?_)
      · have h := h.1 hc
        refine r_iinc (v := x2 + 1) (L' := [some (.ref (adX X 34)), some (.int x1), some (.int (x2 + 1))]) hX dX6_sitBy_49 rfl rfl rfl rfl ?_
        refine r_goto hX 4 dX6_sitBy_52 (by decide) ?_
        refine r_sub [some (.ref (adX X 34)), some (.int x1), some (.int (x2 + 1))] (And.intro rfl (And.intro rfl (And.intro rfl trivial))) ?_
        exact ih _ _ _ h
      · have h := h.2 hc
        refine r_aload_n hX dX6_sitBy_25 rfl rfl ?_
        refine r_getR hX fg_X6_53 ly_34 rfl dX6_sitBy_26 ?_
        refine r_iload_n hX dX6_sitBy_29 rfl rfl ?_
        refine r_iald hX ly_48 h.1 dX6_sitBy_30 ?_
        have h := h.2
        refine r_aload_n hX dX6_sitBy_31 rfl rfl ?_
        refine r_getR hX fg_X6_60 ly_34 rfl dX6_sitBy_32 ?_
        refine r_iload_n hX dX6_sitBy_35 rfl rfl ?_
        refine r_iald hX ly_50 h.1 dX6_sitBy_36 ?_
        have h := h.2
        refine r_ishr hX dX6_sitBy_37 ?_
        refine r_iconst (v := 1) hX dX6_sitBy_38 (by decide) ?_
        refine r_iand hX dX6_sitBy_39 ?_
        refine r_if_ne hX 46 dX6_sitBy_40 (by decide) (fun hc => ?_) (fun hc => ?_)
        · have h := h.1 hc
          refine r_iinc (v := x1 + 1) (L' := [some (.ref (adX X 34)), some (.int (x1 + 1)), some (.int x2)]) hX dX6_sitBy_46 rfl rfl rfl rfl ?_
          refine r_iinc (v := x2 + 1) (L' := [some (.ref (adX X 34)), some (.int (x1 + 1)), some (.int (x2 + 1))]) hX dX6_sitBy_49 rfl rfl rfl rfl ?_
          refine r_goto hX 4 dX6_sitBy_52 (by decide) ?_
          refine r_sub [some (.ref (adX X 34)), some (.int (x1 + 1)), some (.int (x2 + 1))] (And.intro rfl (And.intro rfl (And.intro rfl trivial))) ?_
          exact ih _ _ _ h
        · have h := h.2 hc
          refine r_bipush (v := (-9)) hX dX6_sitBy_43 (by decide) ?_
          exact r_iret (hret _ _ rfl h) dX6_sitBy_45
def wp_X6_sitBy (M : Mem) (post : Int32 → Mem → Prop) : Prop := (∃ k, lp_X6_sitBy_4 post k 0 0 M)
set_option maxRecDepth 100000 in
theorem wk_X6_sitBy {X : CT} (hX : okX X RX6 cX6_sitBy 0 0) {M : Mem} {post : Int32 → Mem → Prop} (hret : ∀ (r : Int32) (M' : Mem), narrow .int (.int r) = .int r → post r M' → RetI X cX6_sitBy r M') (h : wp_X6_sitBy M post) : Z X M 0 [some (.ref (adX X 34)), none, none] [] := by
  unfold wp_X6_sitBy at h
  refine r_iconst (v := 0) hX dX6_sitBy_0 (by decide) ?_
  refine r_istore_n (L' := [some (.ref (adX X 34)), some (.int 0), none]) hX dX6_sitBy_1 rfl (Nat.lt_of_ble rfl) rfl rfl ?_
  refine r_iconst (v := 0) hX dX6_sitBy_2 (by decide) ?_
  refine r_istore_n (L' := [some (.ref (adX X 34)), some (.int 0), some (.int 0)]) hX dX6_sitBy_3 rfl (Nat.lt_of_ble rfl) rfl rfl ?_
  obtain ⟨n1, h⟩ := h
  refine r_sub [some (.ref (adX X 34)), some (.int 0), some (.int 0)] (And.intro rfl (And.intro rfl (And.intro rfl trivial))) ?_
  exact wl_X6_sitBy_4 hX hret n1 _ _ _ h
set_option maxRecDepth 100000 in
theorem c_X6_sitBy {l : Launch} {D : va_G} {cs : CS3} {ad : Nat → Nat} {M : Mem} {post : Int32 → Mem → Prop} (h : wp_X6_sitBy M post) : CtI l D cs ad yX6_sitBy cX6_sitBy 3 (some .int) 0 0 [.ref (ad 34)] M post := met_I (k := 2) (fun ad => [.ref (ad 34)]) (fun ad => [some (.ref (ad 34)), none, none]) (by decide +kernel) (fun _ => Nat.le_of_ble_eq_true rfl) (fun _ => rfl) (fun _ => rfl) (fun X hX hret => wk_X6_sitBy hX hret h)
def lp_X6_keepRow_2 (post : Mem → Prop) : Nat → Int32 → Mem → Prop
  | 0, _, _ => False
  | n + 1, x1, M => (((M 34 5) ≤ x1 → post M) ∧ (¬ (M 34 5) ≤ x1 → (vp_in x1 5 ∧ (vp_in x1 5 ∧ ∀ M1 : Mem, M1 = up2 M 51 x1.toNatClampNeg (M 50 x1.toNatClampNeg) → lp_X6_keepRow_2 post n (x1 + 1) M1))))
set_option maxRecDepth 100000 in
theorem wl_X6_keepRow_2 {X : CT} (hX : okX X RX6 cX6_keepRow 0 0) {post : Mem → Prop} (hret : ∀ (M' : Mem), post M' → RetV X cX6_keepRow M') : ∀ (n : Nat) (x1 : Int32) (M : Mem), lp_X6_keepRow_2 post n x1 M → Z X M 2 [some (.ref (adX X 34)), some (.int x1)] [] := by
  intro n
  induction n with
  | zero =>
    intro x1 M h
    exact False.elim h
  | succ n ih =>
    intro x1 M h
    unfold lp_X6_keepRow_2 at h
    refine r_iload_n hX dX6_keepRow_2 rfl rfl ?_
    refine r_aload_n hX dX6_keepRow_3 rfl rfl ?_
    refine r_getI hX fg_X6_87 ly_34 rfl dX6_keepRow_4 ?_
    refine r_icmp_ge hX 28 dX6_keepRow_7 (by decide) (fun hc => ?_) (fun hc => ?_)
    · have h := h.1 hc
      exact r_vret (hret _ h) dX6_keepRow_28
    · have h := h.2 hc
      refine r_aload_n hX dX6_keepRow_10 rfl rfl ?_
      refine r_getR hX fg_X6_63 ly_34 rfl dX6_keepRow_11 ?_
      refine r_iload_n hX dX6_keepRow_14 rfl rfl ?_
      refine r_aload_n hX dX6_keepRow_15 rfl rfl ?_
      refine r_getR hX fg_X6_60 ly_34 rfl dX6_keepRow_16 ?_
      refine r_iload_n hX dX6_keepRow_19 rfl rfl ?_
      refine r_iald hX ly_50 h.1 dX6_keepRow_20 ?_
      have h := h.2
      refine r_iast hX ly_51 h.1 dX6_keepRow_21 ?_
      refine r_nmM (fun M1 eM1 => ?_)
      have h := h.2 M1 eM1
      refine r_iinc (v := x1 + 1) (L' := [some (.ref (adX X 34)), some (.int (x1 + 1))]) hX dX6_keepRow_22 rfl rfl rfl rfl ?_
      refine r_goto hX 2 dX6_keepRow_25 (by decide) ?_
      refine r_sub [some (.ref (adX X 34)), some (.int (x1 + 1))] (And.intro rfl (And.intro rfl trivial)) ?_
      exact ih _ _ h
def wp_X6_keepRow (M : Mem) (post : Mem → Prop) : Prop := (∃ k, lp_X6_keepRow_2 post k 0 M)
set_option maxRecDepth 100000 in
theorem wk_X6_keepRow {X : CT} (hX : okX X RX6 cX6_keepRow 0 0) {M : Mem} {post : Mem → Prop} (hret : ∀ (M' : Mem), post M' → RetV X cX6_keepRow M') (h : wp_X6_keepRow M post) : Z X M 0 [some (.ref (adX X 34)), none] [] := by
  unfold wp_X6_keepRow at h
  refine r_iconst (v := 0) hX dX6_keepRow_0 (by decide) ?_
  refine r_istore_n (L' := [some (.ref (adX X 34)), some (.int 0)]) hX dX6_keepRow_1 rfl (Nat.lt_of_ble rfl) rfl rfl ?_
  obtain ⟨n2, h⟩ := h
  refine r_sub [some (.ref (adX X 34)), some (.int 0)] (And.intro rfl (And.intro rfl trivial)) ?_
  exact wl_X6_keepRow_2 hX hret n2 _ _ h
set_option maxRecDepth 100000 in
theorem c_X6_keepRow {l : Launch} {D : va_G} {cs : CS3} {ad : Nat → Nat} {M : Mem} {post : Mem → Prop} (h : wp_X6_keepRow M post) : CtV l D cs ad yX6_keepRow cX6_keepRow 2 none 0 0 [.ref (ad 34)] M post := met_V (k := 1) (fun ad => [.ref (ad 34)]) (fun ad => [some (.ref (ad 34)), none]) (by decide +kernel) (fun _ => Nat.le_of_ble_eq_true rfl) (fun _ => rfl) (fun _ => rfl) (fun X hX hret => wk_X6_keepRow hX hret h)
def wp_X6_isOneOr (p1 : Int32) (M : Mem) (post : Int32 → Mem → Prop) : Prop := ((p1 = (-1) → post 1 M) ∧ (¬ p1 = (-1) → (wp_X6_isGuest p1 M (fun r1 M2 => ((r1 = 0 → post 0 M2) ∧ (¬ r1 = 0 → post 1 M2))))))
set_option maxRecDepth 100000 in
theorem wk_X6_isOneOr {X : CT} (p1 : Int32) (hX : okX X RX6 cX6_isOneOr 1 21) {M : Mem} {post : Int32 → Mem → Prop} (hret : ∀ (r : Int32) (M' : Mem), narrow .boolean (.int r) = .int r → post r M' → RetI X cX6_isOneOr r M') (h : wp_X6_isOneOr p1 M post) : Z X M 0 [some (.ref (adX X 34)), some (.int p1)] [] := by
  unfold wp_X6_isOneOr at h
  refine r_iload_n hX dX6_isOneOr_0 rfl rfl ?_
  refine r_iconst (v := (-1)) hX dX6_isOneOr_1 (by decide) ?_
  refine r_icmp_eq hX 13 dX6_isOneOr_2 (by decide) (fun hc => ?_) (fun hc => ?_)
  · have h := h.1 hc
    refine r_iconst (v := 1) hX dX6_isOneOr_13 (by decide) ?_
    refine r_goto hX 18 dX6_isOneOr_14 (by decide) ?_
    exact r_iret (hret _ _ rfl h) dX6_isOneOr_18
  · have h := h.2 hc
    refine r_aload_n hX dX6_isOneOr_5 rfl rfl ?_
    refine r_iload_n hX dX6_isOneOr_6 rfl rfl ?_
    refine r_cVi1 hX fv_X6_143 ly_34 rfl ⟨Nat.le_of_ble_eq_true rfl, Nat.le_of_ble_eq_true rfl⟩ (c_X6_isGuest p1 h) (Nat.le_of_ble_eq_true rfl) dX6_isOneOr_7 (fun r1 M2 h => ?_)
    refine r_if_eq hX 17 dX6_isOneOr_10 (by decide) (fun hc => ?_) (fun hc => ?_)
    · have h := h.1 hc
      refine r_iconst (v := 0) hX dX6_isOneOr_17 (by decide) ?_
      exact r_iret (hret _ _ rfl h) dX6_isOneOr_18
    · have h := h.2 hc
      refine r_iconst (v := 1) hX dX6_isOneOr_13 (by decide) ?_
      refine r_goto hX 18 dX6_isOneOr_14 (by decide) ?_
      exact r_iret (hret _ _ rfl h) dX6_isOneOr_18
set_option maxRecDepth 100000 in
theorem c_X6_isOneOr {l : Launch} {D : va_G} {cs : CS3} {ad : Nat → Nat} (p1 : Int32) {M : Mem} {post : Int32 → Mem → Prop} (h : wp_X6_isOneOr p1 M post) : CtI l D cs ad yX6_isOneOr cX6_isOneOr 2 (some .boolean) 1 21 [.ref (ad 34), .int p1] M post := met_I (k := 0) (fun ad => [.ref (ad 34), .int p1]) (fun ad => [some (.ref (ad 34)), some (.int p1)]) (by decide +kernel) (fun _ => Nat.le_of_ble_eq_true rfl) (fun _ => rfl) (fun _ => rfl) (fun X hX hret => wk_X6_isOneOr p1 hX hret h)
def jn_X6_seats_80 (p1 : Int32) (p2 : Int32) (post : Int32 → Mem → Prop) (B_41 : Int32 → Int32 → Mem → Prop) (x3 : Int32) (x4 : Int32) (s0 : Int32) (M : Mem) : Prop := ((s0 ≤ x3 → B_41 x3 (x4 + 1) M) ∧ (¬ s0 ≤ x3 → (wp_X6_keepRow M (fun M12 => B_41 s0 (x4 + 1) M12))))
set_option maxRecDepth 100000 in
theorem wj_X6_seats_80 {X : CT} (p1 : Int32) (p2 : Int32) (hX : okX X RX6 cX6_seats 4 98) {post : Int32 → Mem → Prop} (hret : ∀ (r : Int32) (M' : Mem), narrow .int (.int r) = .int r → post r M' → RetI X cX6_seats r M') {B_41 : Int32 → Int32 → Mem → Prop} (hB_41 : ∀ (x3 : Int32) (x4 : Int32) (M : Mem), B_41 x3 x4 M → Z X M 41 [some (.ref (adX X 34)), none, some (.int p2), some (.int x3), some (.int x4), none] []) (x3 : Int32) (x4 : Int32) (s0 : Int32) (M : Mem) (h : jn_X6_seats_80 p1 p2 post B_41 x3 x4 s0 M) : Z X M 80 [some (.ref (adX X 34)), none, some (.int p2), some (.int x3), some (.int x4), none] [.int s0] := by
  unfold jn_X6_seats_80 at h
  refine r_istore (L' := [some (.ref (adX X 34)), none, some (.int p2), some (.int x3), some (.int x4), some (.int s0)]) hX dX6_seats_80 (Nat.lt_of_ble rfl) rfl rfl ?_
  refine r_iload hX dX6_seats_82 rfl ?_
  refine r_iload_n hX dX6_seats_84 rfl rfl ?_
  refine r_icmp_le hX 95 dX6_seats_85 (by decide) (fun hc => ?_) (fun hc => ?_)
  · have h := h.1 hc
    refine r_iinc (v := x4 + 1) (L' := [some (.ref (adX X 34)), none, some (.int p2), some (.int x3), some (.int (x4 + 1)), some (.int s0)]) hX dX6_seats_95 rfl rfl rfl rfl ?_
    refine r_goto hX 41 dX6_seats_98 (by decide) ?_
    refine r_sub [some (.ref (adX X 34)), none, some (.int p2), some (.int x3), some (.int (x4 + 1)), none] (And.intro rfl (And.intro rfl (And.intro rfl (And.intro rfl trivial)))) ?_
    exact hB_41 _ _ _ h
  · have h := h.2 hc
    refine r_iload hX dX6_seats_88 rfl ?_
    refine r_istore_n (L' := [some (.ref (adX X 34)), none, some (.int p2), some (.int s0), some (.int x4), some (.int s0)]) hX dX6_seats_90 rfl (Nat.lt_of_ble rfl) rfl rfl ?_
    refine r_aload_n hX dX6_seats_91 rfl rfl ?_
    refine r_cVv0 hX fv_X6_184 ly_34 rfl ⟨Nat.le_of_ble_eq_true rfl, Nat.le_of_ble_eq_true rfl⟩ (c_X6_keepRow h) (Nat.le_of_ble_eq_true rfl) dX6_seats_92 (fun M12 h => ?_)
    refine r_iinc (v := x4 + 1) (L' := [some (.ref (adX X 34)), none, some (.int p2), some (.int s0), some (.int (x4 + 1)), some (.int s0)]) hX dX6_seats_95 rfl rfl rfl rfl ?_
    refine r_goto hX 41 dX6_seats_98 (by decide) ?_
    refine r_sub [some (.ref (adX X 34)), none, some (.int p2), some (.int s0), some (.int (x4 + 1)), none] (And.intro rfl (And.intro rfl (And.intro rfl (And.intro rfl trivial)))) ?_
    exact hB_41 _ _ _ h
def lp_X6_seats_41 (p1 : Int32) (p2 : Int32) (post : Int32 → Mem → Prop) : Nat → Int32 → Int32 → Mem → Prop
  | 0, _, _, _ => False
  | n + 1, x3, x4, M => (wp_X6_rowsOf ((M 34 6) + 1) M (fun r7 M8 => ((r7 ≤ x4 → ((¬ p2 = (-1) → (vp_in p2 5 ∧ ((¬ (M8 51 p2.toNatClampNeg) = (M8 34 6) → (vp_in p2 5 ∧ post (M8 51 p2.toNatClampNeg) M8)) ∧ ((M8 51 p2.toNatClampNeg) = (M8 34 6) → post (-9) M8)))) ∧ (p2 = (-1) → post x3 M8))) ∧ (¬ r7 ≤ x4 → (wp_X6_layRow x4 ((M8 34 6) + 1) M8 (fun r9 M10 => ((r9 = 0 → jn_X6_seats_80 p1 p2 post (fun y3 y4 M' => lp_X6_seats_41 p1 p2 post n y3 y4 M') x3 x4 (-9) M10) ∧ (¬ r9 = 0 → (wp_X6_sitBy M10 (fun r13 M14 => jn_X6_seats_80 p1 p2 post (fun y3 y4 M' => lp_X6_seats_41 p1 p2 post n y3 y4 M') x3 x4 r13 M14))))))))))
set_option maxRecDepth 100000 in
theorem wl_X6_seats_41 {X : CT} (p1 : Int32) (p2 : Int32) (hX : okX X RX6 cX6_seats 4 98) {post : Int32 → Mem → Prop} (hret : ∀ (r : Int32) (M' : Mem), narrow .int (.int r) = .int r → post r M' → RetI X cX6_seats r M') : ∀ (n : Nat) (x3 : Int32) (x4 : Int32) (M : Mem), lp_X6_seats_41 p1 p2 post n x3 x4 M → Z X M 41 [some (.ref (adX X 34)), none, some (.int p2), some (.int x3), some (.int x4), none] [] := by
  intro n
  induction n with
  | zero =>
    intro x3 x4 M h
    exact False.elim h
  | succ n ih =>
    intro x3 x4 M h
    unfold lp_X6_seats_41 at h
    refine r_iload hX dX6_seats_41 rfl ?_
    refine r_aload_n hX dX6_seats_43 rfl rfl ?_
    refine r_aload_n hX dX6_seats_44 rfl rfl ?_
    refine r_getI hX fg_X6_90 ly_34 rfl dX6_seats_45 ?_
    refine r_iconst (v := 1) hX dX6_seats_48 (by decide) ?_
    refine r_iadd hX dX6_seats_49 ?_
    refine r_cVi1 hX fv_X6_174 ly_34 rfl ⟨Nat.le_of_ble_eq_true rfl, Nat.le_of_ble_eq_true rfl⟩ (c_X6_rowsOf ((M 34 6) + 1) h) (Nat.le_of_ble_eq_true rfl) dX6_seats_50 (fun r7 M8 h => ?_)
    refine r_icmp_ge hX 101 dX6_seats_53 (by decide) (fun hc => ?_) (fun hc => ?_)
    · have h := h.1 hc
      refine r_iload_n hX dX6_seats_101 rfl rfl ?_
      refine r_iconst (v := (-1)) hX dX6_seats_102 (by decide) ?_
      refine r_icmp_ne hX 110 dX6_seats_103 (by decide) (fun hc => ?_) (fun hc => ?_)
      · have h := h.1 hc
        refine r_aload_n hX dX6_seats_110 rfl rfl ?_
        refine r_getR hX fg_X6_63 ly_34 rfl dX6_seats_111 ?_
        refine r_iload_n hX dX6_seats_114 rfl rfl ?_
        refine r_iald hX ly_51 h.1 dX6_seats_115 ?_
        have h := h.2
        refine r_aload_n hX dX6_seats_116 rfl rfl ?_
        refine r_getI hX fg_X6_90 ly_34 rfl dX6_seats_117 ?_
        refine r_icmp_ne hX 128 dX6_seats_120 (by decide) (fun hc => ?_) (fun hc => ?_)
        · have h := h.1 hc
          refine r_aload_n hX dX6_seats_128 rfl rfl ?_
          refine r_getR hX fg_X6_63 ly_34 rfl dX6_seats_129 ?_
          refine r_iload_n hX dX6_seats_132 rfl rfl ?_
          refine r_iald hX ly_51 h.1 dX6_seats_133 ?_
          have h := h.2
          exact r_iret (hret _ _ rfl h) dX6_seats_134
        · have h := h.2 hc
          refine r_bipush (v := (-9)) hX dX6_seats_123 (by decide) ?_
          refine r_goto hX 134 dX6_seats_125 (by decide) ?_
          exact r_iret (hret _ _ rfl h) dX6_seats_134
      · have h := h.2 hc
        refine r_iload_n hX dX6_seats_106 rfl rfl ?_
        refine r_goto hX 134 dX6_seats_107 (by decide) ?_
        exact r_iret (hret _ _ rfl h) dX6_seats_134
    · have h := h.2 hc
      refine r_aload_n hX dX6_seats_56 rfl rfl ?_
      refine r_iload hX dX6_seats_57 rfl ?_
      refine r_aload_n hX dX6_seats_59 rfl rfl ?_
      refine r_getI hX fg_X6_90 ly_34 rfl dX6_seats_60 ?_
      refine r_iconst (v := 1) hX dX6_seats_63 (by decide) ?_
      refine r_iadd hX dX6_seats_64 ?_
      refine r_cVi2 hX fv_X6_177 ly_34 rfl ⟨Nat.le_of_ble_eq_true rfl, Nat.le_of_ble_eq_true rfl⟩ (c_X6_layRow x4 ((M8 34 6) + 1) h) (Nat.le_of_ble_eq_true rfl) dX6_seats_65 (fun r9 M10 h => ?_)
      refine r_if_eq hX 78 dX6_seats_68 (by decide) (fun hc => ?_) (fun hc => ?_)
      · have h := h.1 hc
        refine r_bipush (v := (-9)) hX dX6_seats_78 (by decide) ?_
        refine r_sub [some (.ref (adX X 34)), none, some (.int p2), some (.int x3), some (.int x4), none] (And.intro rfl (And.intro rfl (And.intro rfl (And.intro rfl trivial)))) ?_
        exact wj_X6_seats_80 p1 p2 hX hret (fun y3 y4 M' h' => ih y3 y4 M' h') _ _ _ _ h
      · have h := h.2 hc
        refine r_aload_n hX dX6_seats_71 rfl rfl ?_
        refine r_cVi0 hX fv_X6_180 ly_34 rfl ⟨Nat.le_of_ble_eq_true rfl, Nat.le_of_ble_eq_true rfl⟩ (c_X6_sitBy h) (Nat.le_of_ble_eq_true rfl) dX6_seats_72 (fun r13 M14 h => ?_)
        refine r_goto hX 80 dX6_seats_75 (by decide) ?_
        refine r_sub [some (.ref (adX X 34)), none, some (.int p2), some (.int x3), some (.int x4), none] (And.intro rfl (And.intro rfl (And.intro rfl (And.intro rfl trivial)))) ?_
        exact wj_X6_seats_80 p1 p2 hX hret (fun y3 y4 M' h' => ih y3 y4 M' h') _ _ _ _ h
def wp_X6_seats (p1 : Int32) (p2 : Int32) (M : Mem) (post : Int32 → Mem → Prop) : Prop := (wp_X6_isOneOr p2 M (fun r1 M2 => ((¬ r1 = 0 → (wp_X6_isDinner p1 M2 (fun r3 M4 => ((¬ r3 = 0 → ((¬ (M4 34 6) = 0 → (wp_X6_layDinner p1 M4 (fun M6 => (∃ k, lp_X6_seats_41 p1 p2 post k (-9) 0 M6)))) ∧ ((M4 34 6) = 0 → post (-3) M4))) ∧ (r3 = 0 → post (-2) M4))))) ∧ (r1 = 0 → post (-1) M2))))
set_option maxRecDepth 100000 in
theorem wk_X6_seats {X : CT} (p1 : Int32) (p2 : Int32) (hX : okX X RX6 cX6_seats 4 98) {M : Mem} {post : Int32 → Mem → Prop} (hret : ∀ (r : Int32) (M' : Mem), narrow .int (.int r) = .int r → post r M' → RetI X cX6_seats r M') (h : wp_X6_seats p1 p2 M post) : Z X M 0 [some (.ref (adX X 34)), some (.int p1), some (.int p2), none, none, none] [] := by
  unfold wp_X6_seats at h
  refine r_aload_n hX dX6_seats_0 rfl rfl ?_
  refine r_iload_n hX dX6_seats_1 rfl rfl ?_
  refine r_cVi1 hX fv_X6_167 ly_34 rfl ⟨Nat.le_of_ble_eq_true rfl, Nat.le_of_ble_eq_true rfl⟩ (c_X6_isOneOr p2 h) (Nat.le_of_ble_eq_true rfl) dX6_seats_2 (fun r1 M2 h => ?_)
  refine r_if_ne hX 10 dX6_seats_5 (by decide) (fun hc => ?_) (fun hc => ?_)
  · have h := h.1 hc
    refine r_iload_n hX dX6_seats_10 rfl rfl ?_
    refine r_cSi1 hX fs_X6_146 ⟨Nat.le_of_ble_eq_true rfl, Nat.le_of_ble_eq_true rfl⟩ (c_X6_isDinner p1 h) (Nat.le_of_ble_eq_true rfl) dX6_seats_11 (fun r3 M4 h => ?_)
    refine r_if_ne hX 20 dX6_seats_14 (by decide) (fun hc => ?_) (fun hc => ?_)
    · have h := h.1 hc
      refine r_aload_n hX dX6_seats_20 rfl rfl ?_
      refine r_getI hX fg_X6_90 ly_34 rfl dX6_seats_21 ?_
      refine r_if_ne hX 30 dX6_seats_24 (by decide) (fun hc => ?_) (fun hc => ?_)
      · have h := h.1 hc
        refine r_aload_n hX dX6_seats_30 rfl rfl ?_
        refine r_iload_n hX dX6_seats_31 rfl rfl ?_
        refine r_cVv1 hX fv_X6_170 ly_34 rfl ⟨Nat.le_of_ble_eq_true rfl, Nat.le_of_ble_eq_true rfl⟩ (c_X6_layDinner p1 h) (Nat.le_of_ble_eq_true rfl) dX6_seats_32 (fun M6 h => ?_)
        refine r_bipush (v := (-9)) hX dX6_seats_35 (by decide) ?_
        refine r_istore_n (L' := [some (.ref (adX X 34)), some (.int p1), some (.int p2), some (.int (-9)), none, none]) hX dX6_seats_37 rfl (Nat.lt_of_ble rfl) rfl rfl ?_
        refine r_iconst (v := 0) hX dX6_seats_38 (by decide) ?_
        refine r_istore (L' := [some (.ref (adX X 34)), some (.int p1), some (.int p2), some (.int (-9)), some (.int 0), none]) hX dX6_seats_39 (Nat.lt_of_ble rfl) rfl rfl ?_
        obtain ⟨n15, h⟩ := h
        refine r_sub [some (.ref (adX X 34)), none, some (.int p2), some (.int (-9)), some (.int 0), none] (And.intro rfl (And.intro rfl (And.intro rfl (And.intro rfl trivial)))) ?_
        exact wl_X6_seats_41 p1 p2 hX hret n15 _ _ _ h
      · have h := h.2 hc
        refine r_bipush (v := (-3)) hX dX6_seats_27 (by decide) ?_
        exact r_iret (hret _ _ rfl h) dX6_seats_29
    · have h := h.2 hc
      refine r_bipush (v := (-2)) hX dX6_seats_17 (by decide) ?_
      exact r_iret (hret _ _ rfl h) dX6_seats_19
  · have h := h.2 hc
    refine r_iconst (v := (-1)) hX dX6_seats_8 (by decide) ?_
    exact r_iret (hret _ _ rfl h) dX6_seats_9
set_option maxRecDepth 100000 in
theorem c_X6_seats {l : Launch} {D : va_G} {cs : CS3} {ad : Nat → Nat} (p1 : Int32) (p2 : Int32) {M : Mem} {post : Int32 → Mem → Prop} (h : wp_X6_seats p1 p2 M post) : CtI l D cs ad yX6_seats cX6_seats 6 (some .int) 4 98 [.ref (ad 34), .int p1, .int p2] M post := met_I (k := 3) (fun ad => [.ref (ad 34), .int p1, .int p2]) (fun ad => [some (.ref (ad 34)), some (.int p1), some (.int p2), none, none, none]) (by decide +kernel) (fun _ => Nat.le_of_ble_eq_true rfl) (fun _ => rfl) (fun _ => rfl) (fun X hX hret => wk_X6_seats p1 p2 hX hret h)
def lp_X6_few_46 (p1 : Int32) (post : Int32 → Mem → Prop) (B_30 : Int32 → Int32 → Mem → Prop) : Nat → Int32 → Int32 → Int32 → Int32 → Mem → Prop
  | 0, _, _, _, _, _ => False
  | n + 1, x2, x3, x4, x5, M => (((M 34 5) ≤ x5 → (wp_X6_size x4 M (fun r5 M6 => (wp_X6_size x3 M6 (fun r7 M8 => ((r7 ≤ r5 → B_30 x2 (x3 + 1) M8) ∧ (¬ r7 ≤ r5 → ((x2 = (-9) → B_30 x3 (x3 + 1) M8) ∧ (¬ x2 = (-9) → (wp_X6_size x3 M8 (fun r9 M10 => (wp_X6_size x2 M10 (fun r11 M12 => ((r11 ≤ r9 → B_30 x2 (x3 + 1) M12) ∧ (¬ r11 ≤ r9 → B_30 x3 (x3 + 1) M12))))))))))))))) ∧ (¬ (M 34 5) ≤ x5 → ((¬ ((x3 >>> (x5 &&& 31)) &&& 1) = 1 → (∀ v13 : Int32, v13 = x4 ||| 0 → lp_X6_few_46 p1 post B_30 n x2 x3 v13 (x5 + 1) M)) ∧ (((x3 >>> (x5 &&& 31)) &&& 1) = 1 → (vp_in x5 5 ∧ (∀ v14 : Int32, v14 = x4 ||| (M 48 x5.toNatClampNeg) → lp_X6_few_46 p1 post B_30 n x2 x3 v14 (x5 + 1) M))))))
set_option maxRecDepth 100000 in
theorem wl_X6_few_46 {X : CT} (p1 : Int32) (hX : okX X RX6 cX6_few 4 98) {post : Int32 → Mem → Prop} (hret : ∀ (r : Int32) (M' : Mem), narrow .int (.int r) = .int r → post r M' → RetI X cX6_few r M') {B_30 : Int32 → Int32 → Mem → Prop} (hB_30 : ∀ (x2 : Int32) (x3 : Int32) (M : Mem), B_30 x2 x3 M → Z X M 30 [some (.ref (adX X 34)), none, some (.int x2), some (.int x3), none, none] []) : ∀ (n : Nat) (x2 : Int32) (x3 : Int32) (x4 : Int32) (x5 : Int32) (M : Mem), lp_X6_few_46 p1 post B_30 n x2 x3 x4 x5 M → Z X M 46 [some (.ref (adX X 34)), none, some (.int x2), some (.int x3), some (.int x4), some (.int x5)] [] := by
  intro n
  induction n with
  | zero =>
    intro x2 x3 x4 x5 M h
    exact False.elim h
  | succ n ih =>
    intro x2 x3 x4 x5 M h
    unfold lp_X6_few_46 at h
    refine r_iload hX dX6_few_46 rfl ?_
    refine r_aload_n hX dX6_few_48 rfl rfl ?_
    refine r_getI hX fg_X6_87 ly_34 rfl dX6_few_49 ?_
    refine r_icmp_ge hX 87 dX6_few_52 (by decide) (fun hc => ?_) (fun hc => ?_)
    · have h := h.1 hc
      refine r_iload hX dX6_few_87 rfl ?_
      refine r_cSi1 hX fs_X6_164 ⟨Nat.le_of_ble_eq_true rfl, Nat.le_of_ble_eq_true rfl⟩ (c_X6_size x4 h) (Nat.le_of_ble_eq_true rfl) dX6_few_89 (fun r5 M6 h => ?_)
      refine r_iload_n hX dX6_few_92 rfl rfl ?_
      refine r_cSi1 hX fs_X6_164 ⟨Nat.le_of_ble_eq_true rfl, Nat.le_of_ble_eq_true rfl⟩ (c_X6_size x3 h) (Nat.le_of_ble_eq_true rfl) dX6_few_93 (fun r7 M8 h => ?_)
      refine r_icmp_ge hX 118 dX6_few_96 (by decide) (fun hc => ?_) (fun hc => ?_)
      · have h := h.1 hc
        refine r_iinc (v := x3 + 1) (L' := [some (.ref (adX X 34)), none, some (.int x2), some (.int (x3 + 1)), some (.int x4), some (.int x5)]) hX dX6_few_118 rfl rfl rfl rfl ?_
        refine r_goto hX 30 dX6_few_121 (by decide) ?_
        refine r_sub [some (.ref (adX X 34)), none, some (.int x2), some (.int (x3 + 1)), none, none] (And.intro rfl (And.intro rfl (And.intro rfl trivial))) ?_
        exact hB_30 _ _ _ h
      · have h := h.2 hc
        refine r_iload_n hX dX6_few_99 rfl rfl ?_
        refine r_bipush (v := (-9)) hX dX6_few_100 (by decide) ?_
        refine r_icmp_eq hX 116 dX6_few_102 (by decide) (fun hc => ?_) (fun hc => ?_)
        · have h := h.1 hc
          refine r_iload_n hX dX6_few_116 rfl rfl ?_
          refine r_istore_n (L' := [some (.ref (adX X 34)), none, some (.int x3), some (.int x3), some (.int x4), some (.int x5)]) hX dX6_few_117 rfl (Nat.lt_of_ble rfl) rfl rfl ?_
          refine r_iinc (v := x3 + 1) (L' := [some (.ref (adX X 34)), none, some (.int x3), some (.int (x3 + 1)), some (.int x4), some (.int x5)]) hX dX6_few_118 rfl rfl rfl rfl ?_
          refine r_goto hX 30 dX6_few_121 (by decide) ?_
          refine r_sub [some (.ref (adX X 34)), none, some (.int x3), some (.int (x3 + 1)), none, none] (And.intro rfl (And.intro rfl (And.intro rfl trivial))) ?_
          exact hB_30 _ _ _ h
        · have h := h.2 hc
          refine r_iload_n hX dX6_few_105 rfl rfl ?_
          refine r_cSi1 hX fs_X6_164 ⟨Nat.le_of_ble_eq_true rfl, Nat.le_of_ble_eq_true rfl⟩ (c_X6_size x3 h) (Nat.le_of_ble_eq_true rfl) dX6_few_106 (fun r9 M10 h => ?_)
          refine r_iload_n hX dX6_few_109 rfl rfl ?_
          refine r_cSi1 hX fs_X6_164 ⟨Nat.le_of_ble_eq_true rfl, Nat.le_of_ble_eq_true rfl⟩ (c_X6_size x2 h) (Nat.le_of_ble_eq_true rfl) dX6_few_110 (fun r11 M12 h => ?_)
          refine r_icmp_ge hX 118 dX6_few_113 (by decide) (fun hc => ?_) (fun hc => ?_)
          · have h := h.1 hc
            refine r_iinc (v := x3 + 1) (L' := [some (.ref (adX X 34)), none, some (.int x2), some (.int (x3 + 1)), some (.int x4), some (.int x5)]) hX dX6_few_118 rfl rfl rfl rfl ?_
            refine r_goto hX 30 dX6_few_121 (by decide) ?_
            refine r_sub [some (.ref (adX X 34)), none, some (.int x2), some (.int (x3 + 1)), none, none] (And.intro rfl (And.intro rfl (And.intro rfl trivial))) ?_
            exact hB_30 _ _ _ h
          · have h := h.2 hc
            refine r_iload_n hX dX6_few_116 rfl rfl ?_
            refine r_istore_n (L' := [some (.ref (adX X 34)), none, some (.int x3), some (.int x3), some (.int x4), some (.int x5)]) hX dX6_few_117 rfl (Nat.lt_of_ble rfl) rfl rfl ?_
            refine r_iinc (v := x3 + 1) (L' := [some (.ref (adX X 34)), none, some (.int x3), some (.int (x3 + 1)), some (.int x4), some (.int x5)]) hX dX6_few_118 rfl rfl rfl rfl ?_
            refine r_goto hX 30 dX6_few_121 (by decide) ?_
            refine r_sub [some (.ref (adX X 34)), none, some (.int x3), some (.int (x3 + 1)), none, none] (And.intro rfl (And.intro rfl (And.intro rfl trivial))) ?_
            exact hB_30 _ _ _ h
    · have h := h.2 hc
      refine r_iload hX dX6_few_55 rfl ?_
      refine r_iload_n hX dX6_few_57 rfl rfl ?_
      refine r_iload hX dX6_few_58 rfl ?_
      refine r_ishr hX dX6_few_60 ?_
      refine r_iconst (v := 1) hX dX6_few_61 (by decide) ?_
      refine r_iand hX dX6_few_62 ?_
      refine r_iconst (v := 1) hX dX6_few_63 (by decide) ?_
      refine r_icmp_ne hX 77 dX6_few_64 (by decide) (fun hc => ?_) (fun hc => ?_)
      · have h := h.1 hc
        refine r_iconst (v := 0) hX dX6_few_77 (by decide) ?_
        refine r_ior hX dX6_few_78 ?_
        refine r_nm (fun v13 ev13 => ?_)
        have h := h v13 ev13
        refine r_istore (L' := [some (.ref (adX X 34)), none, some (.int x2), some (.int x3), some (.int v13), some (.int x5)]) hX dX6_few_79 (Nat.lt_of_ble rfl) rfl rfl ?_
        refine r_iinc (v := x5 + 1) (L' := [some (.ref (adX X 34)), none, some (.int x2), some (.int x3), some (.int v13), some (.int (x5 + 1))]) hX dX6_few_81 rfl rfl rfl rfl ?_
        refine r_goto hX 46 dX6_few_84 (by decide) ?_
        refine r_sub [some (.ref (adX X 34)), none, some (.int x2), some (.int x3), some (.int v13), some (.int (x5 + 1))] (And.intro rfl (And.intro rfl (And.intro rfl (And.intro rfl (And.intro rfl trivial))))) ?_
        exact ih _ _ _ _ _ h
      · have h := h.2 hc
        refine r_aload_n hX dX6_few_67 rfl rfl ?_
        refine r_getR hX fg_X6_53 ly_34 rfl dX6_few_68 ?_
        refine r_iload hX dX6_few_71 rfl ?_
        refine r_iald hX ly_48 h.1 dX6_few_73 ?_
        have h := h.2
        refine r_goto hX 78 dX6_few_74 (by decide) ?_
        refine r_ior hX dX6_few_78 ?_
        refine r_nm (fun v14 ev14 => ?_)
        have h := h v14 ev14
        refine r_istore (L' := [some (.ref (adX X 34)), none, some (.int x2), some (.int x3), some (.int v14), some (.int x5)]) hX dX6_few_79 (Nat.lt_of_ble rfl) rfl rfl ?_
        refine r_iinc (v := x5 + 1) (L' := [some (.ref (adX X 34)), none, some (.int x2), some (.int x3), some (.int v14), some (.int (x5 + 1))]) hX dX6_few_81 rfl rfl rfl rfl ?_
        refine r_goto hX 46 dX6_few_84 (by decide) ?_
        refine r_sub [some (.ref (adX X 34)), none, some (.int x2), some (.int x3), some (.int v14), some (.int (x5 + 1))] (And.intro rfl (And.intro rfl (And.intro rfl (And.intro rfl (And.intro rfl trivial))))) ?_
        exact ih _ _ _ _ _ h
def lp_X6_few_30 (p1 : Int32) (post : Int32 → Mem → Prop) : Nat → Int32 → Int32 → Mem → Prop
  | 0, _, _, _ => False
  | n + 1, x2, x3, M => (((1 <<< ((M 34 5) &&& 31)) ≤ x3 → post x2 M) ∧ (¬ (1 <<< ((M 34 5) &&& 31)) ≤ x3 → (∃ k, lp_X6_few_46 p1 post (fun y2 y3 M' => lp_X6_few_30 p1 post n y2 y3 M') k x2 x3 0 0 M)))
set_option maxRecDepth 100000 in
theorem wl_X6_few_30 {X : CT} (p1 : Int32) (hX : okX X RX6 cX6_few 4 98) {post : Int32 → Mem → Prop} (hret : ∀ (r : Int32) (M' : Mem), narrow .int (.int r) = .int r → post r M' → RetI X cX6_few r M') : ∀ (n : Nat) (x2 : Int32) (x3 : Int32) (M : Mem), lp_X6_few_30 p1 post n x2 x3 M → Z X M 30 [some (.ref (adX X 34)), none, some (.int x2), some (.int x3), none, none] [] := by
  intro n
  induction n with
  | zero =>
    intro x2 x3 M h
    exact False.elim h
  | succ n ih =>
    intro x2 x3 M h
    unfold lp_X6_few_30 at h
    refine r_iload_n hX dX6_few_30 rfl rfl ?_
    refine r_iconst (v := 1) hX dX6_few_31 (by decide) ?_
    refine r_aload_n hX dX6_few_32 rfl rfl ?_
    refine r_getI hX fg_X6_87 ly_34 rfl dX6_few_33 ?_
    refine r_ishl hX dX6_few_36 ?_
    refine r_icmp_ge hX 124 dX6_few_37 (by decide) (fun hc => ?_) (fun hc => ?_)
    · have h := h.1 hc
      refine r_iload_n hX dX6_few_124 rfl rfl ?_
      exact r_iret (hret _ _ rfl h) dX6_few_125
    · have h := h.2 hc
      refine r_iconst (v := 0) hX dX6_few_40 (by decide) ?_
      refine r_istore (L' := [some (.ref (adX X 34)), none, some (.int x2), some (.int x3), some (.int 0), none]) hX dX6_few_41 (Nat.lt_of_ble rfl) rfl rfl ?_
      refine r_iconst (v := 0) hX dX6_few_43 (by decide) ?_
      refine r_istore (L' := [some (.ref (adX X 34)), none, some (.int x2), some (.int x3), some (.int 0), some (.int 0)]) hX dX6_few_44 (Nat.lt_of_ble rfl) rfl rfl ?_
      obtain ⟨n15, h⟩ := h
      refine r_sub [some (.ref (adX X 34)), none, some (.int x2), some (.int x3), some (.int 0), some (.int 0)] (And.intro rfl (And.intro rfl (And.intro rfl (And.intro rfl (And.intro rfl trivial))))) ?_
      exact wl_X6_few_46 p1 hX hret (fun y2 y3 M' h' => ih y2 y3 M' h') n15 _ _ _ _ _ h
def wp_X6_few (p1 : Int32) (M : Mem) (post : Int32 → Mem → Prop) : Prop := (wp_X6_isDinner p1 M (fun r1 M2 => ((¬ r1 = 0 → ((¬ (M2 34 6) = 0 → (wp_X6_layDinner p1 M2 (fun M4 => (∃ k, lp_X6_few_30 p1 post k (-9) 1 M4)))) ∧ ((M2 34 6) = 0 → post (-3) M2))) ∧ (r1 = 0 → post (-2) M2))))
set_option maxRecDepth 100000 in
theorem wk_X6_few {X : CT} (p1 : Int32) (hX : okX X RX6 cX6_few 4 98) {M : Mem} {post : Int32 → Mem → Prop} (hret : ∀ (r : Int32) (M' : Mem), narrow .int (.int r) = .int r → post r M' → RetI X cX6_few r M') (h : wp_X6_few p1 M post) : Z X M 0 [some (.ref (adX X 34)), some (.int p1), none, none, none, none] [] := by
  unfold wp_X6_few at h
  refine r_iload_n hX dX6_few_0 rfl rfl ?_
  refine r_cSi1 hX fs_X6_146 ⟨Nat.le_of_ble_eq_true rfl, Nat.le_of_ble_eq_true rfl⟩ (c_X6_isDinner p1 h) (Nat.le_of_ble_eq_true rfl) dX6_few_1 (fun r1 M2 h => ?_)
  refine r_if_ne hX 10 dX6_few_4 (by decide) (fun hc => ?_) (fun hc => ?_)
  · have h := h.1 hc
    refine r_aload_n hX dX6_few_10 rfl rfl ?_
    refine r_getI hX fg_X6_90 ly_34 rfl dX6_few_11 ?_
    refine r_if_ne hX 20 dX6_few_14 (by decide) (fun hc => ?_) (fun hc => ?_)
    · have h := h.1 hc
      refine r_aload_n hX dX6_few_20 rfl rfl ?_
      refine r_iload_n hX dX6_few_21 rfl rfl ?_
      refine r_cVv1 hX fv_X6_170 ly_34 rfl ⟨Nat.le_of_ble_eq_true rfl, Nat.le_of_ble_eq_true rfl⟩ (c_X6_layDinner p1 h) (Nat.le_of_ble_eq_true rfl) dX6_few_22 (fun M4 h => ?_)
      refine r_bipush (v := (-9)) hX dX6_few_25 (by decide) ?_
      refine r_istore_n (L' := [some (.ref (adX X 34)), some (.int p1), some (.int (-9)), none, none, none]) hX dX6_few_27 rfl (Nat.lt_of_ble rfl) rfl rfl ?_
      refine r_iconst (v := 1) hX dX6_few_28 (by decide) ?_
      refine r_istore_n (L' := [some (.ref (adX X 34)), some (.int p1), some (.int (-9)), some (.int 1), none, none]) hX dX6_few_29 rfl (Nat.lt_of_ble rfl) rfl rfl ?_
      obtain ⟨n16, h⟩ := h
      refine r_sub [some (.ref (adX X 34)), none, some (.int (-9)), some (.int 1), none, none] (And.intro rfl (And.intro rfl (And.intro rfl trivial))) ?_
      exact wl_X6_few_30 p1 hX hret n16 _ _ _ h
    · have h := h.2 hc
      refine r_bipush (v := (-3)) hX dX6_few_17 (by decide) ?_
      exact r_iret (hret _ _ rfl h) dX6_few_19
  · have h := h.2 hc
    refine r_bipush (v := (-2)) hX dX6_few_7 (by decide) ?_
    exact r_iret (hret _ _ rfl h) dX6_few_9
set_option maxRecDepth 100000 in
theorem c_X6_few {l : Launch} {D : va_G} {cs : CS3} {ad : Nat → Nat} (p1 : Int32) {M : Mem} {post : Int32 → Mem → Prop} (h : wp_X6_few p1 M post) : CtI l D cs ad yX6_few cX6_few 6 (some .int) 4 98 [.ref (ad 34), .int p1] M post := met_I (k := 4) (fun ad => [.ref (ad 34), .int p1]) (fun ad => [some (.ref (ad 34)), some (.int p1), none, none, none, none]) (by decide +kernel) (fun _ => Nat.le_of_ble_eq_true rfl) (fun _ => rfl) (fun _ => rfl) (fun X hX hret => wk_X6_few p1 hX hret h)
def lp_X6_tippedBy_6 (p1 : Int32) (p2 : Int32) (p3 : Int32) (post : Int32 → Mem → Prop) : Nat → Int32 → Int32 → Mem → Prop
  | 0, _, _, _ => False
  | n + 1, x4, x5, M => ((p3 ≤ x5 → post (-9) M) ∧ (¬ p3 ≤ x5 → (vp_in (p2 + x5) 240 ∧ (∀ v1 : Int32, v1 = M 37 (p2 + x5).toNatClampNeg → ((v1 = (-9) → lp_X6_tippedBy_6 p1 p2 p3 post n x4 (x5 + 1) M) ∧ (¬ v1 = (-9) → ((((x4 >>> (v1 &&& 31)) &&& 1) = 1 → post x5 M) ∧ (¬ ((x4 >>> (v1 &&& 31)) &&& 1) = 1 → (wp_X6_doesBear v1 x5 p1 M (fun r2 M3 => ((¬ r2 = 0 → (∀ v4 : Int32, v4 = x4 ||| (1 <<< (v1 &&& 31)) → lp_X6_tippedBy_6 p1 p2 p3 post n v4 (x5 + 1) M3)) ∧ (r2 = 0 → post x5 M3))))))))))))
set_option maxRecDepth 100000 in
theorem wl_X6_tippedBy_6 {X : CT} (p1 : Int32) (p2 : Int32) (p3 : Int32) (hX : okX X RX6 cX6_tippedBy 3 75) {post : Int32 → Mem → Prop} (hret : ∀ (r : Int32) (M' : Mem), narrow .int (.int r) = .int r → post r M' → RetI X cX6_tippedBy r M') : ∀ (n : Nat) (x4 : Int32) (x5 : Int32) (M : Mem), lp_X6_tippedBy_6 p1 p2 p3 post n x4 x5 M → Z X M 6 [some (.ref (adX X 34)), some (.int p1), some (.int p2), some (.int p3), some (.int x4), some (.int x5), none] [] := by
  intro n
  induction n with
  | zero =>
    intro x4 x5 M h
    exact False.elim h
  | succ n ih =>
    intro x4 x5 M h
    unfold lp_X6_tippedBy_6 at h
    refine r_iload hX dX6_tippedBy_6 rfl ?_
    refine r_iload_n hX dX6_tippedBy_8 rfl rfl ?_
    refine r_icmp_ge hX 71 dX6_tippedBy_9 (by decide) (fun hc => ?_) (fun hc => ?_)
    · have h := h.1 hc
      refine r_bipush (v := (-9)) hX dX6_tippedBy_71 (by decide) ?_
      exact r_iret (hret _ _ rfl h) dX6_tippedBy_73
    · have h := h.2 hc
      refine r_aload_n hX dX6_tippedBy_12 rfl rfl ?_
      refine r_getR hX fg_X6_16 ly_34 rfl dX6_tippedBy_13 ?_
      refine r_iload_n hX dX6_tippedBy_16 rfl rfl ?_
      refine r_iload hX dX6_tippedBy_17 rfl ?_
      refine r_iadd hX dX6_tippedBy_19 ?_
      refine r_iald hX ly_37 h.1 dX6_tippedBy_20 ?_
      have h := h.2
      refine r_nm (fun v1 ev1 => ?_)
      have h := h v1 ev1
      refine r_istore (L' := [some (.ref (adX X 34)), some (.int p1), some (.int p2), some (.int p3), some (.int x4), some (.int x5), some (.int v1)]) hX dX6_tippedBy_21 (Nat.lt_of_ble rfl) rfl rfl ?_
      refine r_iload hX dX6_tippedBy_23 rfl ?_
      refine r_bipush (v := (-9)) hX dX6_tippedBy_25 (by decide) ?_
      refine r_icmp_eq hX 65 dX6_tippedBy_27 (by decide) (fun hc => ?_) (fun hc => ?_)
      · have h := h.1 hc
        refine r_iinc (v := x5 + 1) (L' := [some (.ref (adX X 34)), some (.int p1), some (.int p2), some (.int p3), some (.int x4), some (.int (x5 + 1)), some (.int v1)]) hX dX6_tippedBy_65 rfl rfl rfl rfl ?_
        refine r_goto hX 6 dX6_tippedBy_68 (by decide) ?_
        refine r_sub [some (.ref (adX X 34)), some (.int p1), some (.int p2), some (.int p3), some (.int x4), some (.int (x5 + 1)), none] (And.intro rfl (And.intro rfl (And.intro rfl (And.intro rfl (And.intro rfl (And.intro rfl trivial)))))) ?_
        exact ih _ _ _ h
      · have h := h.2 hc
        refine r_iload hX dX6_tippedBy_30 rfl ?_
        refine r_iload hX dX6_tippedBy_32 rfl ?_
        refine r_ishr hX dX6_tippedBy_34 ?_
        refine r_iconst (v := 1) hX dX6_tippedBy_35 (by decide) ?_
        refine r_iand hX dX6_tippedBy_36 ?_
        refine r_iconst (v := 1) hX dX6_tippedBy_37 (by decide) ?_
        refine r_icmp_eq hX 53 dX6_tippedBy_38 (by decide) (fun hc => ?_) (fun hc => ?_)
        · have h := h.1 hc
          refine r_iload hX dX6_tippedBy_53 rfl ?_
          exact r_iret (hret _ _ rfl h) dX6_tippedBy_55
        · have h := h.2 hc
          refine r_aload_n hX dX6_tippedBy_41 rfl rfl ?_
          refine r_iload hX dX6_tippedBy_42 rfl ?_
          refine r_iload hX dX6_tippedBy_44 rfl ?_
          refine r_iload_n hX dX6_tippedBy_46 rfl rfl ?_
          refine r_cVi3 hX fv_X6_161 ly_34 rfl ⟨Nat.le_of_ble_eq_true rfl, Nat.le_of_ble_eq_true rfl⟩ (c_X6_doesBear v1 x5 p1 h) (Nat.le_of_ble_eq_true rfl) dX6_tippedBy_47 (fun r2 M3 h => ?_)
          refine r_if_ne hX 56 dX6_tippedBy_50 (by decide) (fun hc => ?_) (fun hc => ?_)
          · have h := h.1 hc
            refine r_iload hX dX6_tippedBy_56 rfl ?_
            refine r_iconst (v := 1) hX dX6_tippedBy_58 (by decide) ?_
            refine r_iload hX dX6_tippedBy_59 rfl ?_
            refine r_ishl hX dX6_tippedBy_61 ?_
            refine r_ior hX dX6_tippedBy_62 ?_
            refine r_nm (fun v4 ev4 => ?_)
            have h := h v4 ev4
            refine r_istore (L' := [some (.ref (adX X 34)), some (.int p1), some (.int p2), some (.int p3), some (.int v4), some (.int x5), some (.int v1)]) hX dX6_tippedBy_63 (Nat.lt_of_ble rfl) rfl rfl ?_
            refine r_iinc (v := x5 + 1) (L' := [some (.ref (adX X 34)), some (.int p1), some (.int p2), some (.int p3), some (.int v4), some (.int (x5 + 1)), some (.int v1)]) hX dX6_tippedBy_65 rfl rfl rfl rfl ?_
            refine r_goto hX 6 dX6_tippedBy_68 (by decide) ?_
            refine r_sub [some (.ref (adX X 34)), some (.int p1), some (.int p2), some (.int p3), some (.int v4), some (.int (x5 + 1)), none] (And.intro rfl (And.intro rfl (And.intro rfl (And.intro rfl (And.intro rfl (And.intro rfl trivial)))))) ?_
            exact ih _ _ _ h
          · have h := h.2 hc
            refine r_iload hX dX6_tippedBy_53 rfl ?_
            exact r_iret (hret _ _ rfl h) dX6_tippedBy_55
def wp_X6_tippedBy (p1 : Int32) (p2 : Int32) (p3 : Int32) (M : Mem) (post : Int32 → Mem → Prop) : Prop := (∃ k, lp_X6_tippedBy_6 p1 p2 p3 post k 0 0 M)
set_option maxRecDepth 100000 in
theorem wk_X6_tippedBy {X : CT} (p1 : Int32) (p2 : Int32) (p3 : Int32) (hX : okX X RX6 cX6_tippedBy 3 75) {M : Mem} {post : Int32 → Mem → Prop} (hret : ∀ (r : Int32) (M' : Mem), narrow .int (.int r) = .int r → post r M' → RetI X cX6_tippedBy r M') (h : wp_X6_tippedBy p1 p2 p3 M post) : Z X M 0 [some (.ref (adX X 34)), some (.int p1), some (.int p2), some (.int p3), none, none, none] [] := by
  unfold wp_X6_tippedBy at h
  refine r_iconst (v := 0) hX dX6_tippedBy_0 (by decide) ?_
  refine r_istore (L' := [some (.ref (adX X 34)), some (.int p1), some (.int p2), some (.int p3), some (.int 0), none, none]) hX dX6_tippedBy_1 (Nat.lt_of_ble rfl) rfl rfl ?_
  refine r_iconst (v := 0) hX dX6_tippedBy_3 (by decide) ?_
  refine r_istore (L' := [some (.ref (adX X 34)), some (.int p1), some (.int p2), some (.int p3), some (.int 0), some (.int 0), none]) hX dX6_tippedBy_4 (Nat.lt_of_ble rfl) rfl rfl ?_
  obtain ⟨n5, h⟩ := h
  refine r_sub [some (.ref (adX X 34)), some (.int p1), some (.int p2), some (.int p3), some (.int 0), some (.int 0), none] (And.intro rfl (And.intro rfl (And.intro rfl (And.intro rfl (And.intro rfl (And.intro rfl trivial)))))) ?_
  exact wl_X6_tippedBy_6 p1 p2 p3 hX hret n5 _ _ _ h
set_option maxRecDepth 100000 in
theorem c_X6_tippedBy {l : Launch} {D : va_G} {cs : CS3} {ad : Nat → Nat} (p1 : Int32) (p2 : Int32) (p3 : Int32) {M : Mem} {post : Int32 → Mem → Prop} (h : wp_X6_tippedBy p1 p2 p3 M post) : CtI l D cs ad yX6_tippedBy cX6_tippedBy 7 (some .int) 3 75 [.ref (ad 34), .int p1, .int p2, .int p3] M post := met_I (k := 3) (fun ad => [.ref (ad 34), .int p1, .int p2, .int p3]) (fun ad => [some (.ref (ad 34)), some (.int p1), some (.int p2), some (.int p3), none, none, none]) (by decide +kernel) (fun _ => Nat.le_of_ble_eq_true rfl) (fun _ => rfl) (fun _ => rfl) (fun X hX hret => wk_X6_tippedBy p1 p2 p3 hX hret h)
def lp_X6_tipped_89 (p1 : Int32) (p2 : Int32) (p3 : Int32) (p4 : Int32) (p5 : Int32) (post : Int32 → Mem → Prop) : Nat → Int32 → Int32 → Mem → Prop
  | 0, _, _, _ => False
  | n + 1, x7, x8, M => ((p5 ≤ x8 → (wp_X6_tippedBy p1 x7 p5 M (fun r11 M12 => post r11 M12))) ∧ (¬ p5 ≤ x8 → (vp_in (x7 + x8) 240 ∧ (((M 37 (x7 + x8).toNatClampNeg) = (-9) → lp_X6_tipped_89 p1 p2 p3 p4 p5 post n x7 (x8 + 1) M) ∧ (¬ (M 37 (x7 + x8).toNatClampNeg) = (-9) → (vp_in (x7 + x8) 240 ∧ (wp_X6_isChair (M 37 (x7 + x8).toNatClampNeg) M (fun r13 M14 => ((¬ r13 = 0 → lp_X6_tipped_89 p1 p2 p3 p4 p5 post n x7 (x8 + 1) M14) ∧ (r13 = 0 → post (-1) M14))))))))))
set_option maxRecDepth 100000 in
theorem wl_X6_tipped_89 {X : CT} (p1 : Int32) (p2 : Int32) (p3 : Int32) (p4 : Int32) (p5 : Int32) (hX : okX X RX6 cX6_tipped 4 101) {post : Int32 → Mem → Prop} (hret : ∀ (r : Int32) (M' : Mem), narrow .int (.int r) = .int r → post r M' → RetI X cX6_tipped r M') : ∀ (n : Nat) (x7 : Int32) (x8 : Int32) (M : Mem), lp_X6_tipped_89 p1 p2 p3 p4 p5 post n x7 x8 M → Z X M 89 [some (.ref (adX X 34)), some (.int p1), none, none, none, some (.int p5), none, some (.int x7), some (.int x8)] [] := by
  intro n
  induction n with
  | zero =>
    intro x7 x8 M h
    exact False.elim h
  | succ n ih =>
    intro x7 x8 M h
    unfold lp_X6_tipped_89 at h
    refine r_iload hX dX6_tipped_89 rfl ?_
    refine r_iload hX dX6_tipped_91 rfl ?_
    refine r_icmp_ge hX 136 dX6_tipped_93 (by decide) (fun hc => ?_) (fun hc => ?_)
    · have h := h.1 hc
      refine r_aload_n hX dX6_tipped_136 rfl rfl ?_
      refine r_iload_n hX dX6_tipped_137 rfl rfl ?_
      refine r_iload hX dX6_tipped_138 rfl ?_
      refine r_iload hX dX6_tipped_140 rfl ?_
      refine r_cVi3 hX fv_X6_187 ly_34 rfl ⟨Nat.le_of_ble_eq_true rfl, Nat.le_of_ble_eq_true rfl⟩ (c_X6_tippedBy p1 x7 p5 h) (Nat.le_of_ble_eq_true rfl) dX6_tipped_142 (fun r11 M12 h => ?_)
      exact r_iret (hret _ _ rfl h) dX6_tipped_145
    · have h := h.2 hc
      refine r_aload_n hX dX6_tipped_96 rfl rfl ?_
      refine r_getR hX fg_X6_16 ly_34 rfl dX6_tipped_97 ?_
      refine r_iload hX dX6_tipped_100 rfl ?_
      refine r_iload hX dX6_tipped_102 rfl ?_
      refine r_iadd hX dX6_tipped_104 ?_
      refine r_iald hX ly_37 h.1 dX6_tipped_105 ?_
      have h := h.2
      refine r_bipush (v := (-9)) hX dX6_tipped_106 (by decide) ?_
      refine r_icmp_eq hX 130 dX6_tipped_108 (by decide) (fun hc => ?_) (fun hc => ?_)
      · have h := h.1 hc
        refine r_iinc (v := x8 + 1) (L' := [some (.ref (adX X 34)), some (.int p1), none, none, none, some (.int p5), none, some (.int x7), some (.int (x8 + 1))]) hX dX6_tipped_130 rfl rfl rfl rfl ?_
        refine r_goto hX 89 dX6_tipped_133 (by decide) ?_
        refine r_sub [some (.ref (adX X 34)), some (.int p1), none, none, none, some (.int p5), none, some (.int x7), some (.int (x8 + 1))] (And.intro rfl (And.intro rfl (And.intro rfl (And.intro rfl (And.intro rfl trivial))))) ?_
        exact ih _ _ _ h
      · have h := h.2 hc
        refine r_aload_n hX dX6_tipped_111 rfl rfl ?_
        refine r_aload_n hX dX6_tipped_112 rfl rfl ?_
        refine r_getR hX fg_X6_16 ly_34 rfl dX6_tipped_113 ?_
        refine r_iload hX dX6_tipped_116 rfl ?_
        refine r_iload hX dX6_tipped_118 rfl ?_
        refine r_iadd hX dX6_tipped_120 ?_
        refine r_iald hX ly_37 h.1 dX6_tipped_121 ?_
        have h := h.2
        refine r_cVi1 hX fv_X6_140 ly_34 rfl ⟨Nat.le_of_ble_eq_true rfl, Nat.le_of_ble_eq_true rfl⟩ (c_X6_isChair (M 37 (x7 + x8).toNatClampNeg) h) (Nat.le_of_ble_eq_true rfl) dX6_tipped_122 (fun r13 M14 h => ?_)
        refine r_if_ne hX 130 dX6_tipped_125 (by decide) (fun hc => ?_) (fun hc => ?_)
        · have h := h.1 hc
          refine r_iinc (v := x8 + 1) (L' := [some (.ref (adX X 34)), some (.int p1), none, none, none, some (.int p5), none, some (.int x7), some (.int (x8 + 1))]) hX dX6_tipped_130 rfl rfl rfl rfl ?_
          refine r_goto hX 89 dX6_tipped_133 (by decide) ?_
          refine r_sub [some (.ref (adX X 34)), some (.int p1), none, none, none, some (.int p5), none, some (.int x7), some (.int (x8 + 1))] (And.intro rfl (And.intro rfl (And.intro rfl (And.intro rfl (And.intro rfl trivial))))) ?_
          exact ih _ _ _ h
        · have h := h.2 hc
          refine r_iconst (v := (-1)) hX dX6_tipped_128 (by decide) ?_
          exact r_iret (hret _ _ rfl h) dX6_tipped_129
def wp_X6_tipped (p1 : Int32) (p2 : Int32) (p3 : Int32) (p4 : Int32) (p5 : Int32) (M : Mem) (post : Int32 → Mem → Prop) : Prop := (∀ M1 : Mem, M1 = up2 M 34 0 0 → (wp_X6_isSheet p2 M1 (fun r2 M3 => ((¬ r2 = 0 → (wp_X6_isSort p3 M3 (fun r4 M5 => ((r4 = 0 → post (-2) M5) ∧ (¬ r4 = 0 → (wp_X6_isDinner p1 M5 (fun r6 M7 => ((¬ r6 = 0 → (wp_X6_against p2 p3 p4 p5 M7 (fun r8 M9 => ((r8 = 0 → ((¬ (M9 34 6) = 0 → ((p5 ≤ (M9 34 5) → (∀ v10 : Int32, v10 = (60 * p2) + p4 → (∃ k, lp_X6_tipped_89 p1 p2 p3 p4 p5 post k v10 0 M9))) ∧ (¬ p5 ≤ (M9 34 5) → post (-2) M9))) ∧ ((M9 34 6) = 0 → post (-3) M9))) ∧ (¬ r8 = 0 → (wp_X6_fails r8 M9 (fun r16 M17 => post r16 M17))))))) ∧ (r6 = 0 → post (-2) M7))))))))) ∧ (r2 = 0 → post (-1) M3)))))
set_option maxRecDepth 100000 in
theorem wk_X6_tipped {X : CT} (p1 : Int32) (p2 : Int32) (p3 : Int32) (p4 : Int32) (p5 : Int32) (hX : okX X RX6 cX6_tipped 4 101) {M : Mem} {post : Int32 → Mem → Prop} (hret : ∀ (r : Int32) (M' : Mem), narrow .int (.int r) = .int r → post r M' → RetI X cX6_tipped r M') (h : wp_X6_tipped p1 p2 p3 p4 p5 M post) : Z X M 0 [some (.ref (adX X 34)), some (.int p1), some (.int p2), some (.int p3), some (.int p4), some (.int p5), none, none, none] [] := by
  unfold wp_X6_tipped at h
  refine r_aload_n hX dX6_tipped_0 rfl rfl ?_
  refine r_iconst (v := 0) hX dX6_tipped_1 (by decide) ?_
  refine r_putI hX fp_X6_78 ly_34 rfl dX6_tipped_2 ?_
  refine r_nmM (fun M1 eM1 => ?_)
  have h := h M1 eM1
  refine r_iload_n hX dX6_tipped_5 rfl rfl ?_
  refine r_cSi1 hX fs_X6_96 ⟨Nat.le_of_ble_eq_true rfl, Nat.le_of_ble_eq_true rfl⟩ (c_X6_isSheet p2 h) (Nat.le_of_ble_eq_true rfl) dX6_tipped_6 (fun r2 M3 h => ?_)
  refine r_if_ne hX 14 dX6_tipped_9 (by decide) (fun hc => ?_) (fun hc => ?_)
  · have h := h.1 hc
    refine r_iload_n hX dX6_tipped_14 rfl rfl ?_
    refine r_cSi1 hX fs_X6_100 ⟨Nat.le_of_ble_eq_true rfl, Nat.le_of_ble_eq_true rfl⟩ (c_X6_isSort p3 h) (Nat.le_of_ble_eq_true rfl) dX6_tipped_15 (fun r4 M5 h => ?_)
    refine r_if_eq hX 28 dX6_tipped_18 (by decide) (fun hc => ?_) (fun hc => ?_)
    · have h := h.1 hc
      refine r_bipush (v := (-2)) hX dX6_tipped_28 (by decide) ?_
      exact r_iret (hret _ _ rfl h) dX6_tipped_30
    · have h := h.2 hc
      refine r_iload_n hX dX6_tipped_21 rfl rfl ?_
      refine r_cSi1 hX fs_X6_146 ⟨Nat.le_of_ble_eq_true rfl, Nat.le_of_ble_eq_true rfl⟩ (c_X6_isDinner p1 h) (Nat.le_of_ble_eq_true rfl) dX6_tipped_22 (fun r6 M7 h => ?_)
      refine r_if_ne hX 31 dX6_tipped_25 (by decide) (fun hc => ?_) (fun hc => ?_)
      · have h := h.1 hc
        refine r_aload_n hX dX6_tipped_31 rfl rfl ?_
        refine r_iload_n hX dX6_tipped_32 rfl rfl ?_
        refine r_iload_n hX dX6_tipped_33 rfl rfl ?_
        refine r_iload hX dX6_tipped_34 rfl ?_
        refine r_iload hX dX6_tipped_36 rfl ?_
        refine r_cVi4 hX fv_X6_103 ly_34 rfl ⟨Nat.le_of_ble_eq_true rfl, Nat.le_of_ble_eq_true rfl⟩ (c_X6_against p2 p3 p4 p5 h) (Nat.le_of_ble_eq_true rfl) dX6_tipped_38 (fun r8 M9 h => ?_)
        refine r_istore (L' := [some (.ref (adX X 34)), some (.int p1), some (.int p2), some (.int p3), some (.int p4), some (.int p5), some (.int r8), none, none]) hX dX6_tipped_41 (Nat.lt_of_ble rfl) rfl rfl ?_
        refine r_iload hX dX6_tipped_43 rfl ?_
        refine r_if_eq hX 55 dX6_tipped_45 (by decide) (fun hc => ?_) (fun hc => ?_)
        · have h := h.1 hc
          refine r_aload_n hX dX6_tipped_55 rfl rfl ?_
          refine r_getI hX fg_X6_90 ly_34 rfl dX6_tipped_56 ?_
          refine r_if_ne hX 65 dX6_tipped_59 (by decide) (fun hc => ?_) (fun hc => ?_)
          · have h := h.1 hc
            refine r_iload hX dX6_tipped_65 rfl ?_
            refine r_aload_n hX dX6_tipped_67 rfl rfl ?_
            refine r_getI hX fg_X6_87 ly_34 rfl dX6_tipped_68 ?_
            refine r_icmp_le hX 77 dX6_tipped_71 (by decide) (fun hc => ?_) (fun hc => ?_)
            · have h := h.1 hc
              refine r_bipush (v := 60) hX dX6_tipped_77 (by decide) ?_
              refine r_iload_n hX dX6_tipped_79 rfl rfl ?_
              refine r_imul hX dX6_tipped_80 ?_
              refine r_iload hX dX6_tipped_81 rfl ?_
              refine r_iadd hX dX6_tipped_83 ?_
              refine r_nm (fun v10 ev10 => ?_)
              have h := h v10 ev10
              refine r_istore (L' := [some (.ref (adX X 34)), some (.int p1), some (.int p2), some (.int p3), some (.int p4), some (.int p5), some (.int r8), some (.int v10), none]) hX dX6_tipped_84 (Nat.lt_of_ble rfl) rfl rfl ?_
              refine r_iconst (v := 0) hX dX6_tipped_86 (by decide) ?_
              refine r_istore (L' := [some (.ref (adX X 34)), some (.int p1), some (.int p2), some (.int p3), some (.int p4), some (.int p5), some (.int r8), some (.int v10), some (.int 0)]) hX dX6_tipped_87 (Nat.lt_of_ble rfl) rfl rfl ?_
              obtain ⟨n15, h⟩ := h
              refine r_sub [some (.ref (adX X 34)), some (.int p1), none, none, none, some (.int p5), none, some (.int v10), some (.int 0)] (And.intro rfl (And.intro rfl (And.intro rfl (And.intro rfl (And.intro rfl trivial))))) ?_
              exact wl_X6_tipped_89 p1 p2 p3 p4 p5 hX hret n15 _ _ _ h
            · have h := h.2 hc
              refine r_bipush (v := (-2)) hX dX6_tipped_74 (by decide) ?_
              exact r_iret (hret _ _ rfl h) dX6_tipped_76
          · have h := h.2 hc
            refine r_bipush (v := (-3)) hX dX6_tipped_62 (by decide) ?_
            exact r_iret (hret _ _ rfl h) dX6_tipped_64
        · have h := h.2 hc
          refine r_aload_n hX dX6_tipped_48 rfl rfl ?_
          refine r_iload hX dX6_tipped_49 rfl ?_
          refine r_cVi1 hX fv_X6_107 ly_34 rfl ⟨Nat.le_of_ble_eq_true rfl, Nat.le_of_ble_eq_true rfl⟩ (c_X6_fails r8 h) (Nat.le_of_ble_eq_true rfl) dX6_tipped_51 (fun r16 M17 h => ?_)
          exact r_iret (hret _ _ rfl h) dX6_tipped_54
      · have h := h.2 hc
        refine r_bipush (v := (-2)) hX dX6_tipped_28 (by decide) ?_
        exact r_iret (hret _ _ rfl h) dX6_tipped_30
  · have h := h.2 hc
    refine r_iconst (v := (-1)) hX dX6_tipped_12 (by decide) ?_
    exact r_iret (hret _ _ rfl h) dX6_tipped_13
set_option maxRecDepth 100000 in
theorem c_X6_tipped {l : Launch} {D : va_G} {cs : CS3} {ad : Nat → Nat} (p1 : Int32) (p2 : Int32) (p3 : Int32) (p4 : Int32) (p5 : Int32) {M : Mem} {post : Int32 → Mem → Prop} (h : wp_X6_tipped p1 p2 p3 p4 p5 M post) : CtI l D cs ad yX6_tipped cX6_tipped 9 (some .int) 4 101 [.ref (ad 34), .int p1, .int p2, .int p3, .int p4, .int p5] M post := met_I (k := 3) (fun ad => [.ref (ad 34), .int p1, .int p2, .int p3, .int p4, .int p5]) (fun ad => [some (.ref (ad 34)), some (.int p1), some (.int p2), some (.int p3), some (.int p4), some (.int p5), none, none, none]) (by decide +kernel) (fun _ => Nat.le_of_ble_eq_true rfl) (fun _ => rfl) (fun _ => rfl) (fun X hX hret => wk_X6_tipped p1 p2 p3 p4 p5 hX hret h)
def jn_X6_least_124 (p1 : Int32) (p2 : Int32) (post : Int32 → Mem → Prop) (B_41 : Int32 → Int32 → Mem → Prop) (x4 : Int32) (x5 : Int32) (M : Mem) : Prop := (wp_X6_keepRow M (fun M12 => B_41 x5 (x4 + 1) M12))
set_option maxRecDepth 100000 in
theorem wj_X6_least_124 {X : CT} (p1 : Int32) (p2 : Int32) (hX : okX X RX6 cX6_least 4 98) {post : Int32 → Mem → Prop} (hret : ∀ (r : Int32) (M' : Mem), narrow .int (.int r) = .int r → post r M' → RetI X cX6_least r M') {B_41 : Int32 → Int32 → Mem → Prop} (hB_41 : ∀ (x3 : Int32) (x4 : Int32) (M : Mem), B_41 x3 x4 M → Z X M 41 [some (.ref (adX X 34)), none, some (.int p2), some (.int x3), some (.int x4), none, none] []) (x4 : Int32) (x5 : Int32) (M : Mem) (h : jn_X6_least_124 p1 p2 post B_41 x4 x5 M) : Z X M 124 [some (.ref (adX X 34)), none, some (.int p2), none, some (.int x4), some (.int x5), none] [] := by
  unfold jn_X6_least_124 at h
  refine r_iload hX dX6_least_124 rfl ?_
  refine r_istore_n (L' := [some (.ref (adX X 34)), none, some (.int p2), some (.int x5), some (.int x4), some (.int x5), none]) hX dX6_least_126 rfl (Nat.lt_of_ble rfl) rfl rfl ?_
  refine r_aload_n hX dX6_least_127 rfl rfl ?_
  refine r_cVv0 hX fv_X6_184 ly_34 rfl ⟨Nat.le_of_ble_eq_true rfl, Nat.le_of_ble_eq_true rfl⟩ (c_X6_keepRow h) (Nat.le_of_ble_eq_true rfl) dX6_least_128 (fun M12 h => ?_)
  refine r_iinc (v := x4 + 1) (L' := [some (.ref (adX X 34)), none, some (.int p2), some (.int x5), some (.int (x4 + 1)), some (.int x5), none]) hX dX6_least_131 rfl rfl rfl rfl ?_
  refine r_goto hX 41 dX6_least_134 (by decide) ?_
  refine r_sub [some (.ref (adX X 34)), none, some (.int p2), some (.int x5), some (.int (x4 + 1)), none, none] (And.intro rfl (And.intro rfl (And.intro rfl (And.intro rfl trivial)))) ?_
  exact hB_41 _ _ _ h
def lp_X6_least_73 (p1 : Int32) (p2 : Int32) (post : Int32 → Mem → Prop) (B_41 : Int32 → Int32 → Mem → Prop) : Nat → Int32 → Int32 → Int32 → Int32 → Mem → Prop
  | 0, _, _, _, _, _ => False
  | n + 1, x3, x4, x5, x6, M => (((M 34 5) ≤ x6 → ((x3 = (-9) → jn_X6_least_124 p1 p2 post B_41 x4 x5 M) ∧ (¬ x3 = (-9) → ((x3 ≤ x5 → B_41 x3 (x4 + 1) M) ∧ (¬ x3 ≤ x5 → jn_X6_least_124 p1 p2 post B_41 x4 x5 M))))) ∧ (¬ (M 34 5) ≤ x6 → (vp_in x6 5 ∧ (vp_in x6 5 ∧ (∀ v13 : Int32, v13 = x5 + (1 - (((M 48 x6.toNatClampNeg) >>> ((M 50 x6.toNatClampNeg) &&& 31)) &&& 1)) → lp_X6_least_73 p1 p2 post B_41 n x3 x4 v13 (x6 + 1) M)))))
set_option maxRecDepth 100000 in
theorem wl_X6_least_73 {X : CT} (p1 : Int32) (p2 : Int32) (hX : okX X RX6 cX6_least 4 98) {post : Int32 → Mem → Prop} (hret : ∀ (r : Int32) (M' : Mem), narrow .int (.int r) = .int r → post r M' → RetI X cX6_least r M') {B_41 : Int32 → Int32 → Mem → Prop} (hB_41 : ∀ (x3 : Int32) (x4 : Int32) (M : Mem), B_41 x3 x4 M → Z X M 41 [some (.ref (adX X 34)), none, some (.int p2), some (.int x3), some (.int x4), none, none] []) : ∀ (n : Nat) (x3 : Int32) (x4 : Int32) (x5 : Int32) (x6 : Int32) (M : Mem), lp_X6_least_73 p1 p2 post B_41 n x3 x4 x5 x6 M → Z X M 73 [some (.ref (adX X 34)), none, some (.int p2), some (.int x3), some (.int x4), some (.int x5), some (.int x6)] [] := by
  intro n
  induction n with
  | zero =>
    intro x3 x4 x5 x6 M h
    exact False.elim h
  | succ n ih =>
    intro x3 x4 x5 x6 M h
    unfold lp_X6_least_73 at h
    refine r_iload hX dX6_least_73 rfl ?_
    refine r_aload_n hX dX6_least_75 rfl rfl ?_
    refine r_getI hX fg_X6_87 ly_34 rfl dX6_least_76 ?_
    refine r_icmp_ge hX 112 dX6_least_79 (by decide) (fun hc => ?_) (fun hc => ?_)
    · have h := h.1 hc
      refine r_iload_n hX dX6_least_112 rfl rfl ?_
      refine r_bipush (v := (-9)) hX dX6_least_113 (by decide) ?_
      refine r_icmp_eq hX 124 dX6_least_115 (by decide) (fun hc => ?_) (fun hc => ?_)
      · have h := h.1 hc
        refine r_sub [some (.ref (adX X 34)), none, some (.int p2), none, some (.int x4), some (.int x5), none] (And.intro rfl (And.intro rfl (And.intro rfl (And.intro rfl trivial)))) ?_
        exact wj_X6_least_124 p1 p2 hX hret hB_41 _ _ _ h
      · have h := h.2 hc
        refine r_iload hX dX6_least_118 rfl ?_
        refine r_iload_n hX dX6_least_120 rfl rfl ?_
        refine r_icmp_ge hX 131 dX6_least_121 (by decide) (fun hc => ?_) (fun hc => ?_)
        · have h := h.1 hc
          refine r_iinc (v := x4 + 1) (L' := [some (.ref (adX X 34)), none, some (.int p2), some (.int x3), some (.int (x4 + 1)), some (.int x5), some (.int x6)]) hX dX6_least_131 rfl rfl rfl rfl ?_
          refine r_goto hX 41 dX6_least_134 (by decide) ?_
          refine r_sub [some (.ref (adX X 34)), none, some (.int p2), some (.int x3), some (.int (x4 + 1)), none, none] (And.intro rfl (And.intro rfl (And.intro rfl (And.intro rfl trivial)))) ?_
          exact hB_41 _ _ _ h
        · have h := h.2 hc
          refine r_sub [some (.ref (adX X 34)), none, some (.int p2), none, some (.int x4), some (.int x5), none] (And.intro rfl (And.intro rfl (And.intro rfl (And.intro rfl trivial)))) ?_
          exact wj_X6_least_124 p1 p2 hX hret hB_41 _ _ _ h
    · have h := h.2 hc
      refine r_iload hX dX6_least_82 rfl ?_
      refine r_iconst (v := 1) hX dX6_least_84 (by decide) ?_
      refine r_aload_n hX dX6_least_85 rfl rfl ?_
      refine r_getR hX fg_X6_53 ly_34 rfl dX6_least_86 ?_
      refine r_iload hX dX6_least_89 rfl ?_
      refine r_iald hX ly_48 h.1 dX6_least_91 ?_
      have h := h.2
      refine r_aload_n hX dX6_least_92 rfl rfl ?_
      refine r_getR hX fg_X6_60 ly_34 rfl dX6_least_93 ?_
      refine r_iload hX dX6_least_96 rfl ?_
      refine r_iald hX ly_50 h.1 dX6_least_98 ?_
      have h := h.2
      refine r_ishr hX dX6_least_99 ?_
      refine r_iconst (v := 1) hX dX6_least_100 (by decide) ?_
      refine r_iand hX dX6_least_101 ?_
      refine r_isub hX dX6_least_102 ?_
      refine r_iadd hX dX6_least_103 ?_
      refine r_nm (fun v13 ev13 => ?_)
      have h := h v13 ev13
      refine r_istore (L' := [some (.ref (adX X 34)), none, some (.int p2), some (.int x3), some (.int x4), some (.int v13), some (.int x6)]) hX dX6_least_104 (Nat.lt_of_ble rfl) rfl rfl ?_
      refine r_iinc (v := x6 + 1) (L' := [some (.ref (adX X 34)), none, some (.int p2), some (.int x3), some (.int x4), some (.int v13), some (.int (x6 + 1))]) hX dX6_least_106 rfl rfl rfl rfl ?_
      refine r_goto hX 73 dX6_least_109 (by decide) ?_
      refine r_sub [some (.ref (adX X 34)), none, some (.int p2), some (.int x3), some (.int x4), some (.int v13), some (.int (x6 + 1))] (And.intro rfl (And.intro rfl (And.intro rfl (And.intro rfl (And.intro rfl (And.intro rfl trivial)))))) ?_
      exact ih _ _ _ _ _ h
def lp_X6_least_41 (p1 : Int32) (p2 : Int32) (post : Int32 → Mem → Prop) : Nat → Int32 → Int32 → Mem → Prop
  | 0, _, _, _ => False
  | n + 1, x3, x4, M => (wp_X6_rowsOf (M 34 6) M (fun r7 M8 => ((r7 ≤ x4 → ((p2 = (-1) → post x3 M8) ∧ (¬ p2 = (-1) → ((¬ x3 = (-9) → (vp_in p2 5 ∧ post (M8 51 p2.toNatClampNeg) M8)) ∧ (x3 = (-9) → post x3 M8))))) ∧ (¬ r7 ≤ x4 → (wp_X6_layRow x4 (M8 34 6) M8 (fun r9 M10 => ((r9 = 0 → lp_X6_least_41 p1 p2 post n x3 (x4 + 1) M10) ∧ (¬ r9 = 0 → (∃ k, lp_X6_least_73 p1 p2 post (fun y3 y4 M' => lp_X6_least_41 p1 p2 post n y3 y4 M') k x3 x4 0 0 M10)))))))))
set_option maxRecDepth 100000 in
theorem wl_X6_least_41 {X : CT} (p1 : Int32) (p2 : Int32) (hX : okX X RX6 cX6_least 4 98) {post : Int32 → Mem → Prop} (hret : ∀ (r : Int32) (M' : Mem), narrow .int (.int r) = .int r → post r M' → RetI X cX6_least r M') : ∀ (n : Nat) (x3 : Int32) (x4 : Int32) (M : Mem), lp_X6_least_41 p1 p2 post n x3 x4 M → Z X M 41 [some (.ref (adX X 34)), none, some (.int p2), some (.int x3), some (.int x4), none, none] [] := by
  intro n
  induction n with
  | zero =>
    intro x3 x4 M h
    exact False.elim h
  | succ n ih =>
    intro x3 x4 M h
    unfold lp_X6_least_41 at h
    refine r_iload hX dX6_least_41 rfl ?_
    refine r_aload_n hX dX6_least_43 rfl rfl ?_
    refine r_aload_n hX dX6_least_44 rfl rfl ?_
    refine r_getI hX fg_X6_90 ly_34 rfl dX6_least_45 ?_
    refine r_cVi1 hX fv_X6_174 ly_34 rfl ⟨Nat.le_of_ble_eq_true rfl, Nat.le_of_ble_eq_true rfl⟩ (c_X6_rowsOf (M 34 6) h) (Nat.le_of_ble_eq_true rfl) dX6_least_48 (fun r7 M8 h => ?_)
    refine r_icmp_ge hX 137 dX6_least_51 (by decide) (fun hc => ?_) (fun hc => ?_)
    · have h := h.1 hc
      refine r_iload_n hX dX6_least_137 rfl rfl ?_
      refine r_iconst (v := (-1)) hX dX6_least_138 (by decide) ?_
      refine r_icmp_eq hX 148 dX6_least_139 (by decide) (fun hc => ?_) (fun hc => ?_)
      · have h := h.1 hc
        refine r_iload_n hX dX6_least_148 rfl rfl ?_
        refine r_goto hX 158 dX6_least_149 (by decide) ?_
        exact r_iret (hret _ _ rfl h) dX6_least_158
      · have h := h.2 hc
        refine r_iload_n hX dX6_least_142 rfl rfl ?_
        refine r_bipush (v := (-9)) hX dX6_least_143 (by decide) ?_
        refine r_icmp_ne hX 152 dX6_least_145 (by decide) (fun hc => ?_) (fun hc => ?_)
        · have h := h.1 hc
          refine r_aload_n hX dX6_least_152 rfl rfl ?_
          refine r_getR hX fg_X6_63 ly_34 rfl dX6_least_153 ?_
          refine r_iload_n hX dX6_least_156 rfl rfl ?_
          refine r_iald hX ly_51 h.1 dX6_least_157 ?_
          have h := h.2
          exact r_iret (hret _ _ rfl h) dX6_least_158
        · have h := h.2 hc
          refine r_iload_n hX dX6_least_148 rfl rfl ?_
          refine r_goto hX 158 dX6_least_149 (by decide) ?_
          exact r_iret (hret _ _ rfl h) dX6_least_158
    · have h := h.2 hc
      refine r_aload_n hX dX6_least_54 rfl rfl ?_
      refine r_iload hX dX6_least_55 rfl ?_
      refine r_aload_n hX dX6_least_57 rfl rfl ?_
      refine r_getI hX fg_X6_90 ly_34 rfl dX6_least_58 ?_
      refine r_cVi2 hX fv_X6_177 ly_34 rfl ⟨Nat.le_of_ble_eq_true rfl, Nat.le_of_ble_eq_true rfl⟩ (c_X6_layRow x4 (M8 34 6) h) (Nat.le_of_ble_eq_true rfl) dX6_least_61 (fun r9 M10 h => ?_)
      refine r_if_eq hX 131 dX6_least_64 (by decide) (fun hc => ?_) (fun hc => ?_)
      · have h := h.1 hc
        refine r_iinc (v := x4 + 1) (L' := [some (.ref (adX X 34)), none, some (.int p2), some (.int x3), some (.int (x4 + 1)), none, none]) hX dX6_least_131 rfl rfl rfl rfl ?_
        refine r_goto hX 41 dX6_least_134 (by decide) ?_
        refine r_sub [some (.ref (adX X 34)), none, some (.int p2), some (.int x3), some (.int (x4 + 1)), none, none] (And.intro rfl (And.intro rfl (And.intro rfl (And.intro rfl trivial)))) ?_
        exact ih _ _ _ h
      · have h := h.2 hc
        refine r_iconst (v := 0) hX dX6_least_67 (by decide) ?_
        refine r_istore (L' := [some (.ref (adX X 34)), none, some (.int p2), some (.int x3), some (.int x4), some (.int 0), none]) hX dX6_least_68 (Nat.lt_of_ble rfl) rfl rfl ?_
        refine r_iconst (v := 0) hX dX6_least_70 (by decide) ?_
        refine r_istore (L' := [some (.ref (adX X 34)), none, some (.int p2), some (.int x3), some (.int x4), some (.int 0), some (.int 0)]) hX dX6_least_71 (Nat.lt_of_ble rfl) rfl rfl ?_
        obtain ⟨n14, h⟩ := h
        refine r_sub [some (.ref (adX X 34)), none, some (.int p2), some (.int x3), some (.int x4), some (.int 0), some (.int 0)] (And.intro rfl (And.intro rfl (And.intro rfl (And.intro rfl (And.intro rfl (And.intro rfl trivial)))))) ?_
        exact wl_X6_least_73 p1 p2 hX hret (fun y3 y4 M' h' => ih y3 y4 M' h') n14 _ _ _ _ _ h
def wp_X6_least (p1 : Int32) (p2 : Int32) (M : Mem) (post : Int32 → Mem → Prop) : Prop := (wp_X6_isOneOr p2 M (fun r1 M2 => ((¬ r1 = 0 → (wp_X6_isDinner p1 M2 (fun r3 M4 => ((¬ r3 = 0 → ((¬ (M4 34 6) = 0 → (wp_X6_layDinner p1 M4 (fun M6 => (∃ k, lp_X6_least_41 p1 p2 post k (-9) 0 M6)))) ∧ ((M4 34 6) = 0 → post (-3) M4))) ∧ (r3 = 0 → post (-2) M4))))) ∧ (r1 = 0 → post (-1) M2))))
set_option maxRecDepth 100000 in
theorem wk_X6_least {X : CT} (p1 : Int32) (p2 : Int32) (hX : okX X RX6 cX6_least 4 98) {M : Mem} {post : Int32 → Mem → Prop} (hret : ∀ (r : Int32) (M' : Mem), narrow .int (.int r) = .int r → post r M' → RetI X cX6_least r M') (h : wp_X6_least p1 p2 M post) : Z X M 0 [some (.ref (adX X 34)), some (.int p1), some (.int p2), none, none, none, none] [] := by
  unfold wp_X6_least at h
  refine r_aload_n hX dX6_least_0 rfl rfl ?_
  refine r_iload_n hX dX6_least_1 rfl rfl ?_
  refine r_cVi1 hX fv_X6_167 ly_34 rfl ⟨Nat.le_of_ble_eq_true rfl, Nat.le_of_ble_eq_true rfl⟩ (c_X6_isOneOr p2 h) (Nat.le_of_ble_eq_true rfl) dX6_least_2 (fun r1 M2 h => ?_)
  refine r_if_ne hX 10 dX6_least_5 (by decide) (fun hc => ?_) (fun hc => ?_)
  · have h := h.1 hc
    refine r_iload_n hX dX6_least_10 rfl rfl ?_
    refine r_cSi1 hX fs_X6_146 ⟨Nat.le_of_ble_eq_true rfl, Nat.le_of_ble_eq_true rfl⟩ (c_X6_isDinner p1 h) (Nat.le_of_ble_eq_true rfl) dX6_least_11 (fun r3 M4 h => ?_)
    refine r_if_ne hX 20 dX6_least_14 (by decide) (fun hc => ?_) (fun hc => ?_)
    · have h := h.1 hc
      refine r_aload_n hX dX6_least_20 rfl rfl ?_
      refine r_getI hX fg_X6_90 ly_34 rfl dX6_least_21 ?_
      refine r_if_ne hX 30 dX6_least_24 (by decide) (fun hc => ?_) (fun hc => ?_)
      · have h := h.1 hc
        refine r_aload_n hX dX6_least_30 rfl rfl ?_
        refine r_iload_n hX dX6_least_31 rfl rfl ?_
        refine r_cVv1 hX fv_X6_170 ly_34 rfl ⟨Nat.le_of_ble_eq_true rfl, Nat.le_of_ble_eq_true rfl⟩ (c_X6_layDinner p1 h) (Nat.le_of_ble_eq_true rfl) dX6_least_32 (fun M6 h => ?_)
        refine r_bipush (v := (-9)) hX dX6_least_35 (by decide) ?_
        refine r_istore_n (L' := [some (.ref (adX X 34)), some (.int p1), some (.int p2), some (.int (-9)), none, none, none]) hX dX6_least_37 rfl (Nat.lt_of_ble rfl) rfl rfl ?_
        refine r_iconst (v := 0) hX dX6_least_38 (by decide) ?_
        refine r_istore (L' := [some (.ref (adX X 34)), some (.int p1), some (.int p2), some (.int (-9)), some (.int 0), none, none]) hX dX6_least_39 (Nat.lt_of_ble rfl) rfl rfl ?_
        obtain ⟨n15, h⟩ := h
        refine r_sub [some (.ref (adX X 34)), none, some (.int p2), some (.int (-9)), some (.int 0), none, none] (And.intro rfl (And.intro rfl (And.intro rfl (And.intro rfl trivial)))) ?_
        exact wl_X6_least_41 p1 p2 hX hret n15 _ _ _ h
      · have h := h.2 hc
        refine r_bipush (v := (-3)) hX dX6_least_27 (by decide) ?_
        exact r_iret (hret _ _ rfl h) dX6_least_29
    · have h := h.2 hc
      refine r_bipush (v := (-2)) hX dX6_least_17 (by decide) ?_
      exact r_iret (hret _ _ rfl h) dX6_least_19
  · have h := h.2 hc
    refine r_iconst (v := (-1)) hX dX6_least_8 (by decide) ?_
    exact r_iret (hret _ _ rfl h) dX6_least_9
set_option maxRecDepth 100000 in
theorem c_X6_least {l : Launch} {D : va_G} {cs : CS3} {ad : Nat → Nat} (p1 : Int32) (p2 : Int32) {M : Mem} {post : Int32 → Mem → Prop} (h : wp_X6_least p1 p2 M post) : CtI l D cs ad yX6_least cX6_least 7 (some .int) 4 98 [.ref (ad 34), .int p1, .int p2] M post := met_I (k := 4) (fun ad => [.ref (ad 34), .int p1, .int p2]) (fun ad => [some (.ref (ad 34)), some (.int p1), some (.int p2), none, none, none, none]) (by decide +kernel) (fun _ => Nat.le_of_ble_eq_true rfl) (fun _ => rfl) (fun _ => rfl) (fun X hX hret => wk_X6_least p1 p2 hX hret h)
def wp_X6_mostIn (p1 : Int32) (M : Mem) (post : Int32 → Mem → Prop) : Prop := (wp_X6_layDinner p1 M (fun M2 => (wp_X6_mostSit M2 (fun r3 M4 => post r3 M4))))
set_option maxRecDepth 100000 in
theorem wk_X6_mostIn {X : CT} (p1 : Int32) (hX : okX X RX6 cX6_mostIn 4 98) {M : Mem} {post : Int32 → Mem → Prop} (hret : ∀ (r : Int32) (M' : Mem), narrow .int (.int r) = .int r → post r M' → RetI X cX6_mostIn r M') (h : wp_X6_mostIn p1 M post) : Z X M 0 [some (.ref (adX X 34)), some (.int p1)] [] := by
  unfold wp_X6_mostIn at h
  refine r_aload_n hX dX6_mostIn_0 rfl rfl ?_
  refine r_iload_n hX dX6_mostIn_1 rfl rfl ?_
  refine r_cVv1 hX fv_X6_170 ly_34 rfl ⟨Nat.le_of_ble_eq_true rfl, Nat.le_of_ble_eq_true rfl⟩ (c_X6_layDinner p1 h) (Nat.le_of_ble_eq_true rfl) dX6_mostIn_2 (fun M2 h => ?_)
  refine r_aload_n hX dX6_mostIn_5 rfl rfl ?_
  refine r_cVi0 hX fv_X6_190 ly_34 rfl ⟨Nat.le_of_ble_eq_true rfl, Nat.le_of_ble_eq_true rfl⟩ (c_X6_mostSit h) (Nat.le_of_ble_eq_true rfl) dX6_mostIn_6 (fun r3 M4 h => ?_)
  exact r_iret (hret _ _ rfl h) dX6_mostIn_9
set_option maxRecDepth 100000 in
theorem c_X6_mostIn {l : Launch} {D : va_G} {cs : CS3} {ad : Nat → Nat} (p1 : Int32) {M : Mem} {post : Int32 → Mem → Prop} (h : wp_X6_mostIn p1 M post) : CtI l D cs ad yX6_mostIn cX6_mostIn 2 (some .int) 4 98 [.ref (ad 34), .int p1] M post := met_I (k := 0) (fun ad => [.ref (ad 34), .int p1]) (fun ad => [some (.ref (ad 34)), some (.int p1)]) (by decide +kernel) (fun _ => Nat.le_of_ble_eq_true rfl) (fun _ => rfl) (fun _ => rfl) (fun X hX hret => wk_X6_mostIn p1 hX hret h)
def lp_X6_when_22 (p1 : Int32) (post : Int32 → Mem → Prop) : Nat → Int32 → Mem → Prop
  | 0, _, _ => False
  | n + 1, x2, M => ((20 ≤ x2 → post (-9) M) ∧ (¬ 20 ≤ x2 → (wp_X6_mostIn x2 M (fun r3 M4 => ((¬ r3 = (M4 34 5) → lp_X6_when_22 p1 post n (x2 + 1) M4) ∧ (r3 = (M4 34 5) → post x2 M4))))))
set_option maxRecDepth 100000 in
theorem wl_X6_when_22 {X : CT} (p1 : Int32) (hX : okX X RX6 cX6_when 5 119) {post : Int32 → Mem → Prop} (hret : ∀ (r : Int32) (M' : Mem), narrow .int (.int r) = .int r → post r M' → RetI X cX6_when r M') : ∀ (n : Nat) (x2 : Int32) (M : Mem), lp_X6_when_22 p1 post n x2 M → Z X M 22 [some (.ref (adX X 34)), none, some (.int x2)] [] := by
  intro n
  induction n with
  | zero =>
    intro x2 M h
    exact False.elim h
  | succ n ih =>
    intro x2 M h
    unfold lp_X6_when_22 at h
    refine r_iload_n hX dX6_when_22 rfl rfl ?_
    refine r_bipush (v := 20) hX dX6_when_23 (by decide) ?_
    refine r_icmp_ge hX 48 dX6_when_25 (by decide) (fun hc => ?_) (fun hc => ?_)
    · have h := h.1 hc
      refine r_bipush (v := (-9)) hX dX6_when_48 (by decide) ?_
      exact r_iret (hret _ _ rfl h) dX6_when_50
    · have h := h.2 hc
      refine r_aload_n hX dX6_when_28 rfl rfl ?_
      refine r_iload_n hX dX6_when_29 rfl rfl ?_
      refine r_cVi1 hX fv_X6_193 ly_34 rfl ⟨Nat.le_of_ble_eq_true rfl, Nat.le_of_ble_eq_true rfl⟩ (c_X6_mostIn x2 h) (Nat.le_of_ble_eq_true rfl) dX6_when_30 (fun r3 M4 h => ?_)
      refine r_aload_n hX dX6_when_33 rfl rfl ?_
      refine r_getI hX fg_X6_87 ly_34 rfl dX6_when_34 ?_
      refine r_icmp_ne hX 42 dX6_when_37 (by decide) (fun hc => ?_) (fun hc => ?_)
      · have h := h.1 hc
        refine r_iinc (v := x2 + 1) (L' := [some (.ref (adX X 34)), none, some (.int (x2 + 1))]) hX dX6_when_42 rfl rfl rfl rfl ?_
        refine r_goto hX 22 dX6_when_45 (by decide) ?_
        refine r_sub [some (.ref (adX X 34)), none, some (.int (x2 + 1))] (And.intro rfl (And.intro rfl trivial)) ?_
        exact ih _ _ h
      · have h := h.2 hc
        refine r_iload_n hX dX6_when_40 rfl rfl ?_
        exact r_iret (hret _ _ rfl h) dX6_when_41
def wp_X6_when (p1 : Int32) (M : Mem) (post : Int32 → Mem → Prop) : Prop := (wp_X6_isDinner p1 M (fun r1 M2 => ((¬ r1 = 0 → ((¬ (M2 34 6) = 0 → (∃ k, lp_X6_when_22 p1 post k p1 M2)) ∧ ((M2 34 6) = 0 → post (-3) M2))) ∧ (r1 = 0 → post (-2) M2))))
set_option maxRecDepth 100000 in
theorem wk_X6_when {X : CT} (p1 : Int32) (hX : okX X RX6 cX6_when 5 119) {M : Mem} {post : Int32 → Mem → Prop} (hret : ∀ (r : Int32) (M' : Mem), narrow .int (.int r) = .int r → post r M' → RetI X cX6_when r M') (h : wp_X6_when p1 M post) : Z X M 0 [some (.ref (adX X 34)), some (.int p1), none] [] := by
  unfold wp_X6_when at h
  refine r_iload_n hX dX6_when_0 rfl rfl ?_
  refine r_cSi1 hX fs_X6_146 ⟨Nat.le_of_ble_eq_true rfl, Nat.le_of_ble_eq_true rfl⟩ (c_X6_isDinner p1 h) (Nat.le_of_ble_eq_true rfl) dX6_when_1 (fun r1 M2 h => ?_)
  refine r_if_ne hX 10 dX6_when_4 (by decide) (fun hc => ?_) (fun hc => ?_)
  · have h := h.1 hc
    refine r_aload_n hX dX6_when_10 rfl rfl ?_
    refine r_getI hX fg_X6_90 ly_34 rfl dX6_when_11 ?_
    refine r_if_ne hX 20 dX6_when_14 (by decide) (fun hc => ?_) (fun hc => ?_)
    · have h := h.1 hc
      refine r_iload_n hX dX6_when_20 rfl rfl ?_
      refine r_istore_n (L' := [some (.ref (adX X 34)), some (.int p1), some (.int p1)]) hX dX6_when_21 rfl (Nat.lt_of_ble rfl) rfl rfl ?_
      obtain ⟨n5, h⟩ := h
      refine r_sub [some (.ref (adX X 34)), none, some (.int p1)] (And.intro rfl (And.intro rfl trivial)) ?_
      exact wl_X6_when_22 p1 hX hret n5 _ _ h
    · have h := h.2 hc
      refine r_bipush (v := (-3)) hX dX6_when_17 (by decide) ?_
      exact r_iret (hret _ _ rfl h) dX6_when_19
  · have h := h.2 hc
    refine r_bipush (v := (-2)) hX dX6_when_7 (by decide) ?_
    exact r_iret (hret _ _ rfl h) dX6_when_9
set_option maxRecDepth 100000 in
theorem c_X6_when {l : Launch} {D : va_G} {cs : CS3} {ad : Nat → Nat} (p1 : Int32) {M : Mem} {post : Int32 → Mem → Prop} (h : wp_X6_when p1 M post) : CtI l D cs ad yX6_when cX6_when 3 (some .int) 5 119 [.ref (ad 34), .int p1] M post := met_I (k := 1) (fun ad => [.ref (ad 34), .int p1]) (fun ad => [some (.ref (ad 34)), some (.int p1), none]) (by decide +kernel) (fun _ => Nat.le_of_ble_eq_true rfl) (fun _ => rfl) (fun _ => rfl) (fun X hX hret => wk_X6_when p1 hX hret h)
def wp_X6_fresh (p1 : Int32) (p2 : Int32) (M : Mem) (post : Int32 → Mem → Prop) : Prop := (wp_X6_isChair p1 M (fun r1 M2 => ((¬ r1 = 0 → (wp_X6_isDinner p2 M2 (fun r3 M4 => ((¬ r3 = 0 → (wp_X6_mostIn p2 M4 (fun r5 M6 => (∀ M7 : Mem, M7 = up2 M6 34 19 p1 → (wp_X6_mostIn p2 M7 (fun r8 M9 => (∀ M10 : Mem, M10 = up2 M9 34 19 (-9) → post (r8 - r5) M10))))))) ∧ (r3 = 0 → post (-2) M4))))) ∧ (r1 = 0 → post (-1) M2))))
set_option maxRecDepth 100000 in
theorem wk_X6_fresh {X : CT} (p1 : Int32) (p2 : Int32) (hX : okX X RX6 cX6_fresh 5 119) {M : Mem} {post : Int32 → Mem → Prop} (hret : ∀ (r : Int32) (M' : Mem), narrow .int (.int r) = .int r → post r M' → RetI X cX6_fresh r M') (h : wp_X6_fresh p1 p2 M post) : Z X M 0 [some (.ref (adX X 34)), some (.int p1), some (.int p2), none, none] [] := by
  unfold wp_X6_fresh at h
  refine r_aload_n hX dX6_fresh_0 rfl rfl ?_
  refine r_iload_n hX dX6_fresh_1 rfl rfl ?_
  refine r_cVi1 hX fv_X6_140 ly_34 rfl ⟨Nat.le_of_ble_eq_true rfl, Nat.le_of_ble_eq_true rfl⟩ (c_X6_isChair p1 h) (Nat.le_of_ble_eq_true rfl) dX6_fresh_2 (fun r1 M2 h => ?_)
  refine r_if_ne hX 10 dX6_fresh_5 (by decide) (fun hc => ?_) (fun hc => ?_)
  · have h := h.1 hc
    refine r_iload_n hX dX6_fresh_10 rfl rfl ?_
    refine r_cSi1 hX fs_X6_146 ⟨Nat.le_of_ble_eq_true rfl, Nat.le_of_ble_eq_true rfl⟩ (c_X6_isDinner p2 h) (Nat.le_of_ble_eq_true rfl) dX6_fresh_11 (fun r3 M4 h => ?_)
    refine r_if_ne hX 20 dX6_fresh_14 (by decide) (fun hc => ?_) (fun hc => ?_)
    · have h := h.1 hc
      refine r_aload_n hX dX6_fresh_20 rfl rfl ?_
      refine r_iload_n hX dX6_fresh_21 rfl rfl ?_
      refine r_cVi1 hX fv_X6_193 ly_34 rfl ⟨Nat.le_of_ble_eq_true rfl, Nat.le_of_ble_eq_true rfl⟩ (c_X6_mostIn p2 h) (Nat.le_of_ble_eq_true rfl) dX6_fresh_22 (fun r5 M6 h => ?_)
      refine r_istore_n (L' := [some (.ref (adX X 34)), some (.int p1), some (.int p2), some (.int r5), none]) hX dX6_fresh_25 rfl (Nat.lt_of_ble rfl) rfl rfl ?_
      refine r_aload_n hX dX6_fresh_26 rfl rfl ?_
      refine r_iload_n hX dX6_fresh_27 rfl rfl ?_
      refine r_putI hX fp_X6_46 ly_34 rfl dX6_fresh_28 ?_
      refine r_nmM (fun M7 eM7 => ?_)
      have h := h M7 eM7
      refine r_aload_n hX dX6_fresh_31 rfl rfl ?_
      refine r_iload_n hX dX6_fresh_32 rfl rfl ?_
      refine r_cVi1 hX fv_X6_193 ly_34 rfl ⟨Nat.le_of_ble_eq_true rfl, Nat.le_of_ble_eq_true rfl⟩ (c_X6_mostIn p2 h) (Nat.le_of_ble_eq_true rfl) dX6_fresh_33 (fun r8 M9 h => ?_)
      refine r_istore (L' := [some (.ref (adX X 34)), some (.int p1), some (.int p2), some (.int r5), some (.int r8)]) hX dX6_fresh_36 (Nat.lt_of_ble rfl) rfl rfl ?_
      refine r_aload_n hX dX6_fresh_38 rfl rfl ?_
      refine r_bipush (v := (-9)) hX dX6_fresh_39 (by decide) ?_
      refine r_putI hX fp_X6_46 ly_34 rfl dX6_fresh_41 ?_
      refine r_nmM (fun M10 eM10 => ?_)
      have h := h M10 eM10
      refine r_iload hX dX6_fresh_44 rfl ?_
      refine r_iload_n hX dX6_fresh_46 rfl rfl ?_
      refine r_isub hX dX6_fresh_47 ?_
      exact r_iret (hret _ _ rfl h) dX6_fresh_48
    · have h := h.2 hc
      refine r_bipush (v := (-2)) hX dX6_fresh_17 (by decide) ?_
      exact r_iret (hret _ _ rfl h) dX6_fresh_19
  · have h := h.2 hc
    refine r_iconst (v := (-1)) hX dX6_fresh_8 (by decide) ?_
    exact r_iret (hret _ _ rfl h) dX6_fresh_9
set_option maxRecDepth 100000 in
theorem c_X6_fresh {l : Launch} {D : va_G} {cs : CS3} {ad : Nat → Nat} (p1 : Int32) (p2 : Int32) {M : Mem} {post : Int32 → Mem → Prop} (h : wp_X6_fresh p1 p2 M post) : CtI l D cs ad yX6_fresh cX6_fresh 5 (some .int) 5 119 [.ref (ad 34), .int p1, .int p2] M post := met_I (k := 2) (fun ad => [.ref (ad 34), .int p1, .int p2]) (fun ad => [some (.ref (ad 34)), some (.int p1), some (.int p2), none, none]) (by decide +kernel) (fun _ => Nat.le_of_ble_eq_true rfl) (fun _ => rfl) (fun _ => rfl) (fun X hX hret => wk_X6_fresh p1 p2 hX hret h)
def wp_X6_reading (p1 : Int32) (p2 : Int32) (p3 : Int32) (p4 : Int32) (M : Mem) (post : Int32 → Mem → Prop) : Prop := (wp_X6_isChair p2 M (fun r1 M2 => ((r1 = 0 → post (-1) M2) ∧ (¬ r1 = 0 → (wp_X6_isGuest p3 M2 (fun r3 M4 => ((¬ r3 = 0 → (wp_X6_isDinner p1 M4 (fun r5 M6 => ((¬ r5 = 0 → ((¬ (M6 34 28) = 8 → (vp_in (M6 34 28) 8 ∧ ∀ M7 : Mem, M7 = up2 M6 52 (M6 34 28).toNatClampNeg p1 → (vp_in (M7 34 28) 8 ∧ ∀ M8 : Mem, M8 = up2 M7 53 (M7 34 28).toNatClampNeg p2 → (vp_in (M8 34 28) 8 ∧ ∀ M9 : Mem, M9 = up2 M8 54 (M8 34 28).toNatClampNeg p3 → (vp_in (M9 34 28) 8 ∧ ∀ M10 : Mem, M10 = up2 M9 55 (M9 34 28).toNatClampNeg (vp_nar .boolean p4) → (∀ M11 : Mem, M11 = up2 M10 34 28 ((M10 34 28) + 1) → post ((M11 34 28) - 1) M11)))))) ∧ ((M6 34 28) = 8 → post (-4) M6))) ∧ (r5 = 0 → post (-2) M6))))) ∧ (r3 = 0 → post (-1) M4))))))))
set_option maxRecDepth 100000 in
theorem wk_X6_reading {X : CT} (p1 : Int32) (p2 : Int32) (p3 : Int32) (p4 : Int32) (hX : okX X RX6 cX6_reading 2 42) {M : Mem} {post : Int32 → Mem → Prop} (hret : ∀ (r : Int32) (M' : Mem), narrow .int (.int r) = .int r → post r M' → RetI X cX6_reading r M') (h : wp_X6_reading p1 p2 p3 p4 M post) : Z X M 0 [some (.ref (adX X 34)), some (.int p1), some (.int p2), some (.int p3), some (.int p4)] [] := by
  unfold wp_X6_reading at h
  refine r_aload_n hX dX6_reading_0 rfl rfl ?_
  refine r_iload_n hX dX6_reading_1 rfl rfl ?_
  refine r_cVi1 hX fv_X6_140 ly_34 rfl ⟨Nat.le_of_ble_eq_true rfl, Nat.le_of_ble_eq_true rfl⟩ (c_X6_isChair p2 h) (Nat.le_of_ble_eq_true rfl) dX6_reading_2 (fun r1 M2 h => ?_)
  refine r_if_eq hX 16 dX6_reading_5 (by decide) (fun hc => ?_) (fun hc => ?_)
  · have h := h.1 hc
    refine r_iconst (v := (-1)) hX dX6_reading_16 (by decide) ?_
    exact r_iret (hret _ _ rfl h) dX6_reading_17
  · have h := h.2 hc
    refine r_aload_n hX dX6_reading_8 rfl rfl ?_
    refine r_iload_n hX dX6_reading_9 rfl rfl ?_
    refine r_cVi1 hX fv_X6_143 ly_34 rfl ⟨Nat.le_of_ble_eq_true rfl, Nat.le_of_ble_eq_true rfl⟩ (c_X6_isGuest p3 h) (Nat.le_of_ble_eq_true rfl) dX6_reading_10 (fun r3 M4 h => ?_)
    refine r_if_ne hX 18 dX6_reading_13 (by decide) (fun hc => ?_) (fun hc => ?_)
    · have h := h.1 hc
      refine r_iload_n hX dX6_reading_18 rfl rfl ?_
      refine r_cSi1 hX fs_X6_146 ⟨Nat.le_of_ble_eq_true rfl, Nat.le_of_ble_eq_true rfl⟩ (c_X6_isDinner p1 h) (Nat.le_of_ble_eq_true rfl) dX6_reading_19 (fun r5 M6 h => ?_)
      refine r_if_ne hX 28 dX6_reading_22 (by decide) (fun hc => ?_) (fun hc => ?_)
      · have h := h.1 hc
        refine r_aload_n hX dX6_reading_28 rfl rfl ?_
        refine r_getI hX fg_X6_126 ly_34 rfl dX6_reading_29 ?_
        refine r_bipush (v := 8) hX dX6_reading_32 (by decide) ?_
        refine r_icmp_ne hX 40 dX6_reading_34 (by decide) (fun hc => ?_) (fun hc => ?_)
        · have h := h.1 hc
          refine r_aload_n hX dX6_reading_40 rfl rfl ?_
          refine r_getR hX fg_X6_66 ly_34 rfl dX6_reading_41 ?_
          refine r_aload_n hX dX6_reading_44 rfl rfl ?_
          refine r_getI hX fg_X6_126 ly_34 rfl dX6_reading_45 ?_
          refine r_iload_n hX dX6_reading_48 rfl rfl ?_
          refine r_iast hX ly_52 h.1 dX6_reading_49 ?_
          refine r_nmM (fun M7 eM7 => ?_)
          have h := h.2 M7 eM7
          refine r_aload_n hX dX6_reading_50 rfl rfl ?_
          refine r_getR hX fg_X6_69 ly_34 rfl dX6_reading_51 ?_
          refine r_aload_n hX dX6_reading_54 rfl rfl ?_
          refine r_getI hX fg_X6_126 ly_34 rfl dX6_reading_55 ?_
          refine r_iload_n hX dX6_reading_58 rfl rfl ?_
          refine r_iast hX ly_53 h.1 dX6_reading_59 ?_
          refine r_nmM (fun M8 eM8 => ?_)
          have h := h.2 M8 eM8
          refine r_aload_n hX dX6_reading_60 rfl rfl ?_
          refine r_getR hX fg_X6_72 ly_34 rfl dX6_reading_61 ?_
          refine r_aload_n hX dX6_reading_64 rfl rfl ?_
          refine r_getI hX fg_X6_126 ly_34 rfl dX6_reading_65 ?_
          refine r_iload_n hX dX6_reading_68 rfl rfl ?_
          refine r_iast hX ly_54 h.1 dX6_reading_69 ?_
          refine r_nmM (fun M9 eM9 => ?_)
          have h := h.2 M9 eM9
          refine r_aload_n hX dX6_reading_70 rfl rfl ?_
          refine r_getR hX fg_X6_75 ly_34 rfl dX6_reading_71 ?_
          refine r_aload_n hX dX6_reading_74 rfl rfl ?_
          refine r_getI hX fg_X6_126 ly_34 rfl dX6_reading_75 ?_
          refine r_iload hX dX6_reading_78 rfl ?_
          refine r_zast hX ly_55 h.1 dX6_reading_80 ?_
          refine r_nmM (fun M10 eM10 => ?_)
          have h := h.2 M10 eM10
          refine r_aload_n hX dX6_reading_81 rfl rfl ?_
          refine r_dup hX dX6_reading_82 rfl ?_
          refine r_getI hX fg_X6_126 ly_34 rfl dX6_reading_83 ?_
          refine r_iconst (v := 1) hX dX6_reading_86 (by decide) ?_
          refine r_iadd hX dX6_reading_87 ?_
          refine r_putI hX fp_X6_126 ly_34 rfl dX6_reading_88 ?_
          refine r_nmM (fun M11 eM11 => ?_)
          have h := h M11 eM11
          refine r_aload_n hX dX6_reading_91 rfl rfl ?_
          refine r_getI hX fg_X6_126 ly_34 rfl dX6_reading_92 ?_
          refine r_iconst (v := 1) hX dX6_reading_95 (by decide) ?_
          refine r_isub hX dX6_reading_96 ?_
          exact r_iret (hret _ _ rfl h) dX6_reading_97
        · have h := h.2 hc
          refine r_bipush (v := (-4)) hX dX6_reading_37 (by decide) ?_
          exact r_iret (hret _ _ rfl h) dX6_reading_39
      · have h := h.2 hc
        refine r_bipush (v := (-2)) hX dX6_reading_25 (by decide) ?_
        exact r_iret (hret _ _ rfl h) dX6_reading_27
    · have h := h.2 hc
      refine r_iconst (v := (-1)) hX dX6_reading_16 (by decide) ?_
      exact r_iret (hret _ _ rfl h) dX6_reading_17
set_option maxRecDepth 100000 in
theorem c_X6_reading {l : Launch} {D : va_G} {cs : CS3} {ad : Nat → Nat} (p1 : Int32) (p2 : Int32) (p3 : Int32) (p4 : Int32) {M : Mem} {post : Int32 → Mem → Prop} (h : wp_X6_reading p1 p2 p3 p4 M post) : CtI l D cs ad yX6_reading cX6_reading 5 (some .int) 2 42 [.ref (ad 34), .int p1, .int p2, .int p3, .int p4] M post := met_I (k := 0) (fun ad => [.ref (ad 34), .int p1, .int p2, .int p3, .int p4]) (fun ad => [some (.ref (ad 34)), some (.int p1), some (.int p2), some (.int p3), some (.int p4)]) (by decide +kernel) (fun _ => Nat.le_of_ble_eq_true rfl) (fun _ => rfl) (fun _ => rfl) (fun X hX hret => wk_X6_reading p1 p2 p3 p4 hX hret h)
def wp_X6_back (p1 : Int32) (M : Mem) (post : Int32 → Mem → Prop) : Prop := (wp_X6_within p1 0 (M 34 28) M (fun r1 M2 => ((¬ r1 = 0 → (∀ M3 : Mem, M3 = up2 M2 34 28 ((M2 34 28) - p1) → post (M3 34 28) M3)) ∧ (r1 = 0 → post (-2) M2))))
set_option maxRecDepth 100000 in
theorem wk_X6_back {X : CT} (p1 : Int32) (hX : okX X RX6 cX6_back 1 22) {M : Mem} {post : Int32 → Mem → Prop} (hret : ∀ (r : Int32) (M' : Mem), narrow .int (.int r) = .int r → post r M' → RetI X cX6_back r M') (h : wp_X6_back p1 M post) : Z X M 0 [some (.ref (adX X 34)), some (.int p1)] [] := by
  unfold wp_X6_back at h
  refine r_iload_n hX dX6_back_0 rfl rfl ?_
  refine r_iconst (v := 0) hX dX6_back_1 (by decide) ?_
  refine r_aload_n hX dX6_back_2 rfl rfl ?_
  refine r_getI hX fg_X6_126 ly_34 rfl dX6_back_3 ?_
  refine r_cSi3 hX fs_X6_83 ⟨Nat.le_of_ble_eq_true rfl, Nat.le_of_ble_eq_true rfl⟩ (c_X6_within p1 0 (M 34 28) h) (Nat.le_of_ble_eq_true rfl) dX6_back_6 (fun r1 M2 h => ?_)
  refine r_if_ne hX 15 dX6_back_9 (by decide) (fun hc => ?_) (fun hc => ?_)
  · have h := h.1 hc
    refine r_aload_n hX dX6_back_15 rfl rfl ?_
    refine r_dup hX dX6_back_16 rfl ?_
    refine r_getI hX fg_X6_126 ly_34 rfl dX6_back_17 ?_
    refine r_iload_n hX dX6_back_20 rfl rfl ?_
    refine r_isub hX dX6_back_21 ?_
    refine r_putI hX fp_X6_126 ly_34 rfl dX6_back_22 ?_
    refine r_nmM (fun M3 eM3 => ?_)
    have h := h M3 eM3
    refine r_aload_n hX dX6_back_25 rfl rfl ?_
    refine r_getI hX fg_X6_126 ly_34 rfl dX6_back_26 ?_
    exact r_iret (hret _ _ rfl h) dX6_back_29
  · have h := h.2 hc
    refine r_bipush (v := (-2)) hX dX6_back_12 (by decide) ?_
    exact r_iret (hret _ _ rfl h) dX6_back_14
set_option maxRecDepth 100000 in
theorem c_X6_back {l : Launch} {D : va_G} {cs : CS3} {ad : Nat → Nat} (p1 : Int32) {M : Mem} {post : Int32 → Mem → Prop} (h : wp_X6_back p1 M post) : CtI l D cs ad yX6_back cX6_back 2 (some .int) 1 22 [.ref (ad 34), .int p1] M post := met_I (k := 0) (fun ad => [.ref (ad 34), .int p1]) (fun ad => [some (.ref (ad 34)), some (.int p1)]) (by decide +kernel) (fun _ => Nat.le_of_ble_eq_true rfl) (fun _ => rfl) (fun _ => rfl) (fun X hX hret => wk_X6_back p1 hX hret h)
def lp_X6_areSo_2 (post : Int32 → Mem → Prop) : Nat → Int32 → Mem → Prop
  | 0, _, _ => False
  | n + 1, x1, M => (((M 34 28) ≤ x1 → post 1 M) ∧ (¬ (M 34 28) ≤ x1 → (vp_in x1 8 ∧ (vp_in x1 8 ∧ (vp_in x1 8 ∧ (wp_X6_doesBear (M 53 x1.toNatClampNeg) (M 54 x1.toNatClampNeg) (M 52 x1.toNatClampNeg) M (fun r1 M2 => (vp_in x1 8 ∧ ((r1 = (M2 55 x1.toNatClampNeg) → lp_X6_areSo_2 post n (x1 + 1) M2) ∧ (¬ r1 = (M2 55 x1.toNatClampNeg) → post 0 M2))))))))))
set_option maxRecDepth 100000 in
theorem wl_X6_areSo_2 {X : CT} (hX : okX X RX6 cX6_areSo 3 75) {post : Int32 → Mem → Prop} (hret : ∀ (r : Int32) (M' : Mem), narrow .boolean (.int r) = .int r → post r M' → RetI X cX6_areSo r M') : ∀ (n : Nat) (x1 : Int32) (M : Mem), lp_X6_areSo_2 post n x1 M → Z X M 2 [some (.ref (adX X 34)), some (.int x1)] [] := by
  intro n
  induction n with
  | zero =>
    intro x1 M h
    exact False.elim h
  | succ n ih =>
    intro x1 M h
    unfold lp_X6_areSo_2 at h
    refine r_iload_n hX dX6_areSo_2 rfl rfl ?_
    refine r_aload_n hX dX6_areSo_3 rfl rfl ?_
    refine r_getI hX fg_X6_126 ly_34 rfl dX6_areSo_4 ?_
    refine r_icmp_ge hX 49 dX6_areSo_7 (by decide) (fun hc => ?_) (fun hc => ?_)
    · have h := h.1 hc
      refine r_iconst (v := 1) hX dX6_areSo_49 (by decide) ?_
      exact r_iret (hret _ _ rfl h) dX6_areSo_50
    · have h := h.2 hc
      refine r_aload_n hX dX6_areSo_10 rfl rfl ?_
      refine r_aload_n hX dX6_areSo_11 rfl rfl ?_
      refine r_getR hX fg_X6_69 ly_34 rfl dX6_areSo_12 ?_
      refine r_iload_n hX dX6_areSo_15 rfl rfl ?_
      refine r_iald hX ly_53 h.1 dX6_areSo_16 ?_
      have h := h.2
      refine r_aload_n hX dX6_areSo_17 rfl rfl ?_
      refine r_getR hX fg_X6_72 ly_34 rfl dX6_areSo_18 ?_
      refine r_iload_n hX dX6_areSo_21 rfl rfl ?_
      refine r_iald hX ly_54 h.1 dX6_areSo_22 ?_
      have h := h.2
      refine r_aload_n hX dX6_areSo_23 rfl rfl ?_
      refine r_getR hX fg_X6_66 ly_34 rfl dX6_areSo_24 ?_
      refine r_iload_n hX dX6_areSo_27 rfl rfl ?_
      refine r_iald hX ly_52 h.1 dX6_areSo_28 ?_
      have h := h.2
      refine r_cVi3 hX fv_X6_161 ly_34 rfl ⟨Nat.le_of_ble_eq_true rfl, Nat.le_of_ble_eq_true rfl⟩ (c_X6_doesBear (M 53 x1.toNatClampNeg) (M 54 x1.toNatClampNeg) (M 52 x1.toNatClampNeg) h) (Nat.le_of_ble_eq_true rfl) dX6_areSo_29 (fun r1 M2 h => ?_)
      refine r_aload_n hX dX6_areSo_32 rfl rfl ?_
      refine r_getR hX fg_X6_75 ly_34 rfl dX6_areSo_33 ?_
      refine r_iload_n hX dX6_areSo_36 rfl rfl ?_
      refine r_zald hX ly_55 h.1 dX6_areSo_37 ?_
      have h := h.2
      refine r_icmp_eq hX 43 dX6_areSo_38 (by decide) (fun hc => ?_) (fun hc => ?_)
      · have h := h.1 hc
        refine r_iinc (v := x1 + 1) (L' := [some (.ref (adX X 34)), some (.int (x1 + 1))]) hX dX6_areSo_43 rfl rfl rfl rfl ?_
        refine r_goto hX 2 dX6_areSo_46 (by decide) ?_
        refine r_sub [some (.ref (adX X 34)), some (.int (x1 + 1))] (And.intro rfl (And.intro rfl trivial)) ?_
        exact ih _ _ h
      · have h := h.2 hc
        refine r_iconst (v := 0) hX dX6_areSo_41 (by decide) ?_
        exact r_iret (hret _ _ rfl h) dX6_areSo_42
def wp_X6_areSo (M : Mem) (post : Int32 → Mem → Prop) : Prop := (∃ k, lp_X6_areSo_2 post k 0 M)
set_option maxRecDepth 100000 in
theorem wk_X6_areSo {X : CT} (hX : okX X RX6 cX6_areSo 3 75) {M : Mem} {post : Int32 → Mem → Prop} (hret : ∀ (r : Int32) (M' : Mem), narrow .boolean (.int r) = .int r → post r M' → RetI X cX6_areSo r M') (h : wp_X6_areSo M post) : Z X M 0 [some (.ref (adX X 34)), none] [] := by
  unfold wp_X6_areSo at h
  refine r_iconst (v := 0) hX dX6_areSo_0 (by decide) ?_
  refine r_istore_n (L' := [some (.ref (adX X 34)), some (.int 0)]) hX dX6_areSo_1 rfl (Nat.lt_of_ble rfl) rfl rfl ?_
  obtain ⟨n3, h⟩ := h
  refine r_sub [some (.ref (adX X 34)), some (.int 0)] (And.intro rfl (And.intro rfl trivial)) ?_
  exact wl_X6_areSo_2 hX hret n3 _ _ h
set_option maxRecDepth 100000 in
theorem c_X6_areSo {l : Launch} {D : va_G} {cs : CS3} {ad : Nat → Nat} {M : Mem} {post : Int32 → Mem → Prop} (h : wp_X6_areSo M post) : CtI l D cs ad yX6_areSo cX6_areSo 2 (some .boolean) 3 75 [.ref (ad 34)] M post := met_I (k := 1) (fun ad => [.ref (ad 34)]) (fun ad => [some (.ref (ad 34)), none]) (by decide +kernel) (fun _ => Nat.le_of_ble_eq_true rfl) (fun _ => rfl) (fun _ => rfl) (fun X hX hret => wk_X6_areSo hX hret h)
def lp_X6_times_22 (p1 : Int32) (post : Int32 → Mem → Prop) : Nat → Int32 → Int32 → Int32 → Mem → Prop
  | 0, _, _, _, _ => False
  | n + 1, x2, x3, x4, M => ((20 ≤ x4 → (vp_in p1 8 ∧ ∀ M4 : Mem, M4 = up2 M 41 p1.toNatClampNeg x2 → post x3 M4)) ∧ (¬ 20 ≤ x4 → (vp_in p1 8 ∧ ∀ M5 : Mem, M5 = up2 M 41 p1.toNatClampNeg x4 → (wp_X6_areSo M5 (fun r6 M7 => ((r6 = 0 → (∀ v8 : Int32, v8 = x3 ||| 0 → lp_X6_times_22 p1 post n x2 v8 (x4 + 1) M7)) ∧ (¬ r6 = 0 → (∀ v9 : Int32, v9 = x3 ||| (1 <<< (x4 &&& 31)) → lp_X6_times_22 p1 post n x2 v9 (x4 + 1) M7))))))))
set_option maxRecDepth 100000 in
theorem wl_X6_times_22 {X : CT} (p1 : Int32) (hX : okX X RX6 cX6_times 4 96) {post : Int32 → Mem → Prop} (hret : ∀ (r : Int32) (M' : Mem), narrow .int (.int r) = .int r → post r M' → RetI X cX6_times r M') : ∀ (n : Nat) (x2 : Int32) (x3 : Int32) (x4 : Int32) (M : Mem), lp_X6_times_22 p1 post n x2 x3 x4 M → Z X M 22 [some (.ref (adX X 34)), some (.int p1), some (.int x2), some (.int x3), some (.int x4)] [] := by
  intro n
  induction n with
  | zero =>
    intro x2 x3 x4 M h
    exact False.elim h
  | succ n ih =>
    intro x2 x3 x4 M h
    unfold lp_X6_times_22 at h
    refine r_iload hX dX6_times_22 rfl ?_
    refine r_bipush (v := 20) hX dX6_times_24 (by decide) ?_
    refine r_icmp_ge hX 61 dX6_times_26 (by decide) (fun hc => ?_) (fun hc => ?_)
    · have h := h.1 hc
      refine r_aload_n hX dX6_times_61 rfl rfl ?_
      refine r_getR hX fg_X6_28 ly_34 rfl dX6_times_62 ?_
      refine r_iload_n hX dX6_times_65 rfl rfl ?_
      refine r_iload_n hX dX6_times_66 rfl rfl ?_
      refine r_iast hX ly_41 h.1 dX6_times_67 ?_
      refine r_nmM (fun M4 eM4 => ?_)
      have h := h.2 M4 eM4
      refine r_iload_n hX dX6_times_68 rfl rfl ?_
      exact r_iret (hret _ _ rfl h) dX6_times_69
    · have h := h.2 hc
      refine r_aload_n hX dX6_times_29 rfl rfl ?_
      refine r_getR hX fg_X6_28 ly_34 rfl dX6_times_30 ?_
      refine r_iload_n hX dX6_times_33 rfl rfl ?_
      refine r_iload hX dX6_times_34 rfl ?_
      refine r_iast hX ly_41 h.1 dX6_times_36 ?_
      refine r_nmM (fun M5 eM5 => ?_)
      have h := h.2 M5 eM5
      refine r_iload_n hX dX6_times_37 rfl rfl ?_
      refine r_aload_n hX dX6_times_38 rfl rfl ?_
      refine r_cVi0 hX fv_X6_196 ly_34 rfl ⟨Nat.le_of_ble_eq_true rfl, Nat.le_of_ble_eq_true rfl⟩ (c_X6_areSo h) (Nat.le_of_ble_eq_true rfl) dX6_times_39 (fun r6 M7 h => ?_)
      refine r_if_eq hX 52 dX6_times_42 (by decide) (fun hc => ?_) (fun hc => ?_)
      · have h := h.1 hc
        refine r_iconst (v := 0) hX dX6_times_52 (by decide) ?_
        refine r_ior hX dX6_times_53 ?_
        refine r_nm (fun v8 ev8 => ?_)
        have h := h v8 ev8
        refine r_istore_n (L' := [some (.ref (adX X 34)), some (.int p1), some (.int x2), some (.int v8), some (.int x4)]) hX dX6_times_54 rfl (Nat.lt_of_ble rfl) rfl rfl ?_
        refine r_iinc (v := x4 + 1) (L' := [some (.ref (adX X 34)), some (.int p1), some (.int x2), some (.int v8), some (.int (x4 + 1))]) hX dX6_times_55 rfl rfl rfl rfl ?_
        refine r_goto hX 22 dX6_times_58 (by decide) ?_
        refine r_sub [some (.ref (adX X 34)), some (.int p1), some (.int x2), some (.int v8), some (.int (x4 + 1))] (And.intro rfl (And.intro rfl (And.intro rfl (And.intro rfl (And.intro rfl trivial))))) ?_
        exact ih _ _ _ _ h
      · have h := h.2 hc
        refine r_iconst (v := 1) hX dX6_times_45 (by decide) ?_
        refine r_iload hX dX6_times_46 rfl ?_
        refine r_ishl hX dX6_times_48 ?_
        refine r_goto hX 53 dX6_times_49 (by decide) ?_
        refine r_ior hX dX6_times_53 ?_
        refine r_nm (fun v9 ev9 => ?_)
        have h := h v9 ev9
        refine r_istore_n (L' := [some (.ref (adX X 34)), some (.int p1), some (.int x2), some (.int v9), some (.int x4)]) hX dX6_times_54 rfl (Nat.lt_of_ble rfl) rfl rfl ?_
        refine r_iinc (v := x4 + 1) (L' := [some (.ref (adX X 34)), some (.int p1), some (.int x2), some (.int v9), some (.int (x4 + 1))]) hX dX6_times_55 rfl rfl rfl rfl ?_
        refine r_goto hX 22 dX6_times_58 (by decide) ?_
        refine r_sub [some (.ref (adX X 34)), some (.int p1), some (.int x2), some (.int v9), some (.int (x4 + 1))] (And.intro rfl (And.intro rfl (And.intro rfl (And.intro rfl (And.intro rfl trivial))))) ?_
        exact ih _ _ _ _ h
def wp_X6_times (p1 : Int32) (M : Mem) (post : Int32 → Mem → Prop) : Prop := (wp_X6_isSlip p1 M (fun r1 M2 => ((¬ r1 = 0 → (vp_in p1 8 ∧ (∀ v3 : Int32, v3 = M2 41 p1.toNatClampNeg → (∃ k, lp_X6_times_22 p1 post k v3 0 0 M2)))) ∧ (r1 = 0 → post (-1) M2))))
set_option maxRecDepth 100000 in
theorem wk_X6_times {X : CT} (p1 : Int32) (hX : okX X RX6 cX6_times 4 96) {M : Mem} {post : Int32 → Mem → Prop} (hret : ∀ (r : Int32) (M' : Mem), narrow .int (.int r) = .int r → post r M' → RetI X cX6_times r M') (h : wp_X6_times p1 M post) : Z X M 0 [some (.ref (adX X 34)), some (.int p1), none, none, none] [] := by
  unfold wp_X6_times at h
  refine r_aload_n hX dX6_times_0 rfl rfl ?_
  refine r_iload_n hX dX6_times_1 rfl rfl ?_
  refine r_cVi1 hX fv_X6_149 ly_34 rfl ⟨Nat.le_of_ble_eq_true rfl, Nat.le_of_ble_eq_true rfl⟩ (c_X6_isSlip p1 h) (Nat.le_of_ble_eq_true rfl) dX6_times_2 (fun r1 M2 h => ?_)
  refine r_if_ne hX 10 dX6_times_5 (by decide) (fun hc => ?_) (fun hc => ?_)
  · have h := h.1 hc
    refine r_aload_n hX dX6_times_10 rfl rfl ?_
    refine r_getR hX fg_X6_28 ly_34 rfl dX6_times_11 ?_
    refine r_iload_n hX dX6_times_14 rfl rfl ?_
    refine r_iald hX ly_41 h.1 dX6_times_15 ?_
    have h := h.2
    refine r_nm (fun v3 ev3 => ?_)
    have h := h v3 ev3
    refine r_istore_n (L' := [some (.ref (adX X 34)), some (.int p1), some (.int v3), none, none]) hX dX6_times_16 rfl (Nat.lt_of_ble rfl) rfl rfl ?_
    refine r_iconst (v := 0) hX dX6_times_17 (by decide) ?_
    refine r_istore_n (L' := [some (.ref (adX X 34)), some (.int p1), some (.int v3), some (.int 0), none]) hX dX6_times_18 rfl (Nat.lt_of_ble rfl) rfl rfl ?_
    refine r_iconst (v := 0) hX dX6_times_19 (by decide) ?_
    refine r_istore (L' := [some (.ref (adX X 34)), some (.int p1), some (.int v3), some (.int 0), some (.int 0)]) hX dX6_times_20 (Nat.lt_of_ble rfl) rfl rfl ?_
    obtain ⟨n10, h⟩ := h
    refine r_sub [some (.ref (adX X 34)), some (.int p1), some (.int v3), some (.int 0), some (.int 0)] (And.intro rfl (And.intro rfl (And.intro rfl (And.intro rfl (And.intro rfl trivial))))) ?_
    exact wl_X6_times_22 p1 hX hret n10 _ _ _ _ h
  · have h := h.2 hc
    refine r_iconst (v := (-1)) hX dX6_times_8 (by decide) ?_
    exact r_iret (hret _ _ rfl h) dX6_times_9
set_option maxRecDepth 100000 in
theorem c_X6_times {l : Launch} {D : va_G} {cs : CS3} {ad : Nat → Nat} (p1 : Int32) {M : Mem} {post : Int32 → Mem → Prop} (h : wp_X6_times p1 M post) : CtI l D cs ad yX6_times cX6_times 5 (some .int) 4 96 [.ref (ad 34), .int p1] M post := met_I (k := 3) (fun ad => [.ref (ad 34), .int p1]) (fun ad => [some (.ref (ad 34)), some (.int p1), none, none, none]) (by decide +kernel) (fun _ => Nat.le_of_ble_eq_true rfl) (fun _ => rfl) (fun _ => rfl) (fun X hX hret => wk_X6_times p1 hX hret h)
def lp_X6_grudges_22 (p1 : Int32) (post : Int32 → Mem → Prop) : Nat → Int32 → Int32 → Int32 → Mem → Prop
  | 0, _, _, _, _ => False
  | n + 1, x2, x3, x4, M => ((9 < x4 → (vp_in p1 5 ∧ ∀ M4 : Mem, M4 = up2 M 40 p1.toNatClampNeg x2 → post x3 M4)) ∧ (¬ 9 < x4 → (vp_in p1 5 ∧ ∀ M5 : Mem, M5 = up2 M 40 p1.toNatClampNeg x4 → (wp_X6_areSo M5 (fun r6 M7 => ((r6 = 0 → (∀ v8 : Int32, v8 = x3 ||| 0 → lp_X6_grudges_22 p1 post n x2 v8 (x4 + 1) M7)) ∧ (¬ r6 = 0 → (∀ v9 : Int32, v9 = x3 ||| (1 <<< (x4 &&& 31)) → lp_X6_grudges_22 p1 post n x2 v9 (x4 + 1) M7))))))))
set_option maxRecDepth 100000 in
theorem wl_X6_grudges_22 {X : CT} (p1 : Int32) (hX : okX X RX6 cX6_grudges 4 96) {post : Int32 → Mem → Prop} (hret : ∀ (r : Int32) (M' : Mem), narrow .int (.int r) = .int r → post r M' → RetI X cX6_grudges r M') : ∀ (n : Nat) (x2 : Int32) (x3 : Int32) (x4 : Int32) (M : Mem), lp_X6_grudges_22 p1 post n x2 x3 x4 M → Z X M 22 [some (.ref (adX X 34)), some (.int p1), some (.int x2), some (.int x3), some (.int x4)] [] := by
  intro n
  induction n with
  | zero =>
    intro x2 x3 x4 M h
    exact False.elim h
  | succ n ih =>
    intro x2 x3 x4 M h
    unfold lp_X6_grudges_22 at h
    refine r_iload hX dX6_grudges_22 rfl ?_
    refine r_bipush (v := 9) hX dX6_grudges_24 (by decide) ?_
    refine r_icmp_gt hX 61 dX6_grudges_26 (by decide) (fun hc => ?_) (fun hc => ?_)
    · have h := h.1 hc
      refine r_aload_n hX dX6_grudges_61 rfl rfl ?_
      refine r_getR hX fg_X6_25 ly_34 rfl dX6_grudges_62 ?_
      refine r_iload_n hX dX6_grudges_65 rfl rfl ?_
      refine r_iload_n hX dX6_grudges_66 rfl rfl ?_
      refine r_iast hX ly_40 h.1 dX6_grudges_67 ?_
      refine r_nmM (fun M4 eM4 => ?_)
      have h := h.2 M4 eM4
      refine r_iload_n hX dX6_grudges_68 rfl rfl ?_
      exact r_iret (hret _ _ rfl h) dX6_grudges_69
    · have h := h.2 hc
      refine r_aload_n hX dX6_grudges_29 rfl rfl ?_
      refine r_getR hX fg_X6_25 ly_34 rfl dX6_grudges_30 ?_
      refine r_iload_n hX dX6_grudges_33 rfl rfl ?_
      refine r_iload hX dX6_grudges_34 rfl ?_
      refine r_iast hX ly_40 h.1 dX6_grudges_36 ?_
      refine r_nmM (fun M5 eM5 => ?_)
      have h := h.2 M5 eM5
      refine r_iload_n hX dX6_grudges_37 rfl rfl ?_
      refine r_aload_n hX dX6_grudges_38 rfl rfl ?_
      refine r_cVi0 hX fv_X6_196 ly_34 rfl ⟨Nat.le_of_ble_eq_true rfl, Nat.le_of_ble_eq_true rfl⟩ (c_X6_areSo h) (Nat.le_of_ble_eq_true rfl) dX6_grudges_39 (fun r6 M7 h => ?_)
      refine r_if_eq hX 52 dX6_grudges_42 (by decide) (fun hc => ?_) (fun hc => ?_)
      · have h := h.1 hc
        refine r_iconst (v := 0) hX dX6_grudges_52 (by decide) ?_
        refine r_ior hX dX6_grudges_53 ?_
        refine r_nm (fun v8 ev8 => ?_)
        have h := h v8 ev8
        refine r_istore_n (L' := [some (.ref (adX X 34)), some (.int p1), some (.int x2), some (.int v8), some (.int x4)]) hX dX6_grudges_54 rfl (Nat.lt_of_ble rfl) rfl rfl ?_
        refine r_iinc (v := x4 + 1) (L' := [some (.ref (adX X 34)), some (.int p1), some (.int x2), some (.int v8), some (.int (x4 + 1))]) hX dX6_grudges_55 rfl rfl rfl rfl ?_
        refine r_goto hX 22 dX6_grudges_58 (by decide) ?_
        refine r_sub [some (.ref (adX X 34)), some (.int p1), some (.int x2), some (.int v8), some (.int (x4 + 1))] (And.intro rfl (And.intro rfl (And.intro rfl (And.intro rfl (And.intro rfl trivial))))) ?_
        exact ih _ _ _ _ h
      · have h := h.2 hc
        refine r_iconst (v := 1) hX dX6_grudges_45 (by decide) ?_
        refine r_iload hX dX6_grudges_46 rfl ?_
        refine r_ishl hX dX6_grudges_48 ?_
        refine r_goto hX 53 dX6_grudges_49 (by decide) ?_
        refine r_ior hX dX6_grudges_53 ?_
        refine r_nm (fun v9 ev9 => ?_)
        have h := h v9 ev9
        refine r_istore_n (L' := [some (.ref (adX X 34)), some (.int p1), some (.int x2), some (.int v9), some (.int x4)]) hX dX6_grudges_54 rfl (Nat.lt_of_ble rfl) rfl rfl ?_
        refine r_iinc (v := x4 + 1) (L' := [some (.ref (adX X 34)), some (.int p1), some (.int x2), some (.int v9), some (.int (x4 + 1))]) hX dX6_grudges_55 rfl rfl rfl rfl ?_
        refine r_goto hX 22 dX6_grudges_58 (by decide) ?_
        refine r_sub [some (.ref (adX X 34)), some (.int p1), some (.int x2), some (.int v9), some (.int (x4 + 1))] (And.intro rfl (And.intro rfl (And.intro rfl (And.intro rfl (And.intro rfl trivial))))) ?_
        exact ih _ _ _ _ h
def wp_X6_grudges (p1 : Int32) (M : Mem) (post : Int32 → Mem → Prop) : Prop := (wp_X6_isChair p1 M (fun r1 M2 => ((¬ r1 = 0 → (vp_in p1 5 ∧ (∀ v3 : Int32, v3 = M2 40 p1.toNatClampNeg → (∃ k, lp_X6_grudges_22 p1 post k v3 0 0 M2)))) ∧ (r1 = 0 → post (-1) M2))))
set_option maxRecDepth 100000 in
theorem wk_X6_grudges {X : CT} (p1 : Int32) (hX : okX X RX6 cX6_grudges 4 96) {M : Mem} {post : Int32 → Mem → Prop} (hret : ∀ (r : Int32) (M' : Mem), narrow .int (.int r) = .int r → post r M' → RetI X cX6_grudges r M') (h : wp_X6_grudges p1 M post) : Z X M 0 [some (.ref (adX X 34)), some (.int p1), none, none, none] [] := by
  unfold wp_X6_grudges at h
  refine r_aload_n hX dX6_grudges_0 rfl rfl ?_
  refine r_iload_n hX dX6_grudges_1 rfl rfl ?_
  refine r_cVi1 hX fv_X6_140 ly_34 rfl ⟨Nat.le_of_ble_eq_true rfl, Nat.le_of_ble_eq_true rfl⟩ (c_X6_isChair p1 h) (Nat.le_of_ble_eq_true rfl) dX6_grudges_2 (fun r1 M2 h => ?_)
  refine r_if_ne hX 10 dX6_grudges_5 (by decide) (fun hc => ?_) (fun hc => ?_)
  · have h := h.1 hc
    refine r_aload_n hX dX6_grudges_10 rfl rfl ?_
    refine r_getR hX fg_X6_25 ly_34 rfl dX6_grudges_11 ?_
    refine r_iload_n hX dX6_grudges_14 rfl rfl ?_
    refine r_iald hX ly_40 h.1 dX6_grudges_15 ?_
    have h := h.2
    refine r_nm (fun v3 ev3 => ?_)
    have h := h v3 ev3
    refine r_istore_n (L' := [some (.ref (adX X 34)), some (.int p1), some (.int v3), none, none]) hX dX6_grudges_16 rfl (Nat.lt_of_ble rfl) rfl rfl ?_
    refine r_iconst (v := 0) hX dX6_grudges_17 (by decide) ?_
    refine r_istore_n (L' := [some (.ref (adX X 34)), some (.int p1), some (.int v3), some (.int 0), none]) hX dX6_grudges_18 rfl (Nat.lt_of_ble rfl) rfl rfl ?_
    refine r_iconst (v := 0) hX dX6_grudges_19 (by decide) ?_
    refine r_istore (L' := [some (.ref (adX X 34)), some (.int p1), some (.int v3), some (.int 0), some (.int 0)]) hX dX6_grudges_20 (Nat.lt_of_ble rfl) rfl rfl ?_
    obtain ⟨n10, h⟩ := h
    refine r_sub [some (.ref (adX X 34)), some (.int p1), some (.int v3), some (.int 0), some (.int 0)] (And.intro rfl (And.intro rfl (And.intro rfl (And.intro rfl (And.intro rfl trivial))))) ?_
    exact wl_X6_grudges_22 p1 hX hret n10 _ _ _ _ h
  · have h := h.2 hc
    refine r_iconst (v := (-1)) hX dX6_grudges_8 (by decide) ?_
    exact r_iret (hret _ _ rfl h) dX6_grudges_9
set_option maxRecDepth 100000 in
theorem c_X6_grudges {l : Launch} {D : va_G} {cs : CS3} {ad : Nat → Nat} (p1 : Int32) {M : Mem} {post : Int32 → Mem → Prop} (h : wp_X6_grudges p1 M post) : CtI l D cs ad yX6_grudges cX6_grudges 5 (some .int) 4 96 [.ref (ad 34), .int p1] M post := met_I (k := 3) (fun ad => [.ref (ad 34), .int p1]) (fun ad => [some (.ref (ad 34)), some (.int p1), none, none, none]) (by decide +kernel) (fun _ => Nat.le_of_ble_eq_true rfl) (fun _ => rfl) (fun _ => rfl) (fun X hX hret => wk_X6_grudges p1 hX hret h)
def lp_X6_ears_22 (p1 : Int32) (post : Int32 → Mem → Prop) : Nat → Int32 → Int32 → Int32 → Mem → Prop
  | 0, _, _, _, _ => False
  | n + 1, x2, x3, x4, M => ((4 < x4 → (vp_in p1 5 ∧ ∀ M4 : Mem, M4 = up2 M 39 p1.toNatClampNeg x2 → post x3 M4)) ∧ (¬ 4 < x4 → (vp_in p1 5 ∧ ∀ M5 : Mem, M5 = up2 M 39 p1.toNatClampNeg x4 → (wp_X6_areSo M5 (fun r6 M7 => ((r6 = 0 → (∀ v8 : Int32, v8 = x3 ||| 0 → lp_X6_ears_22 p1 post n x2 v8 (x4 + 1) M7)) ∧ (¬ r6 = 0 → (∀ v9 : Int32, v9 = x3 ||| (1 <<< (x4 &&& 31)) → lp_X6_ears_22 p1 post n x2 v9 (x4 + 1) M7))))))))
set_option maxRecDepth 100000 in
theorem wl_X6_ears_22 {X : CT} (p1 : Int32) (hX : okX X RX6 cX6_ears 4 96) {post : Int32 → Mem → Prop} (hret : ∀ (r : Int32) (M' : Mem), narrow .int (.int r) = .int r → post r M' → RetI X cX6_ears r M') : ∀ (n : Nat) (x2 : Int32) (x3 : Int32) (x4 : Int32) (M : Mem), lp_X6_ears_22 p1 post n x2 x3 x4 M → Z X M 22 [some (.ref (adX X 34)), some (.int p1), some (.int x2), some (.int x3), some (.int x4)] [] := by
  intro n
  induction n with
  | zero =>
    intro x2 x3 x4 M h
    exact False.elim h
  | succ n ih =>
    intro x2 x3 x4 M h
    unfold lp_X6_ears_22 at h
    refine r_iload hX dX6_ears_22 rfl ?_
    refine r_iconst (v := 4) hX dX6_ears_24 (by decide) ?_
    refine r_icmp_gt hX 60 dX6_ears_25 (by decide) (fun hc => ?_) (fun hc => ?_)
    · have h := h.1 hc
      refine r_aload_n hX dX6_ears_60 rfl rfl ?_
      refine r_getR hX fg_X6_22 ly_34 rfl dX6_ears_61 ?_
      refine r_iload_n hX dX6_ears_64 rfl rfl ?_
      refine r_iload_n hX dX6_ears_65 rfl rfl ?_
      refine r_iast hX ly_39 h.1 dX6_ears_66 ?_
      refine r_nmM (fun M4 eM4 => ?_)
      have h := h.2 M4 eM4
      refine r_iload_n hX dX6_ears_67 rfl rfl ?_
      exact r_iret (hret _ _ rfl h) dX6_ears_68
    · have h := h.2 hc
      refine r_aload_n hX dX6_ears_28 rfl rfl ?_
      refine r_getR hX fg_X6_22 ly_34 rfl dX6_ears_29 ?_
      refine r_iload_n hX dX6_ears_32 rfl rfl ?_
      refine r_iload hX dX6_ears_33 rfl ?_
      refine r_iast hX ly_39 h.1 dX6_ears_35 ?_
      refine r_nmM (fun M5 eM5 => ?_)
      have h := h.2 M5 eM5
      refine r_iload_n hX dX6_ears_36 rfl rfl ?_
      refine r_aload_n hX dX6_ears_37 rfl rfl ?_
      refine r_cVi0 hX fv_X6_196 ly_34 rfl ⟨Nat.le_of_ble_eq_true rfl, Nat.le_of_ble_eq_true rfl⟩ (c_X6_areSo h) (Nat.le_of_ble_eq_true rfl) dX6_ears_38 (fun r6 M7 h => ?_)
      refine r_if_eq hX 51 dX6_ears_41 (by decide) (fun hc => ?_) (fun hc => ?_)
      · have h := h.1 hc
        refine r_iconst (v := 0) hX dX6_ears_51 (by decide) ?_
        refine r_ior hX dX6_ears_52 ?_
        refine r_nm (fun v8 ev8 => ?_)
        have h := h v8 ev8
        refine r_istore_n (L' := [some (.ref (adX X 34)), some (.int p1), some (.int x2), some (.int v8), some (.int x4)]) hX dX6_ears_53 rfl (Nat.lt_of_ble rfl) rfl rfl ?_
        refine r_iinc (v := x4 + 1) (L' := [some (.ref (adX X 34)), some (.int p1), some (.int x2), some (.int v8), some (.int (x4 + 1))]) hX dX6_ears_54 rfl rfl rfl rfl ?_
        refine r_goto hX 22 dX6_ears_57 (by decide) ?_
        refine r_sub [some (.ref (adX X 34)), some (.int p1), some (.int x2), some (.int v8), some (.int (x4 + 1))] (And.intro rfl (And.intro rfl (And.intro rfl (And.intro rfl (And.intro rfl trivial))))) ?_
        exact ih _ _ _ _ h
      · have h := h.2 hc
        refine r_iconst (v := 1) hX dX6_ears_44 (by decide) ?_
        refine r_iload hX dX6_ears_45 rfl ?_
        refine r_ishl hX dX6_ears_47 ?_
        refine r_goto hX 52 dX6_ears_48 (by decide) ?_
        refine r_ior hX dX6_ears_52 ?_
        refine r_nm (fun v9 ev9 => ?_)
        have h := h v9 ev9
        refine r_istore_n (L' := [some (.ref (adX X 34)), some (.int p1), some (.int x2), some (.int v9), some (.int x4)]) hX dX6_ears_53 rfl (Nat.lt_of_ble rfl) rfl rfl ?_
        refine r_iinc (v := x4 + 1) (L' := [some (.ref (adX X 34)), some (.int p1), some (.int x2), some (.int v9), some (.int (x4 + 1))]) hX dX6_ears_54 rfl rfl rfl rfl ?_
        refine r_goto hX 22 dX6_ears_57 (by decide) ?_
        refine r_sub [some (.ref (adX X 34)), some (.int p1), some (.int x2), some (.int v9), some (.int (x4 + 1))] (And.intro rfl (And.intro rfl (And.intro rfl (And.intro rfl (And.intro rfl trivial))))) ?_
        exact ih _ _ _ _ h
def wp_X6_ears (p1 : Int32) (M : Mem) (post : Int32 → Mem → Prop) : Prop := (wp_X6_isChair p1 M (fun r1 M2 => ((¬ r1 = 0 → (vp_in p1 5 ∧ (∀ v3 : Int32, v3 = M2 39 p1.toNatClampNeg → (∃ k, lp_X6_ears_22 p1 post k v3 0 0 M2)))) ∧ (r1 = 0 → post (-1) M2))))
set_option maxRecDepth 100000 in
theorem wk_X6_ears {X : CT} (p1 : Int32) (hX : okX X RX6 cX6_ears 4 96) {M : Mem} {post : Int32 → Mem → Prop} (hret : ∀ (r : Int32) (M' : Mem), narrow .int (.int r) = .int r → post r M' → RetI X cX6_ears r M') (h : wp_X6_ears p1 M post) : Z X M 0 [some (.ref (adX X 34)), some (.int p1), none, none, none] [] := by
  unfold wp_X6_ears at h
  refine r_aload_n hX dX6_ears_0 rfl rfl ?_
  refine r_iload_n hX dX6_ears_1 rfl rfl ?_
  refine r_cVi1 hX fv_X6_140 ly_34 rfl ⟨Nat.le_of_ble_eq_true rfl, Nat.le_of_ble_eq_true rfl⟩ (c_X6_isChair p1 h) (Nat.le_of_ble_eq_true rfl) dX6_ears_2 (fun r1 M2 h => ?_)
  refine r_if_ne hX 10 dX6_ears_5 (by decide) (fun hc => ?_) (fun hc => ?_)
  · have h := h.1 hc
    refine r_aload_n hX dX6_ears_10 rfl rfl ?_
    refine r_getR hX fg_X6_22 ly_34 rfl dX6_ears_11 ?_
    refine r_iload_n hX dX6_ears_14 rfl rfl ?_
    refine r_iald hX ly_39 h.1 dX6_ears_15 ?_
    have h := h.2
    refine r_nm (fun v3 ev3 => ?_)
    have h := h v3 ev3
    refine r_istore_n (L' := [some (.ref (adX X 34)), some (.int p1), some (.int v3), none, none]) hX dX6_ears_16 rfl (Nat.lt_of_ble rfl) rfl rfl ?_
    refine r_iconst (v := 0) hX dX6_ears_17 (by decide) ?_
    refine r_istore_n (L' := [some (.ref (adX X 34)), some (.int p1), some (.int v3), some (.int 0), none]) hX dX6_ears_18 rfl (Nat.lt_of_ble rfl) rfl rfl ?_
    refine r_iconst (v := 0) hX dX6_ears_19 (by decide) ?_
    refine r_istore (L' := [some (.ref (adX X 34)), some (.int p1), some (.int v3), some (.int 0), some (.int 0)]) hX dX6_ears_20 (Nat.lt_of_ble rfl) rfl rfl ?_
    obtain ⟨n10, h⟩ := h
    refine r_sub [some (.ref (adX X 34)), some (.int p1), some (.int v3), some (.int 0), some (.int 0)] (And.intro rfl (And.intro rfl (And.intro rfl (And.intro rfl (And.intro rfl trivial))))) ?_
    exact wl_X6_ears_22 p1 hX hret n10 _ _ _ _ h
  · have h := h.2 hc
    refine r_iconst (v := (-1)) hX dX6_ears_8 (by decide) ?_
    exact r_iret (hret _ _ rfl h) dX6_ears_9
set_option maxRecDepth 100000 in
theorem c_X6_ears {l : Launch} {D : va_G} {cs : CS3} {ad : Nat → Nat} (p1 : Int32) {M : Mem} {post : Int32 → Mem → Prop} (h : wp_X6_ears p1 M post) : CtI l D cs ad yX6_ears cX6_ears 5 (some .int) 4 96 [.ref (ad 34), .int p1] M post := met_I (k := 3) (fun ad => [.ref (ad 34), .int p1]) (fun ad => [some (.ref (ad 34)), some (.int p1), none, none, none]) (by decide +kernel) (fun _ => Nat.le_of_ble_eq_true rfl) (fun _ => rfl) (fun _ => rfl) (fun X hX hret => wk_X6_ears p1 hX hret h)
def lp_X6_kinds_22 (p1 : Int32) (post : Int32 → Mem → Prop) : Nat → Int32 → Int32 → Int32 → Mem → Prop
  | 0, _, _, _, _ => False
  | n + 1, x2, x3, x4, M => ((3 ≤ x4 → (vp_in p1 5 ∧ ∀ M4 : Mem, M4 = up2 M 38 p1.toNatClampNeg x2 → post x3 M4)) ∧ (¬ 3 ≤ x4 → (vp_in p1 5 ∧ ∀ M5 : Mem, M5 = up2 M 38 p1.toNatClampNeg x4 → (wp_X6_areSo M5 (fun r6 M7 => ((r6 = 0 → (∀ v8 : Int32, v8 = x3 ||| 0 → lp_X6_kinds_22 p1 post n x2 v8 (x4 + 1) M7)) ∧ (¬ r6 = 0 → (∀ v9 : Int32, v9 = x3 ||| (1 <<< (x4 &&& 31)) → lp_X6_kinds_22 p1 post n x2 v9 (x4 + 1) M7))))))))
set_option maxRecDepth 100000 in
theorem wl_X6_kinds_22 {X : CT} (p1 : Int32) (hX : okX X RX6 cX6_kinds 4 96) {post : Int32 → Mem → Prop} (hret : ∀ (r : Int32) (M' : Mem), narrow .int (.int r) = .int r → post r M' → RetI X cX6_kinds r M') : ∀ (n : Nat) (x2 : Int32) (x3 : Int32) (x4 : Int32) (M : Mem), lp_X6_kinds_22 p1 post n x2 x3 x4 M → Z X M 22 [some (.ref (adX X 34)), some (.int p1), some (.int x2), some (.int x3), some (.int x4)] [] := by
  intro n
  induction n with
  | zero =>
    intro x2 x3 x4 M h
    exact False.elim h
  | succ n ih =>
    intro x2 x3 x4 M h
    unfold lp_X6_kinds_22 at h
    refine r_iload hX dX6_kinds_22 rfl ?_
    refine r_iconst (v := 3) hX dX6_kinds_24 (by decide) ?_
    refine r_icmp_ge hX 60 dX6_kinds_25 (by decide) (fun hc => ?_) (fun hc => ?_)
    · have h := h.1 hc
      refine r_aload_n hX dX6_kinds_60 rfl rfl ?_
      refine r_getR hX fg_X6_19 ly_34 rfl dX6_kinds_61 ?_
      refine r_iload_n hX dX6_kinds_64 rfl rfl ?_
      refine r_iload_n hX dX6_kinds_65 rfl rfl ?_
      refine r_iast hX ly_38 h.1 dX6_kinds_66 ?_
      refine r_nmM (fun M4 eM4 => ?_)
      have h := h.2 M4 eM4
      refine r_iload_n hX dX6_kinds_67 rfl rfl ?_
      exact r_iret (hret _ _ rfl h) dX6_kinds_68
    · have h := h.2 hc
      refine r_aload_n hX dX6_kinds_28 rfl rfl ?_
      refine r_getR hX fg_X6_19 ly_34 rfl dX6_kinds_29 ?_
      refine r_iload_n hX dX6_kinds_32 rfl rfl ?_
      refine r_iload hX dX6_kinds_33 rfl ?_
      refine r_iast hX ly_38 h.1 dX6_kinds_35 ?_
      refine r_nmM (fun M5 eM5 => ?_)
      have h := h.2 M5 eM5
      refine r_iload_n hX dX6_kinds_36 rfl rfl ?_
      refine r_aload_n hX dX6_kinds_37 rfl rfl ?_
      refine r_cVi0 hX fv_X6_196 ly_34 rfl ⟨Nat.le_of_ble_eq_true rfl, Nat.le_of_ble_eq_true rfl⟩ (c_X6_areSo h) (Nat.le_of_ble_eq_true rfl) dX6_kinds_38 (fun r6 M7 h => ?_)
      refine r_if_eq hX 51 dX6_kinds_41 (by decide) (fun hc => ?_) (fun hc => ?_)
      · have h := h.1 hc
        refine r_iconst (v := 0) hX dX6_kinds_51 (by decide) ?_
        refine r_ior hX dX6_kinds_52 ?_
        refine r_nm (fun v8 ev8 => ?_)
        have h := h v8 ev8
        refine r_istore_n (L' := [some (.ref (adX X 34)), some (.int p1), some (.int x2), some (.int v8), some (.int x4)]) hX dX6_kinds_53 rfl (Nat.lt_of_ble rfl) rfl rfl ?_
        refine r_iinc (v := x4 + 1) (L' := [some (.ref (adX X 34)), some (.int p1), some (.int x2), some (.int v8), some (.int (x4 + 1))]) hX dX6_kinds_54 rfl rfl rfl rfl ?_
        refine r_goto hX 22 dX6_kinds_57 (by decide) ?_
        refine r_sub [some (.ref (adX X 34)), some (.int p1), some (.int x2), some (.int v8), some (.int (x4 + 1))] (And.intro rfl (And.intro rfl (And.intro rfl (And.intro rfl (And.intro rfl trivial))))) ?_
        exact ih _ _ _ _ h
      · have h := h.2 hc
        refine r_iconst (v := 1) hX dX6_kinds_44 (by decide) ?_
        refine r_iload hX dX6_kinds_45 rfl ?_
        refine r_ishl hX dX6_kinds_47 ?_
        refine r_goto hX 52 dX6_kinds_48 (by decide) ?_
        refine r_ior hX dX6_kinds_52 ?_
        refine r_nm (fun v9 ev9 => ?_)
        have h := h v9 ev9
        refine r_istore_n (L' := [some (.ref (adX X 34)), some (.int p1), some (.int x2), some (.int v9), some (.int x4)]) hX dX6_kinds_53 rfl (Nat.lt_of_ble rfl) rfl rfl ?_
        refine r_iinc (v := x4 + 1) (L' := [some (.ref (adX X 34)), some (.int p1), some (.int x2), some (.int v9), some (.int (x4 + 1))]) hX dX6_kinds_54 rfl rfl rfl rfl ?_
        refine r_goto hX 22 dX6_kinds_57 (by decide) ?_
        refine r_sub [some (.ref (adX X 34)), some (.int p1), some (.int x2), some (.int v9), some (.int (x4 + 1))] (And.intro rfl (And.intro rfl (And.intro rfl (And.intro rfl (And.intro rfl trivial))))) ?_
        exact ih _ _ _ _ h
def wp_X6_kinds (p1 : Int32) (M : Mem) (post : Int32 → Mem → Prop) : Prop := (wp_X6_isChair p1 M (fun r1 M2 => ((¬ r1 = 0 → (vp_in p1 5 ∧ (∀ v3 : Int32, v3 = M2 38 p1.toNatClampNeg → (∃ k, lp_X6_kinds_22 p1 post k v3 0 0 M2)))) ∧ (r1 = 0 → post (-1) M2))))
set_option maxRecDepth 100000 in
theorem wk_X6_kinds {X : CT} (p1 : Int32) (hX : okX X RX6 cX6_kinds 4 96) {M : Mem} {post : Int32 → Mem → Prop} (hret : ∀ (r : Int32) (M' : Mem), narrow .int (.int r) = .int r → post r M' → RetI X cX6_kinds r M') (h : wp_X6_kinds p1 M post) : Z X M 0 [some (.ref (adX X 34)), some (.int p1), none, none, none] [] := by
  unfold wp_X6_kinds at h
  refine r_aload_n hX dX6_kinds_0 rfl rfl ?_
  refine r_iload_n hX dX6_kinds_1 rfl rfl ?_
  refine r_cVi1 hX fv_X6_140 ly_34 rfl ⟨Nat.le_of_ble_eq_true rfl, Nat.le_of_ble_eq_true rfl⟩ (c_X6_isChair p1 h) (Nat.le_of_ble_eq_true rfl) dX6_kinds_2 (fun r1 M2 h => ?_)
  refine r_if_ne hX 10 dX6_kinds_5 (by decide) (fun hc => ?_) (fun hc => ?_)
  · have h := h.1 hc
    refine r_aload_n hX dX6_kinds_10 rfl rfl ?_
    refine r_getR hX fg_X6_19 ly_34 rfl dX6_kinds_11 ?_
    refine r_iload_n hX dX6_kinds_14 rfl rfl ?_
    refine r_iald hX ly_38 h.1 dX6_kinds_15 ?_
    have h := h.2
    refine r_nm (fun v3 ev3 => ?_)
    have h := h v3 ev3
    refine r_istore_n (L' := [some (.ref (adX X 34)), some (.int p1), some (.int v3), none, none]) hX dX6_kinds_16 rfl (Nat.lt_of_ble rfl) rfl rfl ?_
    refine r_iconst (v := 0) hX dX6_kinds_17 (by decide) ?_
    refine r_istore_n (L' := [some (.ref (adX X 34)), some (.int p1), some (.int v3), some (.int 0), none]) hX dX6_kinds_18 rfl (Nat.lt_of_ble rfl) rfl rfl ?_
    refine r_iconst (v := 0) hX dX6_kinds_19 (by decide) ?_
    refine r_istore (L' := [some (.ref (adX X 34)), some (.int p1), some (.int v3), some (.int 0), some (.int 0)]) hX dX6_kinds_20 (Nat.lt_of_ble rfl) rfl rfl ?_
    obtain ⟨n10, h⟩ := h
    refine r_sub [some (.ref (adX X 34)), some (.int p1), some (.int v3), some (.int 0), some (.int 0)] (And.intro rfl (And.intro rfl (And.intro rfl (And.intro rfl (And.intro rfl trivial))))) ?_
    exact wl_X6_kinds_22 p1 hX hret n10 _ _ _ _ h
  · have h := h.2 hc
    refine r_iconst (v := (-1)) hX dX6_kinds_8 (by decide) ?_
    exact r_iret (hret _ _ rfl h) dX6_kinds_9
set_option maxRecDepth 100000 in
theorem c_X6_kinds {l : Launch} {D : va_G} {cs : CS3} {ad : Nat → Nat} (p1 : Int32) {M : Mem} {post : Int32 → Mem → Prop} (h : wp_X6_kinds p1 M post) : CtI l D cs ad yX6_kinds cX6_kinds 5 (some .int) 4 96 [.ref (ad 34), .int p1] M post := met_I (k := 3) (fun ad => [.ref (ad 34), .int p1]) (fun ad => [some (.ref (ad 34)), some (.int p1), none, none, none]) (by decide +kernel) (fun _ => Nat.le_of_ble_eq_true rfl) (fun _ => rfl) (fun _ => rfl) (fun X hX hret => wk_X6_kinds p1 hX hret h)
def lp_X6_inLeastTerms_6 (p0 : Int64) (p2 : Int64) (p4 : Int32) (post : Int64 → Mem → Prop) : Nat → Int64 → Int64 → Mem → Prop
  | 0, _, _, _ => False
  | n + 1, x5, x7, M => (((lg_cmp x7 0) = 0 → ((¬ p4 = 0 → (¬ x5 = 0 ∧ post (p2 / x5) M)) ∧ (p4 = 0 → (¬ x5 = 0 ∧ post (p0 / x5) M)))) ∧ (¬ (lg_cmp x7 0) = 0 → (¬ x7 = 0 ∧ (∀ v1 : Int64, v1 = x5 - x5 / x7 * x7 → lp_X6_inLeastTerms_6 p0 p2 p4 post n x7 v1 M))))
set_option maxRecDepth 100000 in
theorem wl_X6_inLeastTerms_6 {X : CT} (p0 : Int64) (p2 : Int64) (p4 : Int32) (hX : okX X RX6 cX6_inLeastTerms 0 0) {post : Int64 → Mem → Prop} (hret : ∀ (r : Int64) (M' : Mem), post r M' → RetL X cX6_inLeastTerms r M') : ∀ (n : Nat) (x5 : Int64) (x7 : Int64) (M : Mem), lp_X6_inLeastTerms_6 p0 p2 p4 post n x5 x7 M → Z X M 6 [some (.long p0), none, some (.long p2), none, some (.int p4), some (.long x5), none, some (.long x7), none, none, none] [] := by
  intro n
  induction n with
  | zero =>
    intro x5 x7 M h
    exact False.elim h
  | succ n ih =>
    intro x5 x7 M h
    unfold lp_X6_inLeastTerms_6 at h
    refine r_lload hX dX6_inLeastTerms_6 rfl ?_
    refine r_lconst (v := 0) hX dX6_inLeastTerms_8 (by decide) ?_
    refine r_lcmp hX dX6_inLeastTerms_9 ?_
    refine r_if_eq hX 31 dX6_inLeastTerms_10 (by decide) (fun hc => ?_) (fun hc => ?_)
    · have h := h.1 hc
      refine r_iload hX dX6_inLeastTerms_31 rfl ?_
      refine r_if_ne hX 43 dX6_inLeastTerms_33 (by decide) (fun hc => ?_) (fun hc => ?_)
      · have h := h.1 hc
        refine r_lload_n hX dX6_inLeastTerms_43 rfl rfl ?_
        refine r_lload hX dX6_inLeastTerms_44 rfl ?_
        refine r_ldiv hX dX6_inLeastTerms_46 h.1 ?_
        have h := h.2
        exact r_lret (hret _ _ h) dX6_inLeastTerms_47
      · have h := h.2 hc
        refine r_lload_n hX dX6_inLeastTerms_36 rfl rfl ?_
        refine r_lload hX dX6_inLeastTerms_37 rfl ?_
        refine r_ldiv hX dX6_inLeastTerms_39 h.1 ?_
        have h := h.2
        refine r_goto hX 47 dX6_inLeastTerms_40 (by decide) ?_
        exact r_lret (hret _ _ h) dX6_inLeastTerms_47
    · have h := h.2 hc
      refine r_lload hX dX6_inLeastTerms_13 rfl ?_
      refine r_lload hX dX6_inLeastTerms_15 rfl ?_
      refine r_lrem hX dX6_inLeastTerms_17 h.1 ?_
      have h := h.2
      refine r_nml (fun v1 ev1 => ?_)
      have h := h v1 ev1
      refine r_lstore (L' := [some (.long p0), none, some (.long p2), none, some (.int p4), some (.long x5), none, some (.long x7), none, some (.long v1), none]) hX dX6_inLeastTerms_18 (Nat.lt_of_ble rfl) rfl rfl ?_
      refine r_lload hX dX6_inLeastTerms_20 rfl ?_
      refine r_lstore (L' := [some (.long p0), none, some (.long p2), none, some (.int p4), some (.long x7), none, some (.long x7), none, some (.long v1), none]) hX dX6_inLeastTerms_22 (Nat.lt_of_ble rfl) rfl rfl ?_
      refine r_lload hX dX6_inLeastTerms_24 rfl ?_
      refine r_lstore (L' := [some (.long p0), none, some (.long p2), none, some (.int p4), some (.long x7), none, some (.long v1), none, some (.long v1), none]) hX dX6_inLeastTerms_26 (Nat.lt_of_ble rfl) rfl rfl ?_
      refine r_goto hX 6 dX6_inLeastTerms_28 (by decide) ?_
      refine r_sub [some (.long p0), none, some (.long p2), none, some (.int p4), some (.long x7), none, some (.long v1), none, none, none] (And.intro rfl (And.intro rfl (And.intro rfl (And.intro rfl (And.intro rfl trivial))))) ?_
      exact ih _ _ _ h
def wp_X6_inLeastTerms (p0 : Int64) (p2 : Int64) (p4 : Int32) (M : Mem) (post : Int64 → Mem → Prop) : Prop := (∃ k, lp_X6_inLeastTerms_6 p0 p2 p4 post k p0 p2 M)
set_option maxRecDepth 100000 in
theorem wk_X6_inLeastTerms {X : CT} (p0 : Int64) (p2 : Int64) (p4 : Int32) (hX : okX X RX6 cX6_inLeastTerms 0 0) {M : Mem} {post : Int64 → Mem → Prop} (hret : ∀ (r : Int64) (M' : Mem), post r M' → RetL X cX6_inLeastTerms r M') (h : wp_X6_inLeastTerms p0 p2 p4 M post) : Z X M 0 [some (.long p0), none, some (.long p2), none, some (.int p4), none, none, none, none, none, none] [] := by
  unfold wp_X6_inLeastTerms at h
  refine r_lload_n hX dX6_inLeastTerms_0 rfl rfl ?_
  refine r_lstore (L' := [some (.long p0), none, some (.long p2), none, some (.int p4), some (.long p0), none, none, none, none, none]) hX dX6_inLeastTerms_1 (Nat.lt_of_ble rfl) rfl rfl ?_
  refine r_lload_n hX dX6_inLeastTerms_3 rfl rfl ?_
  refine r_lstore (L' := [some (.long p0), none, some (.long p2), none, some (.int p4), some (.long p0), none, some (.long p2), none, none, none]) hX dX6_inLeastTerms_4 (Nat.lt_of_ble rfl) rfl rfl ?_
  obtain ⟨n2, h⟩ := h
  refine r_sub [some (.long p0), none, some (.long p2), none, some (.int p4), some (.long p0), none, some (.long p2), none, none, none] (And.intro rfl (And.intro rfl (And.intro rfl (And.intro rfl (And.intro rfl trivial))))) ?_
  exact wl_X6_inLeastTerms_6 p0 p2 p4 hX hret n2 _ _ _ h
set_option maxRecDepth 100000 in
theorem c_X6_inLeastTerms {l : Launch} {D : va_G} {cs : CS3} {ad : Nat → Nat} (p0 : Int64) (p2 : Int64) (p4 : Int32) {M : Mem} {post : Int64 → Mem → Prop} (h : wp_X6_inLeastTerms p0 p2 p4 M post) : CtL l D cs ad yX6_inLeastTerms cX6_inLeastTerms 11 (some .long) 0 0 [.long p0, .long p2, .int p4] M post := met_L (k := 6) (fun ad => [.long p0, .long p2, .int p4]) (fun ad => [some (.long p0), none, some (.long p2), none, some (.int p4), none, none, none, none, none, none]) (by decide +kernel) (fun _ => Nat.le_of_ble_eq_true rfl) (fun _ => rfl) (fun _ => rfl) (fun X hX hret => wk_X6_inLeastTerms p0 p2 p4 hX hret h)
def lp_X6_odds_32 (p1 : Int32) (p2 : Int32) (post : Int64 → Mem → Prop) : Nat → Int32 → Int32 → Mem → Prop
  | 0, _, _, _ => False
  | n + 1, x3, x4, M => (((1 <<< ((M 34 10) &&& 31)) ≤ x4 → (∀ M5 : Mem, M5 = up2 M 34 18 0 → (wp_X6_inLeastTerms x3.toInt64 (1 <<< ((M5 34 10).toInt64 &&& 63)) p2 M5 (fun r6 M7 => post r6 M7)))) ∧ (¬ (1 <<< ((M 34 10) &&& 31)) ≤ x4 → (∀ M8 : Mem, M8 = up2 M 34 18 x4 → (wp_X6_mostIn p1 M8 (fun r9 M10 => ((¬ r9 = (M10 34 5) → (∀ v11 : Int32, v11 = x3 + 0 → lp_X6_odds_32 p1 p2 post n v11 (x4 + 1) M10)) ∧ (r9 = (M10 34 5) → (∀ v12 : Int32, v12 = x3 + 1 → lp_X6_odds_32 p1 p2 post n v12 (x4 + 1) M10))))))))
set_option maxRecDepth 100000 in
theorem wl_X6_odds_32 {X : CT} (p1 : Int32) (p2 : Int32) (hX : okX X RX6 cX6_odds 5 119) {post : Int64 → Mem → Prop} (hret : ∀ (r : Int64) (M' : Mem), post r M' → RetL X cX6_odds r M') : ∀ (n : Nat) (x3 : Int32) (x4 : Int32) (M : Mem), lp_X6_odds_32 p1 p2 post n x3 x4 M → Z X M 32 [some (.ref (adX X 34)), some (.int p1), some (.int p2), some (.int x3), some (.int x4)] [] := by
  intro n
  induction n with
  | zero =>
    intro x3 x4 M h
    exact False.elim h
  | succ n ih =>
    intro x3 x4 M h
    unfold lp_X6_odds_32 at h
    refine r_iload hX dX6_odds_32 rfl ?_
    refine r_iconst (v := 1) hX dX6_odds_34 (by decide) ?_
    refine r_aload_n hX dX6_odds_35 rfl rfl ?_
    refine r_getI hX fg_X6_120 ly_34 rfl dX6_odds_36 ?_
    refine r_ishl hX dX6_odds_39 ?_
    refine r_icmp_ge hX 75 dX6_odds_40 (by decide) (fun hc => ?_) (fun hc => ?_)
    · have h := h.1 hc
      refine r_aload_n hX dX6_odds_75 rfl rfl ?_
      refine r_iconst (v := 0) hX dX6_odds_76 (by decide) ?_
      refine r_putI hX fp_X6_152 ly_34 rfl dX6_odds_77 ?_
      refine r_nmM (fun M5 eM5 => ?_)
      have h := h M5 eM5
      refine r_iload_n hX dX6_odds_80 rfl rfl ?_
      refine r_i2l hX dX6_odds_81 ?_
      refine r_lconst (v := 1) hX dX6_odds_82 (by decide) ?_
      refine r_aload_n hX dX6_odds_83 rfl rfl ?_
      refine r_getI hX fg_X6_120 ly_34 rfl dX6_odds_84 ?_
      refine r_lshl hX dX6_odds_87 ?_
      refine r_iload_n hX dX6_odds_88 rfl rfl ?_
      refine r_cSl3 hX fs_X6_200 ⟨Nat.le_of_ble_eq_true rfl, Nat.le_of_ble_eq_true rfl⟩ (c_X6_inLeastTerms x3.toInt64 (1 <<< ((M5 34 10).toInt64 &&& 63)) p2 h) (Nat.le_of_ble_eq_true rfl) dX6_odds_89 (fun r6 M7 h => ?_)
      exact r_lret (hret _ _ h) dX6_odds_92
    · have h := h.2 hc
      refine r_aload_n hX dX6_odds_43 rfl rfl ?_
      refine r_iload hX dX6_odds_44 rfl ?_
      refine r_putI hX fp_X6_152 ly_34 rfl dX6_odds_46 ?_
      refine r_nmM (fun M8 eM8 => ?_)
      have h := h M8 eM8
      refine r_iload_n hX dX6_odds_49 rfl rfl ?_
      refine r_aload_n hX dX6_odds_50 rfl rfl ?_
      refine r_iload_n hX dX6_odds_51 rfl rfl ?_
      refine r_cVi1 hX fv_X6_193 ly_34 rfl ⟨Nat.le_of_ble_eq_true rfl, Nat.le_of_ble_eq_true rfl⟩ (c_X6_mostIn p1 h) (Nat.le_of_ble_eq_true rfl) dX6_odds_52 (fun r9 M10 h => ?_)
      refine r_aload_n hX dX6_odds_55 rfl rfl ?_
      refine r_getI hX fg_X6_87 ly_34 rfl dX6_odds_56 ?_
      refine r_icmp_ne hX 66 dX6_odds_59 (by decide) (fun hc => ?_) (fun hc => ?_)
      · have h := h.1 hc
        refine r_iconst (v := 0) hX dX6_odds_66 (by decide) ?_
        refine r_iadd hX dX6_odds_67 ?_
        refine r_nm (fun v11 ev11 => ?_)
        have h := h v11 ev11
        refine r_istore_n (L' := [some (.ref (adX X 34)), some (.int p1), some (.int p2), some (.int v11), some (.int x4)]) hX dX6_odds_68 rfl (Nat.lt_of_ble rfl) rfl rfl ?_
        refine r_iinc (v := x4 + 1) (L' := [some (.ref (adX X 34)), some (.int p1), some (.int p2), some (.int v11), some (.int (x4 + 1))]) hX dX6_odds_69 rfl rfl rfl rfl ?_
        refine r_goto hX 32 dX6_odds_72 (by decide) ?_
        refine r_sub [some (.ref (adX X 34)), some (.int p1), some (.int p2), some (.int v11), some (.int (x4 + 1))] (And.intro rfl (And.intro rfl (And.intro rfl (And.intro rfl (And.intro rfl trivial))))) ?_
        exact ih _ _ _ h
      · have h := h.2 hc
        refine r_iconst (v := 1) hX dX6_odds_62 (by decide) ?_
        refine r_goto hX 67 dX6_odds_63 (by decide) ?_
        refine r_iadd hX dX6_odds_67 ?_
        refine r_nm (fun v12 ev12 => ?_)
        have h := h v12 ev12
        refine r_istore_n (L' := [some (.ref (adX X 34)), some (.int p1), some (.int p2), some (.int v12), some (.int x4)]) hX dX6_odds_68 rfl (Nat.lt_of_ble rfl) rfl rfl ?_
        refine r_iinc (v := x4 + 1) (L' := [some (.ref (adX X 34)), some (.int p1), some (.int p2), some (.int v12), some (.int (x4 + 1))]) hX dX6_odds_69 rfl rfl rfl rfl ?_
        refine r_goto hX 32 dX6_odds_72 (by decide) ?_
        refine r_sub [some (.ref (adX X 34)), some (.int p1), some (.int p2), some (.int v12), some (.int (x4 + 1))] (And.intro rfl (And.intro rfl (And.intro rfl (And.intro rfl (And.intro rfl trivial))))) ?_
        exact ih _ _ _ h
def wp_X6_odds (p1 : Int32) (p2 : Int32) (M : Mem) (post : Int64 → Mem → Prop) : Prop := (wp_X6_isDinner p1 M (fun r1 M2 => ((r1 = 0 → post (-9223372036854775808) M2) ∧ (¬ r1 = 0 → (wp_X6_within p2 0 1 M2 (fun r3 M4 => ((r3 = 0 → post (-9223372036854775808) M4) ∧ (¬ r3 = 0 → ((¬ (M4 34 6) = 0 → (∃ k, lp_X6_odds_32 p1 p2 post k 0 0 M4)) ∧ ((M4 34 6) = 0 → post (-9223372036854775808) M4))))))))))
set_option maxRecDepth 100000 in
theorem wk_X6_odds {X : CT} (p1 : Int32) (p2 : Int32) (hX : okX X RX6 cX6_odds 5 119) {M : Mem} {post : Int64 → Mem → Prop} (hret : ∀ (r : Int64) (M' : Mem), post r M' → RetL X cX6_odds r M') (h : wp_X6_odds p1 p2 M post) : Z X M 0 [some (.ref (adX X 34)), some (.int p1), some (.int p2), none, none] [] := by
  unfold wp_X6_odds at h
  refine r_iload_n hX dX6_odds_0 rfl rfl ?_
  refine r_cSi1 hX fs_X6_146 ⟨Nat.le_of_ble_eq_true rfl, Nat.le_of_ble_eq_true rfl⟩ (c_X6_isDinner p1 h) (Nat.le_of_ble_eq_true rfl) dX6_odds_1 (fun r1 M2 h => ?_)
  refine r_if_eq hX 23 dX6_odds_4 (by decide) (fun hc => ?_) (fun hc => ?_)
  · have h := h.1 hc
    refine r_ldc2 (v := (-9223372036854775808)) hX kw_X6_81 dX6_odds_23 ?_
    exact r_lret (hret _ _ h) dX6_odds_26
  · have h := h.2 hc
    refine r_iload_n hX dX6_odds_7 rfl rfl ?_
    refine r_iconst (v := 0) hX dX6_odds_8 (by decide) ?_
    refine r_iconst (v := 1) hX dX6_odds_9 (by decide) ?_
    refine r_cSi3 hX fs_X6_83 ⟨Nat.le_of_ble_eq_true rfl, Nat.le_of_ble_eq_true rfl⟩ (c_X6_within p2 0 1 h) (Nat.le_of_ble_eq_true rfl) dX6_odds_10 (fun r3 M4 h => ?_)
    refine r_if_eq hX 23 dX6_odds_13 (by decide) (fun hc => ?_) (fun hc => ?_)
    · have h := h.1 hc
      refine r_ldc2 (v := (-9223372036854775808)) hX kw_X6_81 dX6_odds_23 ?_
      exact r_lret (hret _ _ h) dX6_odds_26
    · have h := h.2 hc
      refine r_aload_n hX dX6_odds_16 rfl rfl ?_
      refine r_getI hX fg_X6_90 ly_34 rfl dX6_odds_17 ?_
      refine r_if_ne hX 27 dX6_odds_20 (by decide) (fun hc => ?_) (fun hc => ?_)
      · have h := h.1 hc
        refine r_iconst (v := 0) hX dX6_odds_27 (by decide) ?_
        refine r_istore_n (L' := [some (.ref (adX X 34)), some (.int p1), some (.int p2), some (.int 0), none]) hX dX6_odds_28 rfl (Nat.lt_of_ble rfl) rfl rfl ?_
        refine r_iconst (v := 0) hX dX6_odds_29 (by decide) ?_
        refine r_istore (L' := [some (.ref (adX X 34)), some (.int p1), some (.int p2), some (.int 0), some (.int 0)]) hX dX6_odds_30 (Nat.lt_of_ble rfl) rfl rfl ?_
        obtain ⟨n13, h⟩ := h
        refine r_sub [some (.ref (adX X 34)), some (.int p1), some (.int p2), some (.int 0), some (.int 0)] (And.intro rfl (And.intro rfl (And.intro rfl (And.intro rfl (And.intro rfl trivial))))) ?_
        exact wl_X6_odds_32 p1 p2 hX hret n13 _ _ _ h
      · have h := h.2 hc
        refine r_ldc2 (v := (-9223372036854775808)) hX kw_X6_81 dX6_odds_23 ?_
        exact r_lret (hret _ _ h) dX6_odds_26
set_option maxRecDepth 100000 in
theorem c_X6_odds {l : Launch} {D : va_G} {cs : CS3} {ad : Nat → Nat} (p1 : Int32) (p2 : Int32) {M : Mem} {post : Int64 → Mem → Prop} (h : wp_X6_odds p1 p2 M post) : CtL l D cs ad yX6_odds cX6_odds 5 (some .long) 5 119 [.ref (ad 34), .int p1, .int p2] M post := met_L (k := 2) (fun ad => [.ref (ad 34), .int p1, .int p2]) (fun ad => [some (.ref (ad 34)), some (.int p1), some (.int p2), none, none]) (by decide +kernel) (fun _ => Nat.le_of_ble_eq_true rfl) (fun _ => rfl) (fun _ => rfl) (fun X hX hret => wk_X6_odds p1 p2 hX hret h)
def lp_X6_sheet_57 (p1 : Int32) (p2 : Int32) (p3 : Int32) (post : Int32 → Mem → Prop) : Nat → Int32 → Mem → Prop
  | 0, _, _ => False
  | n + 1, x4, M => ((60 ≤ x4 → post 1 M) ∧ (¬ 60 ≤ x4 → (vp_in ((60 * p1) + x4) 240 ∧ ∀ M8 : Mem, M8 = up2 M 37 ((60 * p1) + x4).toNatClampNeg 0 → lp_X6_sheet_57 p1 p2 p3 post n (x4 + 1) M8)))
set_option maxRecDepth 100000 in
theorem wl_X6_sheet_57 {X : CT} (p1 : Int32) (p2 : Int32) (p3 : Int32) (hX : okX X RX6 cX6_sheet 2 42) {post : Int32 → Mem → Prop} (hret : ∀ (r : Int32) (M' : Mem), narrow .int (.int r) = .int r → post r M' → RetI X cX6_sheet r M') : ∀ (n : Nat) (x4 : Int32) (M : Mem), lp_X6_sheet_57 p1 p2 p3 post n x4 M → Z X M 57 [some (.ref (adX X 34)), some (.int p1), none, none, some (.int x4)] [] := by
  intro n
  induction n with
  | zero =>
    intro x4 M h
    exact False.elim h
  | succ n ih =>
    intro x4 M h
    unfold lp_X6_sheet_57 at h
    refine r_iload hX dX6_sheet_57 rfl ?_
    refine r_bipush (v := 60) hX dX6_sheet_59 (by decide) ?_
    refine r_icmp_ge hX 83 dX6_sheet_61 (by decide) (fun hc => ?_) (fun hc => ?_)
    · have h := h.1 hc
      refine r_iconst (v := 1) hX dX6_sheet_83 (by decide) ?_
      exact r_iret (hret _ _ rfl h) dX6_sheet_84
    · have h := h.2 hc
      refine r_aload_n hX dX6_sheet_64 rfl rfl ?_
      refine r_getR hX fg_X6_16 ly_34 rfl dX6_sheet_65 ?_
      refine r_bipush (v := 60) hX dX6_sheet_68 (by decide) ?_
      refine r_iload_n hX dX6_sheet_70 rfl rfl ?_
      refine r_imul hX dX6_sheet_71 ?_
      refine r_iload hX dX6_sheet_72 rfl ?_
      refine r_iadd hX dX6_sheet_74 ?_
      refine r_iconst (v := 0) hX dX6_sheet_75 (by decide) ?_
      refine r_iast hX ly_37 h.1 dX6_sheet_76 ?_
      refine r_nmM (fun M8 eM8 => ?_)
      have h := h.2 M8 eM8
      refine r_iinc (v := x4 + 1) (L' := [some (.ref (adX X 34)), some (.int p1), none, none, some (.int (x4 + 1))]) hX dX6_sheet_77 rfl rfl rfl rfl ?_
      refine r_goto hX 57 dX6_sheet_80 (by decide) ?_
      refine r_sub [some (.ref (adX X 34)), some (.int p1), none, none, some (.int (x4 + 1))] (And.intro rfl (And.intro rfl (And.intro rfl trivial))) ?_
      exact ih _ _ h
def wp_X6_sheet (p1 : Int32) (p2 : Int32) (p3 : Int32) (M : Mem) (post : Int32 → Mem → Prop) : Prop := (∀ M1 : Mem, M1 = up2 M 34 0 0 → (wp_X6_isSheet p1 M1 (fun r2 M3 => ((¬ r2 = 0 → (wp_X6_isSort p2 M3 (fun r4 M5 => ((r4 = 0 → post (-2) M5) ∧ (¬ r4 = 0 → ((p3 ≤ 60 → ((0 ≤ p3 → (vp_in p1 4 ∧ ∀ M6 : Mem, M6 = up2 M5 35 p1.toNatClampNeg p2 → (vp_in p1 4 ∧ ∀ M7 : Mem, M7 = up2 M6 36 p1.toNatClampNeg p3 → (∃ k, lp_X6_sheet_57 p1 p2 p3 post k 0 M7)))) ∧ (¬ 0 ≤ p3 → (wp_X6_fails 4 M5 (fun r10 M11 => post r10 M11))))) ∧ (¬ p3 ≤ 60 → post (-2) M5))))))) ∧ (r2 = 0 → post (-1) M3)))))
set_option maxRecDepth 100000 in
theorem wk_X6_sheet {X : CT} (p1 : Int32) (p2 : Int32) (p3 : Int32) (hX : okX X RX6 cX6_sheet 2 42) {M : Mem} {post : Int32 → Mem → Prop} (hret : ∀ (r : Int32) (M' : Mem), narrow .int (.int r) = .int r → post r M' → RetI X cX6_sheet r M') (h : wp_X6_sheet p1 p2 p3 M post) : Z X M 0 [some (.ref (adX X 34)), some (.int p1), some (.int p2), some (.int p3), none] [] := by
  unfold wp_X6_sheet at h
  refine r_aload_n hX dX6_sheet_0 rfl rfl ?_
  refine r_iconst (v := 0) hX dX6_sheet_1 (by decide) ?_
  refine r_putI hX fp_X6_78 ly_34 rfl dX6_sheet_2 ?_
  refine r_nmM (fun M1 eM1 => ?_)
  have h := h M1 eM1
  refine r_iload_n hX dX6_sheet_5 rfl rfl ?_
  refine r_cSi1 hX fs_X6_96 ⟨Nat.le_of_ble_eq_true rfl, Nat.le_of_ble_eq_true rfl⟩ (c_X6_isSheet p1 h) (Nat.le_of_ble_eq_true rfl) dX6_sheet_6 (fun r2 M3 h => ?_)
  refine r_if_ne hX 14 dX6_sheet_9 (by decide) (fun hc => ?_) (fun hc => ?_)
  · have h := h.1 hc
    refine r_iload_n hX dX6_sheet_14 rfl rfl ?_
    refine r_cSi1 hX fs_X6_100 ⟨Nat.le_of_ble_eq_true rfl, Nat.le_of_ble_eq_true rfl⟩ (c_X6_isSort p2 h) (Nat.le_of_ble_eq_true rfl) dX6_sheet_15 (fun r4 M5 h => ?_)
    refine r_if_eq hX 27 dX6_sheet_18 (by decide) (fun hc => ?_) (fun hc => ?_)
    · have h := h.1 hc
      refine r_bipush (v := (-2)) hX dX6_sheet_27 (by decide) ?_
      exact r_iret (hret _ _ rfl h) dX6_sheet_29
    · have h := h.2 hc
      refine r_iload_n hX dX6_sheet_21 rfl rfl ?_
      refine r_bipush (v := 60) hX dX6_sheet_22 (by decide) ?_
      refine r_icmp_le hX 30 dX6_sheet_24 (by decide) (fun hc => ?_) (fun hc => ?_)
      · have h := h.1 hc
        refine r_iload_n hX dX6_sheet_30 rfl rfl ?_
        refine r_if_ge hX 40 dX6_sheet_31 (by decide) (fun hc => ?_) (fun hc => ?_)
        · have h := h.1 hc
          refine r_aload_n hX dX6_sheet_40 rfl rfl ?_
          refine r_getR hX fg_X6_9 ly_34 rfl dX6_sheet_41 ?_
          refine r_iload_n hX dX6_sheet_44 rfl rfl ?_
          refine r_iload_n hX dX6_sheet_45 rfl rfl ?_
          refine r_iast hX ly_35 h.1 dX6_sheet_46 ?_
          refine r_nmM (fun M6 eM6 => ?_)
          have h := h.2 M6 eM6
          refine r_aload_n hX dX6_sheet_47 rfl rfl ?_
          refine r_getR hX fg_X6_13 ly_34 rfl dX6_sheet_48 ?_
          refine r_iload_n hX dX6_sheet_51 rfl rfl ?_
          refine r_iload_n hX dX6_sheet_52 rfl rfl ?_
          refine r_iast hX ly_36 h.1 dX6_sheet_53 ?_
          refine r_nmM (fun M7 eM7 => ?_)
          have h := h.2 M7 eM7
          refine r_iconst (v := 0) hX dX6_sheet_54 (by decide) ?_
          refine r_istore (L' := [some (.ref (adX X 34)), some (.int p1), some (.int p2), some (.int p3), some (.int 0)]) hX dX6_sheet_55 (Nat.lt_of_ble rfl) rfl rfl ?_
          obtain ⟨n9, h⟩ := h
          refine r_sub [some (.ref (adX X 34)), some (.int p1), none, none, some (.int 0)] (And.intro rfl (And.intro rfl (And.intro rfl trivial))) ?_
          exact wl_X6_sheet_57 p1 p2 p3 hX hret n9 _ _ h
        · have h := h.2 hc
          refine r_aload_n hX dX6_sheet_34 rfl rfl ?_
          refine r_iconst (v := 4) hX dX6_sheet_35 (by decide) ?_
          refine r_cVi1 hX fv_X6_107 ly_34 rfl ⟨Nat.le_of_ble_eq_true rfl, Nat.le_of_ble_eq_true rfl⟩ (c_X6_fails 4 h) (Nat.le_of_ble_eq_true rfl) dX6_sheet_36 (fun r10 M11 h => ?_)
          exact r_iret (hret _ _ rfl h) dX6_sheet_39
      · have h := h.2 hc
        refine r_bipush (v := (-2)) hX dX6_sheet_27 (by decide) ?_
        exact r_iret (hret _ _ rfl h) dX6_sheet_29
  · have h := h.2 hc
    refine r_iconst (v := (-1)) hX dX6_sheet_12 (by decide) ?_
    exact r_iret (hret _ _ rfl h) dX6_sheet_13
set_option maxRecDepth 100000 in
theorem c_X6_sheet {l : Launch} {D : va_G} {cs : CS3} {ad : Nat → Nat} (p1 : Int32) (p2 : Int32) (p3 : Int32) {M : Mem} {post : Int32 → Mem → Prop} (h : wp_X6_sheet p1 p2 p3 M post) : CtI l D cs ad yX6_sheet cX6_sheet 5 (some .int) 2 42 [.ref (ad 34), .int p1, .int p2, .int p3] M post := met_I (k := 1) (fun ad => [.ref (ad 34), .int p1, .int p2, .int p3]) (fun ad => [some (.ref (ad 34)), some (.int p1), some (.int p2), some (.int p3), none]) (by decide +kernel) (fun _ => Nat.le_of_ble_eq_true rfl) (fun _ => rfl) (fun _ => rfl) (fun X hX hret => wk_X6_sheet p1 p2 p3 hX hret h)
def jn_X6_lose_25 (p1 : Int32) (post : Int32 → Mem → Prop) (s0 : Int32) (M : Mem) : Prop := (vp_in p1 4 ∧ ∀ M3 : Mem, M3 = up2 M 35 p1.toNatClampNeg (-9) → post s0 M3)
set_option maxRecDepth 100000 in
theorem wj_X6_lose_25 {X : CT} (p1 : Int32) (hX : okX X RX6 cX6_lose 2 42) {post : Int32 → Mem → Prop} (hret : ∀ (r : Int32) (M' : Mem), narrow .int (.int r) = .int r → post r M' → RetI X cX6_lose r M') (s0 : Int32) (M : Mem) (h : jn_X6_lose_25 p1 post s0 M) : Z X M 25 [some (.ref (adX X 34)), some (.int p1), none] [.int s0] := by
  unfold jn_X6_lose_25 at h
  refine r_istore_n (L' := [some (.ref (adX X 34)), some (.int p1), some (.int s0)]) hX dX6_lose_25 rfl (Nat.lt_of_ble rfl) rfl rfl ?_
  refine r_aload_n hX dX6_lose_26 rfl rfl ?_
  refine r_getR hX fg_X6_9 ly_34 rfl dX6_lose_27 ?_
  refine r_iload_n hX dX6_lose_30 rfl rfl ?_
  refine r_bipush (v := (-9)) hX dX6_lose_31 (by decide) ?_
  refine r_iast hX ly_35 h.1 dX6_lose_33 ?_
  refine r_nmM (fun M3 eM3 => ?_)
  have h := h.2 M3 eM3
  refine r_iload_n hX dX6_lose_34 rfl rfl ?_
  exact r_iret (hret _ _ rfl h) dX6_lose_35
def wp_X6_lose (p1 : Int32) (M : Mem) (post : Int32 → Mem → Prop) : Prop := (wp_X6_isSheet p1 M (fun r1 M2 => ((¬ r1 = 0 → (vp_in p1 4 ∧ ((¬ (M2 35 p1.toNatClampNeg) = (-9) → jn_X6_lose_25 p1 post 1 M2) ∧ ((M2 35 p1.toNatClampNeg) = (-9) → jn_X6_lose_25 p1 post 0 M2)))) ∧ (r1 = 0 → post (-1) M2))))
set_option maxRecDepth 100000 in
theorem wk_X6_lose {X : CT} (p1 : Int32) (hX : okX X RX6 cX6_lose 2 42) {M : Mem} {post : Int32 → Mem → Prop} (hret : ∀ (r : Int32) (M' : Mem), narrow .int (.int r) = .int r → post r M' → RetI X cX6_lose r M') (h : wp_X6_lose p1 M post) : Z X M 0 [some (.ref (adX X 34)), some (.int p1), none] [] := by
  unfold wp_X6_lose at h
  refine r_iload_n hX dX6_lose_0 rfl rfl ?_
  refine r_cSi1 hX fs_X6_96 ⟨Nat.le_of_ble_eq_true rfl, Nat.le_of_ble_eq_true rfl⟩ (c_X6_isSheet p1 h) (Nat.le_of_ble_eq_true rfl) dX6_lose_1 (fun r1 M2 h => ?_)
  refine r_if_ne hX 9 dX6_lose_4 (by decide) (fun hc => ?_) (fun hc => ?_)
  · have h := h.1 hc
    refine r_aload_n hX dX6_lose_9 rfl rfl ?_
    refine r_getR hX fg_X6_9 ly_34 rfl dX6_lose_10 ?_
    refine r_iload_n hX dX6_lose_13 rfl rfl ?_
    refine r_iald hX ly_35 h.1 dX6_lose_14 ?_
    have h := h.2
    refine r_bipush (v := (-9)) hX dX6_lose_15 (by decide) ?_
    refine r_icmp_ne hX 24 dX6_lose_17 (by decide) (fun hc => ?_) (fun hc => ?_)
    · have h := h.1 hc
      refine r_iconst (v := 1) hX dX6_lose_24 (by decide) ?_
      refine r_sub [some (.ref (adX X 34)), some (.int p1), none] (And.intro rfl (And.intro rfl trivial)) ?_
      exact wj_X6_lose_25 p1 hX hret _ _ h
    · have h := h.2 hc
      refine r_iconst (v := 0) hX dX6_lose_20 (by decide) ?_
      refine r_goto hX 25 dX6_lose_21 (by decide) ?_
      refine r_sub [some (.ref (adX X 34)), some (.int p1), none] (And.intro rfl (And.intro rfl trivial)) ?_
      exact wj_X6_lose_25 p1 hX hret _ _ h
  · have h := h.2 hc
    refine r_iconst (v := (-1)) hX dX6_lose_7 (by decide) ?_
    exact r_iret (hret _ _ rfl h) dX6_lose_8
set_option maxRecDepth 100000 in
theorem c_X6_lose {l : Launch} {D : va_G} {cs : CS3} {ad : Nat → Nat} (p1 : Int32) {M : Mem} {post : Int32 → Mem → Prop} (h : wp_X6_lose p1 M post) : CtI l D cs ad yX6_lose cX6_lose 3 (some .int) 2 42 [.ref (ad 34), .int p1] M post := met_I (k := 1) (fun ad => [.ref (ad 34), .int p1]) (fun ad => [some (.ref (ad 34)), some (.int p1), none]) (by decide +kernel) (fun _ => Nat.le_of_ble_eq_true rfl) (fun _ => rfl) (fun _ => rfl) (fun X hX hret => wk_X6_lose p1 hX hret h)
def jn_X6_put_93 (p1 : Int32) (p2 : Int32) (p3 : Int32) (post : Int32 → Mem → Prop) (s0 : Int32) (s1 : Int32) (M : Mem) : Prop := (vp_in s1 240 ∧ ∀ M6 : Mem, M6 = up2 M 37 s1.toNatClampNeg s0 → post 1 M6)
set_option maxRecDepth 100000 in
theorem wj_X6_put_93 {X : CT} (p1 : Int32) (p2 : Int32) (p3 : Int32) (hX : okX X RX6 cX6_put 2 42) {post : Int32 → Mem → Prop} (hret : ∀ (r : Int32) (M' : Mem), narrow .int (.int r) = .int r → post r M' → RetI X cX6_put r M') (s0 : Int32) (s1 : Int32) (M : Mem) (h : jn_X6_put_93 p1 p2 p3 post s0 s1 M) : Z X M 93 [none, none, none, none] [.int s0, .int s1, .ref (adX X 37)] := by
  unfold jn_X6_put_93 at h
  refine r_iast hX ly_37 h.1 dX6_put_93 ?_
  refine r_nmM (fun M6 eM6 => ?_)
  have h := h.2 M6 eM6
  refine r_iconst (v := 1) hX dX6_put_94 (by decide) ?_
  exact r_iret (hret _ _ rfl h) dX6_put_95
def wp_X6_put (p1 : Int32) (p2 : Int32) (p3 : Int32) (M : Mem) (post : Int32 → Mem → Prop) : Prop := (∀ M1 : Mem, M1 = up2 M 34 0 0 → (wp_X6_isSheet p1 M1 (fun r2 M3 => ((¬ r2 = 0 → (vp_in p1 4 ∧ ((¬ (M3 35 p1.toNatClampNeg) = (-9) → (vp_in p1 4 ∧ (wp_X6_within p2 0 ((M3 36 p1.toNatClampNeg) - 1) M3 (fun r4 M5 => ((¬ r4 = 0 → (vp_in p1 4 ∧ ((¬ (M5 35 p1.toNatClampNeg) = 0 → (vp_in p1 4 ∧ ((¬ (M5 35 p1.toNatClampNeg) = 1 → jn_X6_put_93 p1 p2 p3 post p3 ((60 * p1) + p2) M5) ∧ ((M5 35 p1.toNatClampNeg) = 1 → jn_X6_put_93 p1 p2 p3 post p3.toInt16.toInt32 ((60 * p1) + p2) M5)))) ∧ ((M5 35 p1.toNatClampNeg) = 0 → jn_X6_put_93 p1 p2 p3 post p3.toInt8.toInt32 ((60 * p1) + p2) M5)))) ∧ (r4 = 0 → (wp_X6_fails 3 M5 (fun r7 M8 => post r7 M8)))))))) ∧ ((M3 35 p1.toNatClampNeg) = (-9) → (wp_X6_fails 1 M3 (fun r9 M10 => post r9 M10)))))) ∧ (r2 = 0 → post (-1) M3)))))
set_option maxRecDepth 100000 in
theorem wk_X6_put {X : CT} (p1 : Int32) (p2 : Int32) (p3 : Int32) (hX : okX X RX6 cX6_put 2 42) {M : Mem} {post : Int32 → Mem → Prop} (hret : ∀ (r : Int32) (M' : Mem), narrow .int (.int r) = .int r → post r M' → RetI X cX6_put r M') (h : wp_X6_put p1 p2 p3 M post) : Z X M 0 [some (.ref (adX X 34)), some (.int p1), some (.int p2), some (.int p3)] [] := by
  unfold wp_X6_put at h
  refine r_aload_n hX dX6_put_0 rfl rfl ?_
  refine r_iconst (v := 0) hX dX6_put_1 (by decide) ?_
  refine r_putI hX fp_X6_78 ly_34 rfl dX6_put_2 ?_
  refine r_nmM (fun M1 eM1 => ?_)
  have h := h M1 eM1
  refine r_iload_n hX dX6_put_5 rfl rfl ?_
  refine r_cSi1 hX fs_X6_96 ⟨Nat.le_of_ble_eq_true rfl, Nat.le_of_ble_eq_true rfl⟩ (c_X6_isSheet p1 h) (Nat.le_of_ble_eq_true rfl) dX6_put_6 (fun r2 M3 h => ?_)
  refine r_if_ne hX 14 dX6_put_9 (by decide) (fun hc => ?_) (fun hc => ?_)
  · have h := h.1 hc
    refine r_aload_n hX dX6_put_14 rfl rfl ?_
    refine r_getR hX fg_X6_9 ly_34 rfl dX6_put_15 ?_
    refine r_iload_n hX dX6_put_18 rfl rfl ?_
    refine r_iald hX ly_35 h.1 dX6_put_19 ?_
    have h := h.2
    refine r_bipush (v := (-9)) hX dX6_put_20 (by decide) ?_
    refine r_icmp_ne hX 31 dX6_put_22 (by decide) (fun hc => ?_) (fun hc => ?_)
    · have h := h.1 hc
      refine r_iload_n hX dX6_put_31 rfl rfl ?_
      refine r_iconst (v := 0) hX dX6_put_32 (by decide) ?_
      refine r_aload_n hX dX6_put_33 rfl rfl ?_
      refine r_getR hX fg_X6_13 ly_34 rfl dX6_put_34 ?_
      refine r_iload_n hX dX6_put_37 rfl rfl ?_
      refine r_iald hX ly_36 h.1 dX6_put_38 ?_
      have h := h.2
      refine r_iconst (v := 1) hX dX6_put_39 (by decide) ?_
      refine r_isub hX dX6_put_40 ?_
      refine r_cSi3 hX fs_X6_83 ⟨Nat.le_of_ble_eq_true rfl, Nat.le_of_ble_eq_true rfl⟩ (c_X6_within p2 0 ((M3 36 p1.toNatClampNeg) - 1) h) (Nat.le_of_ble_eq_true rfl) dX6_put_41 (fun r4 M5 h => ?_)
      refine r_if_ne hX 53 dX6_put_44 (by decide) (fun hc => ?_) (fun hc => ?_)
      · have h := h.1 hc
        refine r_aload_n hX dX6_put_53 rfl rfl ?_
        refine r_getR hX fg_X6_16 ly_34 rfl dX6_put_54 ?_
        refine r_bipush (v := 60) hX dX6_put_57 (by decide) ?_
        refine r_iload_n hX dX6_put_59 rfl rfl ?_
        refine r_imul hX dX6_put_60 ?_
        refine r_iload_n hX dX6_put_61 rfl rfl ?_
        refine r_iadd hX dX6_put_62 ?_
        refine r_aload_n hX dX6_put_63 rfl rfl ?_
        refine r_getR hX fg_X6_9 ly_34 rfl dX6_put_64 ?_
        refine r_iload_n hX dX6_put_67 rfl rfl ?_
        refine r_iald hX ly_35 h.1 dX6_put_68 ?_
        have h := h.2
        refine r_if_ne hX 77 dX6_put_69 (by decide) (fun hc => ?_) (fun hc => ?_)
        · have h := h.1 hc
          refine r_aload_n hX dX6_put_77 rfl rfl ?_
          refine r_getR hX fg_X6_9 ly_34 rfl dX6_put_78 ?_
          refine r_iload_n hX dX6_put_81 rfl rfl ?_
          refine r_iald hX ly_35 h.1 dX6_put_82 ?_
          have h := h.2
          refine r_iconst (v := 1) hX dX6_put_83 (by decide) ?_
          refine r_icmp_ne hX 92 dX6_put_84 (by decide) (fun hc => ?_) (fun hc => ?_)
          · have h := h.1 hc
            refine r_iload_n hX dX6_put_92 rfl rfl ?_
            refine r_sub [none, none, none, none] trivial ?_
            exact wj_X6_put_93 p1 p2 p3 hX hret _ _ _ h
          · have h := h.2 hc
            refine r_iload_n hX dX6_put_87 rfl rfl ?_
            refine r_i2s hX dX6_put_88 ?_
            refine r_goto hX 93 dX6_put_89 (by decide) ?_
            refine r_sub [none, none, none, none] trivial ?_
            exact wj_X6_put_93 p1 p2 p3 hX hret _ _ _ h
        · have h := h.2 hc
          refine r_iload_n hX dX6_put_72 rfl rfl ?_
          refine r_i2b hX dX6_put_73 ?_
          refine r_goto hX 93 dX6_put_74 (by decide) ?_
          refine r_sub [none, none, none, none] trivial ?_
          exact wj_X6_put_93 p1 p2 p3 hX hret _ _ _ h
      · have h := h.2 hc
        refine r_aload_n hX dX6_put_47 rfl rfl ?_
        refine r_iconst (v := 3) hX dX6_put_48 (by decide) ?_
        refine r_cVi1 hX fv_X6_107 ly_34 rfl ⟨Nat.le_of_ble_eq_true rfl, Nat.le_of_ble_eq_true rfl⟩ (c_X6_fails 3 h) (Nat.le_of_ble_eq_true rfl) dX6_put_49 (fun r7 M8 h => ?_)
        exact r_iret (hret _ _ rfl h) dX6_put_52
    · have h := h.2 hc
      refine r_aload_n hX dX6_put_25 rfl rfl ?_
      refine r_iconst (v := 1) hX dX6_put_26 (by decide) ?_
      refine r_cVi1 hX fv_X6_107 ly_34 rfl ⟨Nat.le_of_ble_eq_true rfl, Nat.le_of_ble_eq_true rfl⟩ (c_X6_fails 1 h) (Nat.le_of_ble_eq_true rfl) dX6_put_27 (fun r9 M10 h => ?_)
      exact r_iret (hret _ _ rfl h) dX6_put_30
  · have h := h.2 hc
    refine r_iconst (v := (-1)) hX dX6_put_12 (by decide) ?_
    exact r_iret (hret _ _ rfl h) dX6_put_13
set_option maxRecDepth 100000 in
theorem c_X6_put {l : Launch} {D : va_G} {cs : CS3} {ad : Nat → Nat} (p1 : Int32) (p2 : Int32) (p3 : Int32) {M : Mem} {post : Int32 → Mem → Prop} (h : wp_X6_put p1 p2 p3 M post) : CtI l D cs ad yX6_put cX6_put 4 (some .int) 2 42 [.ref (ad 34), .int p1, .int p2, .int p3] M post := met_I (k := 0) (fun ad => [.ref (ad 34), .int p1, .int p2, .int p3]) (fun ad => [some (.ref (ad 34)), some (.int p1), some (.int p2), some (.int p3)]) (by decide +kernel) (fun _ => Nat.le_of_ble_eq_true rfl) (fun _ => rfl) (fun _ => rfl) (fun X hX hret => wk_X6_put p1 p2 p3 hX hret h)
def jn_X6_cell_50 (p1 : Int32) (p2 : Int32) (p3 : Int32) (post : Int64 → Mem → Prop) (M : Mem) : Prop := (vp_in p1 4 ∧ ((¬ (M 35 p1.toNatClampNeg) = (-9) → (vp_in p1 4 ∧ (wp_X6_within p2 0 ((M 36 p1.toNatClampNeg) - 1) M (fun r6 M7 => ((¬ r6 = 0 → (vp_in ((60 * p1) + p2) 240 ∧ post ((M7 37 ((60 * p1) + p2).toNatClampNeg).toInt64) M7)) ∧ (r6 = 0 → (wp_X6_lost 3 M7 (fun r8 M9 => post r8 M9)))))))) ∧ ((M 35 p1.toNatClampNeg) = (-9) → (wp_X6_lost 1 M (fun r10 M11 => post r10 M11)))))
set_option maxRecDepth 100000 in
theorem wj_X6_cell_50 {X : CT} (p1 : Int32) (p2 : Int32) (p3 : Int32) (hX : okX X RX6 cX6_cell 2 42) {post : Int64 → Mem → Prop} (hret : ∀ (r : Int64) (M' : Mem), post r M' → RetL X cX6_cell r M') (M : Mem) (h : jn_X6_cell_50 p1 p2 p3 post M) : Z X M 50 [some (.ref (adX X 34)), some (.int p1), some (.int p2), none] [] := by
  unfold jn_X6_cell_50 at h
  refine r_aload_n hX dX6_cell_50 rfl rfl ?_
  refine r_getR hX fg_X6_9 ly_34 rfl dX6_cell_51 ?_
  refine r_iload_n hX dX6_cell_54 rfl rfl ?_
  refine r_iald hX ly_35 h.1 dX6_cell_55 ?_
  have h := h.2
  refine r_bipush (v := (-9)) hX dX6_cell_56 (by decide) ?_
  refine r_icmp_ne hX 67 dX6_cell_58 (by decide) (fun hc => ?_) (fun hc => ?_)
  · have h := h.1 hc
    refine r_iload_n hX dX6_cell_67 rfl rfl ?_
    refine r_iconst (v := 0) hX dX6_cell_68 (by decide) ?_
    refine r_aload_n hX dX6_cell_69 rfl rfl ?_
    refine r_getR hX fg_X6_13 ly_34 rfl dX6_cell_70 ?_
    refine r_iload_n hX dX6_cell_73 rfl rfl ?_
    refine r_iald hX ly_36 h.1 dX6_cell_74 ?_
    have h := h.2
    refine r_iconst (v := 1) hX dX6_cell_75 (by decide) ?_
    refine r_isub hX dX6_cell_76 ?_
    refine r_cSi3 hX fs_X6_83 ⟨Nat.le_of_ble_eq_true rfl, Nat.le_of_ble_eq_true rfl⟩ (c_X6_within p2 0 ((M 36 p1.toNatClampNeg) - 1) h) (Nat.le_of_ble_eq_true rfl) dX6_cell_77 (fun r6 M7 h => ?_)
    refine r_if_ne hX 89 dX6_cell_80 (by decide) (fun hc => ?_) (fun hc => ?_)
    · have h := h.1 hc
      refine r_aload_n hX dX6_cell_89 rfl rfl ?_
      refine r_getR hX fg_X6_16 ly_34 rfl dX6_cell_90 ?_
      refine r_bipush (v := 60) hX dX6_cell_93 (by decide) ?_
      refine r_iload_n hX dX6_cell_95 rfl rfl ?_
      refine r_imul hX dX6_cell_96 ?_
      refine r_iload_n hX dX6_cell_97 rfl rfl ?_
      refine r_iadd hX dX6_cell_98 ?_
      refine r_iald hX ly_37 h.1 dX6_cell_99 ?_
      have h := h.2
      refine r_i2l hX dX6_cell_100 ?_
      exact r_lret (hret _ _ h) dX6_cell_101
    · have h := h.2 hc
      refine r_aload_n hX dX6_cell_83 rfl rfl ?_
      refine r_iconst (v := 3) hX dX6_cell_84 (by decide) ?_
      refine r_cVl1 hX fv_X6_204 ly_34 rfl ⟨Nat.le_of_ble_eq_true rfl, Nat.le_of_ble_eq_true rfl⟩ (c_X6_lost 3 h) (Nat.le_of_ble_eq_true rfl) dX6_cell_85 (fun r8 M9 h => ?_)
      exact r_lret (hret _ _ h) dX6_cell_88
  · have h := h.2 hc
    refine r_aload_n hX dX6_cell_61 rfl rfl ?_
    refine r_iconst (v := 1) hX dX6_cell_62 (by decide) ?_
    refine r_cVl1 hX fv_X6_204 ly_34 rfl ⟨Nat.le_of_ble_eq_true rfl, Nat.le_of_ble_eq_true rfl⟩ (c_X6_lost 1 h) (Nat.le_of_ble_eq_true rfl) dX6_cell_63 (fun r10 M11 h => ?_)
    exact r_lret (hret _ _ h) dX6_cell_66
def wp_X6_cell (p1 : Int32) (p2 : Int32) (p3 : Int32) (M : Mem) (post : Int64 → Mem → Prop) : Prop := (∀ M1 : Mem, M1 = up2 M 34 0 0 → (wp_X6_isSheet p1 M1 (fun r2 M3 => ((r2 = 0 → post (-9223372036854775808) M3) ∧ (¬ r2 = 0 → (wp_X6_isSort p3 M3 (fun r4 M5 => ((¬ r4 = 0 → (vp_in p1 4 ∧ (((M5 35 p1.toNatClampNeg) = (-9) → jn_X6_cell_50 p1 p2 p3 post M5) ∧ (¬ (M5 35 p1.toNatClampNeg) = (-9) → (vp_in p1 4 ∧ (((M5 35 p1.toNatClampNeg) = p3 → jn_X6_cell_50 p1 p2 p3 post M5) ∧ (¬ (M5 35 p1.toNatClampNeg) = p3 → (wp_X6_lost 2 M5 (fun r12 M13 => post r12 M13))))))))) ∧ (r4 = 0 → post (-9223372036854775808) M5)))))))))
set_option maxRecDepth 100000 in
theorem wk_X6_cell {X : CT} (p1 : Int32) (p2 : Int32) (p3 : Int32) (hX : okX X RX6 cX6_cell 2 42) {M : Mem} {post : Int64 → Mem → Prop} (hret : ∀ (r : Int64) (M' : Mem), post r M' → RetL X cX6_cell r M') (h : wp_X6_cell p1 p2 p3 M post) : Z X M 0 [some (.ref (adX X 34)), some (.int p1), some (.int p2), some (.int p3)] [] := by
  unfold wp_X6_cell at h
  refine r_aload_n hX dX6_cell_0 rfl rfl ?_
  refine r_iconst (v := 0) hX dX6_cell_1 (by decide) ?_
  refine r_putI hX fp_X6_78 ly_34 rfl dX6_cell_2 ?_
  refine r_nmM (fun M1 eM1 => ?_)
  have h := h M1 eM1
  refine r_iload_n hX dX6_cell_5 rfl rfl ?_
  refine r_cSi1 hX fs_X6_96 ⟨Nat.le_of_ble_eq_true rfl, Nat.le_of_ble_eq_true rfl⟩ (c_X6_isSheet p1 h) (Nat.le_of_ble_eq_true rfl) dX6_cell_6 (fun r2 M3 h => ?_)
  refine r_if_eq hX 19 dX6_cell_9 (by decide) (fun hc => ?_) (fun hc => ?_)
  · have h := h.1 hc
    refine r_ldc2 (v := (-9223372036854775808)) hX kw_X6_81 dX6_cell_19 ?_
    exact r_lret (hret _ _ h) dX6_cell_22
  · have h := h.2 hc
    refine r_iload_n hX dX6_cell_12 rfl rfl ?_
    refine r_cSi1 hX fs_X6_100 ⟨Nat.le_of_ble_eq_true rfl, Nat.le_of_ble_eq_true rfl⟩ (c_X6_isSort p3 h) (Nat.le_of_ble_eq_true rfl) dX6_cell_13 (fun r4 M5 h => ?_)
    refine r_if_ne hX 23 dX6_cell_16 (by decide) (fun hc => ?_) (fun hc => ?_)
    · have h := h.1 hc
      refine r_aload_n hX dX6_cell_23 rfl rfl ?_
      refine r_getR hX fg_X6_9 ly_34 rfl dX6_cell_24 ?_
      refine r_iload_n hX dX6_cell_27 rfl rfl ?_
      refine r_iald hX ly_35 h.1 dX6_cell_28 ?_
      have h := h.2
      refine r_bipush (v := (-9)) hX dX6_cell_29 (by decide) ?_
      refine r_icmp_eq hX 50 dX6_cell_31 (by decide) (fun hc => ?_) (fun hc => ?_)
      · have h := h.1 hc
        refine r_sub [some (.ref (adX X 34)), some (.int p1), some (.int p2), none] (And.intro rfl (And.intro rfl (And.intro rfl trivial))) ?_
        exact wj_X6_cell_50 p1 p2 p3 hX hret _ h
      · have h := h.2 hc
        refine r_aload_n hX dX6_cell_34 rfl rfl ?_
        refine r_getR hX fg_X6_9 ly_34 rfl dX6_cell_35 ?_
        refine r_iload_n hX dX6_cell_38 rfl rfl ?_
        refine r_iald hX ly_35 h.1 dX6_cell_39 ?_
        have h := h.2
        refine r_iload_n hX dX6_cell_40 rfl rfl ?_
        refine r_icmp_eq hX 50 dX6_cell_41 (by decide) (fun hc => ?_) (fun hc => ?_)
        · have h := h.1 hc
          refine r_sub [some (.ref (adX X 34)), some (.int p1), some (.int p2), none] (And.intro rfl (And.intro rfl (And.intro rfl trivial))) ?_
          exact wj_X6_cell_50 p1 p2 p3 hX hret _ h
        · have h := h.2 hc
          refine r_aload_n hX dX6_cell_44 rfl rfl ?_
          refine r_iconst (v := 2) hX dX6_cell_45 (by decide) ?_
          refine r_cVl1 hX fv_X6_204 ly_34 rfl ⟨Nat.le_of_ble_eq_true rfl, Nat.le_of_ble_eq_true rfl⟩ (c_X6_lost 2 h) (Nat.le_of_ble_eq_true rfl) dX6_cell_46 (fun r12 M13 h => ?_)
          exact r_lret (hret _ _ h) dX6_cell_49
    · have h := h.2 hc
      refine r_ldc2 (v := (-9223372036854775808)) hX kw_X6_81 dX6_cell_19 ?_
      exact r_lret (hret _ _ h) dX6_cell_22
set_option maxRecDepth 100000 in
theorem c_X6_cell {l : Launch} {D : va_G} {cs : CS3} {ad : Nat → Nat} (p1 : Int32) (p2 : Int32) (p3 : Int32) {M : Mem} {post : Int64 → Mem → Prop} (h : wp_X6_cell p1 p2 p3 M post) : CtL l D cs ad yX6_cell cX6_cell 4 (some .long) 2 42 [.ref (ad 34), .int p1, .int p2, .int p3] M post := met_L (k := 0) (fun ad => [.ref (ad 34), .int p1, .int p2, .int p3]) (fun ad => [some (.ref (ad 34)), some (.int p1), some (.int p2), some (.int p3)]) (by decide +kernel) (fun _ => Nat.le_of_ble_eq_true rfl) (fun _ => rfl) (fun _ => rfl) (fun X hX hret => wk_X6_cell p1 p2 p3 hX hret h)
def jn_X6_copy_43 (p1 : Int32) (p2 : Int32) (p3 : Int32) (p4 : Int32) (p5 : Int32) (post : Int32 → Mem → Prop) (M : Mem) : Prop := (wp_X6_fails 1 M (fun r6 M7 => post r6 M7))
set_option maxRecDepth 100000 in
theorem wj_X6_copy_43 {X : CT} (p1 : Int32) (p2 : Int32) (p3 : Int32) (p4 : Int32) (p5 : Int32) (hX : okX X RX6 cX6_copy 2 42) {post : Int32 → Mem → Prop} (hret : ∀ (r : Int32) (M' : Mem), narrow .int (.int r) = .int r → post r M' → RetI X cX6_copy r M') (M : Mem) (h : jn_X6_copy_43 p1 p2 p3 p4 p5 post M) : Z X M 43 [some (.ref (adX X 34)), none, none, none, none, none, none, none, none, none] [] := by
  unfold jn_X6_copy_43 at h
  refine r_aload_n hX dX6_copy_43 rfl rfl ?_
  refine r_iconst (v := 1) hX dX6_copy_44 (by decide) ?_
  refine r_cVi1 hX fv_X6_107 ly_34 rfl ⟨Nat.le_of_ble_eq_true rfl, Nat.le_of_ble_eq_true rfl⟩ (c_X6_fails 1 h) (Nat.le_of_ble_eq_true rfl) dX6_copy_45 (fun r6 M7 h => ?_)
  exact r_iret (hret _ _ rfl h) dX6_copy_48
def jn_X6_copy_144 (p1 : Int32) (p2 : Int32) (p3 : Int32) (p4 : Int32) (p5 : Int32) (post : Int32 → Mem → Prop) (M : Mem) : Prop := (wp_X6_fails 3 M (fun r8 M9 => post r8 M9))
set_option maxRecDepth 100000 in
theorem wj_X6_copy_144 {X : CT} (p1 : Int32) (p2 : Int32) (p3 : Int32) (p4 : Int32) (p5 : Int32) (hX : okX X RX6 cX6_copy 2 42) {post : Int32 → Mem → Prop} (hret : ∀ (r : Int32) (M' : Mem), narrow .int (.int r) = .int r → post r M' → RetI X cX6_copy r M') (M : Mem) (h : jn_X6_copy_144 p1 p2 p3 p4 p5 post M) : Z X M 144 [some (.ref (adX X 34)), none, none, none, none, none, none, none, none, none] [] := by
  unfold jn_X6_copy_144 at h
  refine r_aload_n hX dX6_copy_144 rfl rfl ?_
  refine r_iconst (v := 3) hX dX6_copy_145 (by decide) ?_
  refine r_cVi1 hX fv_X6_107 ly_34 rfl ⟨Nat.le_of_ble_eq_true rfl, Nat.le_of_ble_eq_true rfl⟩ (c_X6_fails 3 h) (Nat.le_of_ble_eq_true rfl) dX6_copy_146 (fun r8 M9 h => ?_)
  exact r_iret (hret _ _ rfl h) dX6_copy_149
def jn_X6_copy_190 (p1 : Int32) (p2 : Int32) (p3 : Int32) (p4 : Int32) (p5 : Int32) (post : Int32 → Mem → Prop) (B_166 : Int32 → Int32 → Mem → Prop) (x7 : Int32) (x8 : Int32) (s0 : Int32) (M : Mem) : Prop := (vp_in (((60 * p1) + p2) + s0) 240 ∧ (vp_in (((60 * p3) + p4) + s0) 240 ∧ ∀ M10 : Mem, M10 = up2 M 37 (((60 * p3) + p4) + s0).toNatClampNeg (M 37 (((60 * p1) + p2) + s0).toNatClampNeg) → B_166 x7 (x8 + 1) M10))
set_option maxRecDepth 100000 in
theorem wj_X6_copy_190 {X : CT} (p1 : Int32) (p2 : Int32) (p3 : Int32) (p4 : Int32) (p5 : Int32) (hX : okX X RX6 cX6_copy 2 42) {post : Int32 → Mem → Prop} (hret : ∀ (r : Int32) (M' : Mem), narrow .int (.int r) = .int r → post r M' → RetI X cX6_copy r M') {B_166 : Int32 → Int32 → Mem → Prop} (hB_166 : ∀ (x7 : Int32) (x8 : Int32) (M : Mem), B_166 x7 x8 M → Z X M 166 [some (.ref (adX X 34)), some (.int p1), some (.int p2), some (.int p3), some (.int p4), some (.int p5), none, some (.int x7), some (.int x8), none] []) (x7 : Int32) (x8 : Int32) (s0 : Int32) (M : Mem) (h : jn_X6_copy_190 p1 p2 p3 p4 p5 post B_166 x7 x8 s0 M) : Z X M 190 [some (.ref (adX X 34)), some (.int p1), some (.int p2), some (.int p3), some (.int p4), some (.int p5), none, some (.int x7), some (.int x8), none] [.int s0] := by
  unfold jn_X6_copy_190 at h
  refine r_istore (L' := [some (.ref (adX X 34)), some (.int p1), some (.int p2), some (.int p3), some (.int p4), some (.int p5), none, some (.int x7), some (.int x8), some (.int s0)]) hX dX6_copy_190 (Nat.lt_of_ble rfl) rfl rfl ?_
  refine r_aload_n hX dX6_copy_192 rfl rfl ?_
  refine r_getR hX fg_X6_16 ly_34 rfl dX6_copy_193 ?_
  refine r_bipush (v := 60) hX dX6_copy_196 (by decide) ?_
  refine r_iload_n hX dX6_copy_198 rfl rfl ?_
  refine r_imul hX dX6_copy_199 ?_
  refine r_iload hX dX6_copy_200 rfl ?_
  refine r_iadd hX dX6_copy_202 ?_
  refine r_iload hX dX6_copy_203 rfl ?_
  refine r_iadd hX dX6_copy_205 ?_
  refine r_aload_n hX dX6_copy_206 rfl rfl ?_
  refine r_getR hX fg_X6_16 ly_34 rfl dX6_copy_207 ?_
  refine r_bipush (v := 60) hX dX6_copy_210 (by decide) ?_
  refine r_iload_n hX dX6_copy_212 rfl rfl ?_
  refine r_imul hX dX6_copy_213 ?_
  refine r_iload_n hX dX6_copy_214 rfl rfl ?_
  refine r_iadd hX dX6_copy_215 ?_
  refine r_iload hX dX6_copy_216 rfl ?_
  refine r_iadd hX dX6_copy_218 ?_
  refine r_iald hX ly_37 h.1 dX6_copy_219 ?_
  have h := h.2
  refine r_iast hX ly_37 h.1 dX6_copy_220 ?_
  refine r_nmM (fun M10 eM10 => ?_)
  have h := h.2 M10 eM10
  refine r_iinc (v := x8 + 1) (L' := [some (.ref (adX X 34)), some (.int p1), some (.int p2), some (.int p3), some (.int p4), some (.int p5), none, some (.int x7), some (.int (x8 + 1)), some (.int s0)]) hX dX6_copy_221 rfl rfl rfl rfl ?_
  refine r_goto hX 166 dX6_copy_224 (by decide) ?_
  refine r_sub [some (.ref (adX X 34)), some (.int p1), some (.int p2), some (.int p3), some (.int p4), some (.int p5), none, some (.int x7), some (.int (x8 + 1)), none] (And.intro rfl (And.intro rfl (And.intro rfl (And.intro rfl (And.intro rfl (And.intro rfl (And.intro rfl (And.intro rfl trivial)))))))) ?_
  exact hB_166 _ _ _ h
def lp_X6_copy_166 (p1 : Int32) (p2 : Int32) (p3 : Int32) (p4 : Int32) (p5 : Int32) (post : Int32 → Mem → Prop) : Nat → Int32 → Int32 → Mem → Prop
  | 0, _, _, _ => False
  | n + 1, x7, x8, M => ((p5 ≤ x8 → post p5 M) ∧ (¬ p5 ≤ x8 → ((x7 = 0 → jn_X6_copy_190 p1 p2 p3 p4 p5 post (fun y7 y8 M' => lp_X6_copy_166 p1 p2 p3 p4 p5 post n y7 y8 M') x7 x8 x8 M) ∧ (¬ x7 = 0 → jn_X6_copy_190 p1 p2 p3 p4 p5 post (fun y7 y8 M' => lp_X6_copy_166 p1 p2 p3 p4 p5 post n y7 y8 M') x7 x8 ((p5 - 1) - x8) M))))
set_option maxRecDepth 100000 in
theorem wl_X6_copy_166 {X : CT} (p1 : Int32) (p2 : Int32) (p3 : Int32) (p4 : Int32) (p5 : Int32) (hX : okX X RX6 cX6_copy 2 42) {post : Int32 → Mem → Prop} (hret : ∀ (r : Int32) (M' : Mem), narrow .int (.int r) = .int r → post r M' → RetI X cX6_copy r M') : ∀ (n : Nat) (x7 : Int32) (x8 : Int32) (M : Mem), lp_X6_copy_166 p1 p2 p3 p4 p5 post n x7 x8 M → Z X M 166 [some (.ref (adX X 34)), some (.int p1), some (.int p2), some (.int p3), some (.int p4), some (.int p5), none, some (.int x7), some (.int x8), none] [] := by
  intro n
  induction n with
  | zero =>
    intro x7 x8 M h
    exact False.elim h
  | succ n ih =>
    intro x7 x8 M h
    unfold lp_X6_copy_166 at h
    refine r_iload hX dX6_copy_166 rfl ?_
    refine r_iload hX dX6_copy_168 rfl ?_
    refine r_icmp_ge hX 227 dX6_copy_170 (by decide) (fun hc => ?_) (fun hc => ?_)
    · have h := h.1 hc
      refine r_iload hX dX6_copy_227 rfl ?_
      exact r_iret (hret _ _ rfl h) dX6_copy_229
    · have h := h.2 hc
      refine r_iload hX dX6_copy_173 rfl ?_
      refine r_if_eq hX 188 dX6_copy_175 (by decide) (fun hc => ?_) (fun hc => ?_)
      · have h := h.1 hc
        refine r_iload hX dX6_copy_188 rfl ?_
        refine r_sub [some (.ref (adX X 34)), some (.int p1), some (.int p2), some (.int p3), some (.int p4), some (.int p5), none, some (.int x7), some (.int x8), none] (And.intro rfl (And.intro rfl (And.intro rfl (And.intro rfl (And.intro rfl (And.intro rfl (And.intro rfl (And.intro rfl trivial)))))))) ?_
        exact wj_X6_copy_190 p1 p2 p3 p4 p5 hX hret (fun y7 y8 M' h' => ih y7 y8 M' h') _ _ _ _ h
      · have h := h.2 hc
        refine r_iload hX dX6_copy_178 rfl ?_
        refine r_iconst (v := 1) hX dX6_copy_180 (by decide) ?_
        refine r_isub hX dX6_copy_181 ?_
        refine r_iload hX dX6_copy_182 rfl ?_
        refine r_isub hX dX6_copy_184 ?_
        refine r_goto hX 190 dX6_copy_185 (by decide) ?_
        refine r_sub [some (.ref (adX X 34)), some (.int p1), some (.int p2), some (.int p3), some (.int p4), some (.int p5), none, some (.int x7), some (.int x8), none] (And.intro rfl (And.intro rfl (And.intro rfl (And.intro rfl (And.intro rfl (And.intro rfl (And.intro rfl (And.intro rfl trivial)))))))) ?_
        exact wj_X6_copy_190 p1 p2 p3 p4 p5 hX hret (fun y7 y8 M' h' => ih y7 y8 M' h') _ _ _ _ h
def jn_X6_copy_161 (p1 : Int32) (p2 : Int32) (p3 : Int32) (p4 : Int32) (p5 : Int32) (post : Int32 → Mem → Prop) (s0 : Int32) (M : Mem) : Prop := (∃ k, lp_X6_copy_166 p1 p2 p3 p4 p5 post k s0 0 M)
set_option maxRecDepth 100000 in
theorem wj_X6_copy_161 {X : CT} (p1 : Int32) (p2 : Int32) (p3 : Int32) (p4 : Int32) (p5 : Int32) (hX : okX X RX6 cX6_copy 2 42) {post : Int32 → Mem → Prop} (hret : ∀ (r : Int32) (M' : Mem), narrow .int (.int r) = .int r → post r M' → RetI X cX6_copy r M') (s0 : Int32) (M : Mem) (h : jn_X6_copy_161 p1 p2 p3 p4 p5 post s0 M) : Z X M 161 [some (.ref (adX X 34)), some (.int p1), some (.int p2), some (.int p3), some (.int p4), some (.int p5), none, none, none, none] [.int s0] := by
  unfold jn_X6_copy_161 at h
  refine r_istore (L' := [some (.ref (adX X 34)), some (.int p1), some (.int p2), some (.int p3), some (.int p4), some (.int p5), none, some (.int s0), none, none]) hX dX6_copy_161 (Nat.lt_of_ble rfl) rfl rfl ?_
  refine r_iconst (v := 0) hX dX6_copy_163 (by decide) ?_
  refine r_istore (L' := [some (.ref (adX X 34)), some (.int p1), some (.int p2), some (.int p3), some (.int p4), some (.int p5), none, some (.int s0), some (.int 0), none]) hX dX6_copy_164 (Nat.lt_of_ble rfl) rfl rfl ?_
  obtain ⟨n11, h⟩ := h
  refine r_sub [some (.ref (adX X 34)), some (.int p1), some (.int p2), some (.int p3), some (.int p4), some (.int p5), none, some (.int s0), some (.int 0), none] (And.intro rfl (And.intro rfl (And.intro rfl (And.intro rfl (And.intro rfl (And.intro rfl (And.intro rfl (And.intro rfl trivial)))))))) ?_
  exact wl_X6_copy_166 p1 p2 p3 p4 p5 hX hret n11 _ _ _ h
def jn_X6_copy_110 (p1 : Int32) (p2 : Int32) (p3 : Int32) (p4 : Int32) (p5 : Int32) (post : Int32 → Mem → Prop) (s0 : Int32) (M : Mem) : Prop := ((s0 = 0 → jn_X6_copy_144 p1 p2 p3 p4 p5 post M) ∧ (¬ s0 = 0 → (vp_in p1 4 ∧ ((((M 36 p1.toNatClampNeg) - p2) < p5 → jn_X6_copy_144 p1 p2 p3 p4 p5 post M) ∧ (¬ ((M 36 p1.toNatClampNeg) - p2) < p5 → (vp_in p3 4 ∧ ((p5 ≤ ((M 36 p3.toNatClampNeg) - p4) → ((p4 ≤ p2 → jn_X6_copy_161 p1 p2 p3 p4 p5 post 0 M) ∧ (¬ p4 ≤ p2 → jn_X6_copy_161 p1 p2 p3 p4 p5 post 1 M))) ∧ (¬ p5 ≤ ((M 36 p3.toNatClampNeg) - p4) → jn_X6_copy_144 p1 p2 p3 p4 p5 post M))))))))
set_option maxRecDepth 100000 in
theorem wj_X6_copy_110 {X : CT} (p1 : Int32) (p2 : Int32) (p3 : Int32) (p4 : Int32) (p5 : Int32) (hX : okX X RX6 cX6_copy 2 42) {post : Int32 → Mem → Prop} (hret : ∀ (r : Int32) (M' : Mem), narrow .int (.int r) = .int r → post r M' → RetI X cX6_copy r M') (s0 : Int32) (M : Mem) (h : jn_X6_copy_110 p1 p2 p3 p4 p5 post s0 M) : Z X M 110 [some (.ref (adX X 34)), some (.int p1), some (.int p2), some (.int p3), some (.int p4), some (.int p5), none, none, none, none] [.int s0] := by
  unfold jn_X6_copy_110 at h
  refine r_istore (L' := [some (.ref (adX X 34)), some (.int p1), some (.int p2), some (.int p3), some (.int p4), some (.int p5), some (.int s0), none, none, none]) hX dX6_copy_110 (Nat.lt_of_ble rfl) rfl rfl ?_
  refine r_iload hX dX6_copy_112 rfl ?_
  refine r_if_eq hX 144 dX6_copy_114 (by decide) (fun hc => ?_) (fun hc => ?_)
  · have h := h.1 hc
    refine r_sub [some (.ref (adX X 34)), none, none, none, none, none, none, none, none, none] (And.intro rfl trivial) ?_
    exact wj_X6_copy_144 p1 p2 p3 p4 p5 hX hret _ h
  · have h := h.2 hc
    refine r_iload hX dX6_copy_117 rfl ?_
    refine r_aload_n hX dX6_copy_119 rfl rfl ?_
    refine r_getR hX fg_X6_13 ly_34 rfl dX6_copy_120 ?_
    refine r_iload_n hX dX6_copy_123 rfl rfl ?_
    refine r_iald hX ly_36 h.1 dX6_copy_124 ?_
    have h := h.2
    refine r_iload_n hX dX6_copy_125 rfl rfl ?_
    refine r_isub hX dX6_copy_126 ?_
    refine r_icmp_gt hX 144 dX6_copy_127 (by decide) (fun hc => ?_) (fun hc => ?_)
    · have h := h.1 hc
      refine r_sub [some (.ref (adX X 34)), none, none, none, none, none, none, none, none, none] (And.intro rfl trivial) ?_
      exact wj_X6_copy_144 p1 p2 p3 p4 p5 hX hret _ h
    · have h := h.2 hc
      refine r_iload hX dX6_copy_130 rfl ?_
      refine r_aload_n hX dX6_copy_132 rfl rfl ?_
      refine r_getR hX fg_X6_13 ly_34 rfl dX6_copy_133 ?_
      refine r_iload_n hX dX6_copy_136 rfl rfl ?_
      refine r_iald hX ly_36 h.1 dX6_copy_137 ?_
      have h := h.2
      refine r_iload hX dX6_copy_138 rfl ?_
      refine r_isub hX dX6_copy_140 ?_
      refine r_icmp_le hX 150 dX6_copy_141 (by decide) (fun hc => ?_) (fun hc => ?_)
      · have h := h.1 hc
        refine r_iload_n hX dX6_copy_150 rfl rfl ?_
        refine r_iload hX dX6_copy_151 rfl ?_
        refine r_icmp_ge hX 160 dX6_copy_153 (by decide) (fun hc => ?_) (fun hc => ?_)
        · have h := h.1 hc
          refine r_iconst (v := 0) hX dX6_copy_160 (by decide) ?_
          refine r_sub [some (.ref (adX X 34)), some (.int p1), some (.int p2), some (.int p3), some (.int p4), some (.int p5), none, none, none, none] (And.intro rfl (And.intro rfl (And.intro rfl (And.intro rfl (And.intro rfl (And.intro rfl trivial)))))) ?_
          exact wj_X6_copy_161 p1 p2 p3 p4 p5 hX hret _ _ h
        · have h := h.2 hc
          refine r_iconst (v := 1) hX dX6_copy_156 (by decide) ?_
          refine r_goto hX 161 dX6_copy_157 (by decide) ?_
          refine r_sub [some (.ref (adX X 34)), some (.int p1), some (.int p2), some (.int p3), some (.int p4), some (.int p5), none, none, none, none] (And.intro rfl (And.intro rfl (And.intro rfl (And.intro rfl (And.intro rfl (And.intro rfl trivial)))))) ?_
          exact wj_X6_copy_161 p1 p2 p3 p4 p5 hX hret _ _ h
      · have h := h.2 hc
        refine r_sub [some (.ref (adX X 34)), none, none, none, none, none, none, none, none, none] (And.intro rfl trivial) ?_
        exact wj_X6_copy_144 p1 p2 p3 p4 p5 hX hret _ h
def jn_X6_copy_109 (p1 : Int32) (p2 : Int32) (p3 : Int32) (p4 : Int32) (p5 : Int32) (post : Int32 → Mem → Prop) (M : Mem) : Prop := jn_X6_copy_110 p1 p2 p3 p4 p5 post 0 M
set_option maxRecDepth 100000 in
theorem wj_X6_copy_109 {X : CT} (p1 : Int32) (p2 : Int32) (p3 : Int32) (p4 : Int32) (p5 : Int32) (hX : okX X RX6 cX6_copy 2 42) {post : Int32 → Mem → Prop} (hret : ∀ (r : Int32) (M' : Mem), narrow .int (.int r) = .int r → post r M' → RetI X cX6_copy r M') (M : Mem) (h : jn_X6_copy_109 p1 p2 p3 p4 p5 post M) : Z X M 109 [some (.ref (adX X 34)), some (.int p1), some (.int p2), some (.int p3), some (.int p4), some (.int p5), none, none, none, none] [] := by
  unfold jn_X6_copy_109 at h
  refine r_iconst (v := 0) hX dX6_copy_109 (by decide) ?_
  refine r_sub [some (.ref (adX X 34)), some (.int p1), some (.int p2), some (.int p3), some (.int p4), some (.int p5), none, none, none, none] (And.intro rfl (And.intro rfl (And.intro rfl (And.intro rfl (And.intro rfl (And.intro rfl trivial)))))) ?_
  exact wj_X6_copy_110 p1 p2 p3 p4 p5 hX hret _ _ h
def wp_X6_copy (p1 : Int32) (p2 : Int32) (p3 : Int32) (p4 : Int32) (p5 : Int32) (M : Mem) (post : Int32 → Mem → Prop) : Prop := (∀ M1 : Mem, M1 = up2 M 34 0 0 → (wp_X6_isSheet p1 M1 (fun r2 M3 => ((r2 = 0 → post (-1) M3) ∧ (¬ r2 = 0 → (wp_X6_isSheet p3 M3 (fun r4 M5 => ((¬ r4 = 0 → (vp_in p1 4 ∧ (((M5 35 p1.toNatClampNeg) = (-9) → jn_X6_copy_43 p1 p2 p3 p4 p5 post M5) ∧ (¬ (M5 35 p1.toNatClampNeg) = (-9) → (vp_in p3 4 ∧ ((¬ (M5 35 p3.toNatClampNeg) = (-9) → (vp_in p1 4 ∧ (vp_in p3 4 ∧ (((M5 35 p1.toNatClampNeg) = (M5 35 p3.toNatClampNeg) → ((p2 < 0 → jn_X6_copy_109 p1 p2 p3 p4 p5 post M5) ∧ (¬ p2 < 0 → ((p4 < 0 → jn_X6_copy_109 p1 p2 p3 p4 p5 post M5) ∧ (¬ p4 < 0 → ((p5 < 0 → jn_X6_copy_109 p1 p2 p3 p4 p5 post M5) ∧ (¬ p5 < 0 → (vp_in p1 4 ∧ (((M5 36 p1.toNatClampNeg) < p2 → jn_X6_copy_109 p1 p2 p3 p4 p5 post M5) ∧ (¬ (M5 36 p1.toNatClampNeg) < p2 → (vp_in p3 4 ∧ (((M5 36 p3.toNatClampNeg) < p4 → jn_X6_copy_109 p1 p2 p3 p4 p5 post M5) ∧ (¬ (M5 36 p3.toNatClampNeg) < p4 → jn_X6_copy_110 p1 p2 p3 p4 p5 post 1 M5))))))))))))) ∧ (¬ (M5 35 p1.toNatClampNeg) = (M5 35 p3.toNatClampNeg) → (wp_X6_fails 2 M5 (fun r12 M13 => post r12 M13))))))) ∧ ((M5 35 p3.toNatClampNeg) = (-9) → jn_X6_copy_43 p1 p2 p3 p4 p5 post M5))))))) ∧ (r4 = 0 → post (-1) M5)))))))))
set_option maxRecDepth 100000 in
theorem wk_X6_copy {X : CT} (p1 : Int32) (p2 : Int32) (p3 : Int32) (p4 : Int32) (p5 : Int32) (hX : okX X RX6 cX6_copy 2 42) {M : Mem} {post : Int32 → Mem → Prop} (hret : ∀ (r : Int32) (M' : Mem), narrow .int (.int r) = .int r → post r M' → RetI X cX6_copy r M') (h : wp_X6_copy p1 p2 p3 p4 p5 M post) : Z X M 0 [some (.ref (adX X 34)), some (.int p1), some (.int p2), some (.int p3), some (.int p4), some (.int p5), none, none, none, none] [] := by
  unfold wp_X6_copy at h
  refine r_aload_n hX dX6_copy_0 rfl rfl ?_
  refine r_iconst (v := 0) hX dX6_copy_1 (by decide) ?_
  refine r_putI hX fp_X6_78 ly_34 rfl dX6_copy_2 ?_
  refine r_nmM (fun M1 eM1 => ?_)
  have h := h M1 eM1
  refine r_iload_n hX dX6_copy_5 rfl rfl ?_
  refine r_cSi1 hX fs_X6_96 ⟨Nat.le_of_ble_eq_true rfl, Nat.le_of_ble_eq_true rfl⟩ (c_X6_isSheet p1 h) (Nat.le_of_ble_eq_true rfl) dX6_copy_6 (fun r2 M3 h => ?_)
  refine r_if_eq hX 19 dX6_copy_9 (by decide) (fun hc => ?_) (fun hc => ?_)
  · have h := h.1 hc
    refine r_iconst (v := (-1)) hX dX6_copy_19 (by decide) ?_
    exact r_iret (hret _ _ rfl h) dX6_copy_20
  · have h := h.2 hc
    refine r_iload_n hX dX6_copy_12 rfl rfl ?_
    refine r_cSi1 hX fs_X6_96 ⟨Nat.le_of_ble_eq_true rfl, Nat.le_of_ble_eq_true rfl⟩ (c_X6_isSheet p3 h) (Nat.le_of_ble_eq_true rfl) dX6_copy_13 (fun r4 M5 h => ?_)
    refine r_if_ne hX 21 dX6_copy_16 (by decide) (fun hc => ?_) (fun hc => ?_)
    · have h := h.1 hc
      refine r_aload_n hX dX6_copy_21 rfl rfl ?_
      refine r_getR hX fg_X6_9 ly_34 rfl dX6_copy_22 ?_
      refine r_iload_n hX dX6_copy_25 rfl rfl ?_
      refine r_iald hX ly_35 h.1 dX6_copy_26 ?_
      have h := h.2
      refine r_bipush (v := (-9)) hX dX6_copy_27 (by decide) ?_
      refine r_icmp_eq hX 43 dX6_copy_29 (by decide) (fun hc => ?_) (fun hc => ?_)
      · have h := h.1 hc
        refine r_sub [some (.ref (adX X 34)), none, none, none, none, none, none, none, none, none] (And.intro rfl trivial) ?_
        exact wj_X6_copy_43 p1 p2 p3 p4 p5 hX hret _ h
      · have h := h.2 hc
        refine r_aload_n hX dX6_copy_32 rfl rfl ?_
        refine r_getR hX fg_X6_9 ly_34 rfl dX6_copy_33 ?_
        refine r_iload_n hX dX6_copy_36 rfl rfl ?_
        refine r_iald hX ly_35 h.1 dX6_copy_37 ?_
        have h := h.2
        refine r_bipush (v := (-9)) hX dX6_copy_38 (by decide) ?_
        refine r_icmp_ne hX 49 dX6_copy_40 (by decide) (fun hc => ?_) (fun hc => ?_)
        · have h := h.1 hc
          refine r_aload_n hX dX6_copy_49 rfl rfl ?_
          refine r_getR hX fg_X6_9 ly_34 rfl dX6_copy_50 ?_
          refine r_iload_n hX dX6_copy_53 rfl rfl ?_
          refine r_iald hX ly_35 h.1 dX6_copy_54 ?_
          have h := h.2
          refine r_aload_n hX dX6_copy_55 rfl rfl ?_
          refine r_getR hX fg_X6_9 ly_34 rfl dX6_copy_56 ?_
          refine r_iload_n hX dX6_copy_59 rfl rfl ?_
          refine r_iald hX ly_35 h.1 dX6_copy_60 ?_
          have h := h.2
          refine r_icmp_eq hX 70 dX6_copy_61 (by decide) (fun hc => ?_) (fun hc => ?_)
          · have h := h.1 hc
            refine r_iload_n hX dX6_copy_70 rfl rfl ?_
            refine r_if_lt hX 109 dX6_copy_71 (by decide) (fun hc => ?_) (fun hc => ?_)
            · have h := h.1 hc
              refine r_sub [some (.ref (adX X 34)), some (.int p1), some (.int p2), some (.int p3), some (.int p4), some (.int p5), none, none, none, none] (And.intro rfl (And.intro rfl (And.intro rfl (And.intro rfl (And.intro rfl (And.intro rfl trivial)))))) ?_
              exact wj_X6_copy_109 p1 p2 p3 p4 p5 hX hret _ h
            · have h := h.2 hc
              refine r_iload hX dX6_copy_74 rfl ?_
              refine r_if_lt hX 109 dX6_copy_76 (by decide) (fun hc => ?_) (fun hc => ?_)
              · have h := h.1 hc
                refine r_sub [some (.ref (adX X 34)), some (.int p1), some (.int p2), some (.int p3), some (.int p4), some (.int p5), none, none, none, none] (And.intro rfl (And.intro rfl (And.intro rfl (And.intro rfl (And.intro rfl (And.intro rfl trivial)))))) ?_
                exact wj_X6_copy_109 p1 p2 p3 p4 p5 hX hret _ h
              · have h := h.2 hc
                refine r_iload hX dX6_copy_79 rfl ?_
                refine r_if_lt hX 109 dX6_copy_81 (by decide) (fun hc => ?_) (fun hc => ?_)
                · have h := h.1 hc
                  refine r_sub [some (.ref (adX X 34)), some (.int p1), some (.int p2), some (.int p3), some (.int p4), some (.int p5), none, none, none, none] (And.intro rfl (And.intro rfl (And.intro rfl (And.intro rfl (And.intro rfl (And.intro rfl trivial)))))) ?_
                  exact wj_X6_copy_109 p1 p2 p3 p4 p5 hX hret _ h
                · have h := h.2 hc
                  refine r_iload_n hX dX6_copy_84 rfl rfl ?_
                  refine r_aload_n hX dX6_copy_85 rfl rfl ?_
                  refine r_getR hX fg_X6_13 ly_34 rfl dX6_copy_86 ?_
                  refine r_iload_n hX dX6_copy_89 rfl rfl ?_
                  refine r_iald hX ly_36 h.1 dX6_copy_90 ?_
                  have h := h.2
                  refine r_icmp_gt hX 109 dX6_copy_91 (by decide) (fun hc => ?_) (fun hc => ?_)
                  · have h := h.1 hc
                    refine r_sub [some (.ref (adX X 34)), some (.int p1), some (.int p2), some (.int p3), some (.int p4), some (.int p5), none, none, none, none] (And.intro rfl (And.intro rfl (And.intro rfl (And.intro rfl (And.intro rfl (And.intro rfl trivial)))))) ?_
                    exact wj_X6_copy_109 p1 p2 p3 p4 p5 hX hret _ h
                  · have h := h.2 hc
                    refine r_iload hX dX6_copy_94 rfl ?_
                    refine r_aload_n hX dX6_copy_96 rfl rfl ?_
                    refine r_getR hX fg_X6_13 ly_34 rfl dX6_copy_97 ?_
                    refine r_iload_n hX dX6_copy_100 rfl rfl ?_
                    refine r_iald hX ly_36 h.1 dX6_copy_101 ?_
                    have h := h.2
                    refine r_icmp_gt hX 109 dX6_copy_102 (by decide) (fun hc => ?_) (fun hc => ?_)
                    · have h := h.1 hc
                      refine r_sub [some (.ref (adX X 34)), some (.int p1), some (.int p2), some (.int p3), some (.int p4), some (.int p5), none, none, none, none] (And.intro rfl (And.intro rfl (And.intro rfl (And.intro rfl (And.intro rfl (And.intro rfl trivial)))))) ?_
                      exact wj_X6_copy_109 p1 p2 p3 p4 p5 hX hret _ h
                    · have h := h.2 hc
                      refine r_iconst (v := 1) hX dX6_copy_105 (by decide) ?_
                      refine r_goto hX 110 dX6_copy_106 (by decide) ?_
                      refine r_sub [some (.ref (adX X 34)), some (.int p1), some (.int p2), some (.int p3), some (.int p4), some (.int p5), none, none, none, none] (And.intro rfl (And.intro rfl (And.intro rfl (And.intro rfl (And.intro rfl (And.intro rfl trivial)))))) ?_
                      exact wj_X6_copy_110 p1 p2 p3 p4 p5 hX hret _ _ h
          · have h := h.2 hc
            refine r_aload_n hX dX6_copy_64 rfl rfl ?_
            refine r_iconst (v := 2) hX dX6_copy_65 (by decide) ?_
            refine r_cVi1 hX fv_X6_107 ly_34 rfl ⟨Nat.le_of_ble_eq_true rfl, Nat.le_of_ble_eq_true rfl⟩ (c_X6_fails 2 h) (Nat.le_of_ble_eq_true rfl) dX6_copy_66 (fun r12 M13 h => ?_)
            exact r_iret (hret _ _ rfl h) dX6_copy_69
        · have h := h.2 hc
          refine r_sub [some (.ref (adX X 34)), none, none, none, none, none, none, none, none, none] (And.intro rfl trivial) ?_
          exact wj_X6_copy_43 p1 p2 p3 p4 p5 hX hret _ h
    · have h := h.2 hc
      refine r_iconst (v := (-1)) hX dX6_copy_19 (by decide) ?_
      exact r_iret (hret _ _ rfl h) dX6_copy_20
set_option maxRecDepth 100000 in
theorem c_X6_copy {l : Launch} {D : va_G} {cs : CS3} {ad : Nat → Nat} (p1 : Int32) (p2 : Int32) (p3 : Int32) (p4 : Int32) (p5 : Int32) {M : Mem} {post : Int32 → Mem → Prop} (h : wp_X6_copy p1 p2 p3 p4 p5 M post) : CtI l D cs ad yX6_copy cX6_copy 10 (some .int) 2 42 [.ref (ad 34), .int p1, .int p2, .int p3, .int p4, .int p5] M post := met_I (k := 4) (fun ad => [.ref (ad 34), .int p1, .int p2, .int p3, .int p4, .int p5]) (fun ad => [some (.ref (ad 34)), some (.int p1), some (.int p2), some (.int p3), some (.int p4), some (.int p5), none, none, none, none]) (by decide +kernel) (fun _ => Nat.le_of_ble_eq_true rfl) (fun _ => rfl) (fun _ => rfl) (fun X hX hret => wk_X6_copy p1 p2 p3 p4 p5 hX hret h)
def wp_X6_begins (p1 : Int32) (M : Mem) (post : Mem → Prop) : Prop := (∀ M1 : Mem, M1 = up2 M 34 1 ((31 * (M 34 1)) + p1) → post M1)
set_option maxRecDepth 100000 in
theorem wk_X6_begins {X : CT} (p1 : Int32) (hX : okX X RX6 cX6_begins 0 0) {M : Mem} {post : Mem → Prop} (hret : ∀ (M' : Mem), post M' → RetV X cX6_begins M') (h : wp_X6_begins p1 M post) : Z X M 0 [some (.ref (adX X 34)), some (.int p1)] [] := by
  unfold wp_X6_begins at h
  refine r_aload_n hX dX6_begins_0 rfl rfl ?_
  refine r_bipush (v := 31) hX dX6_begins_1 (by decide) ?_
  refine r_aload_n hX dX6_begins_3 rfl rfl ?_
  refine r_getI hX fg_X6_208 ly_34 rfl dX6_begins_4 ?_
  refine r_imul hX dX6_begins_7 ?_
  refine r_iload_n hX dX6_begins_8 rfl rfl ?_
  refine r_iadd hX dX6_begins_9 ?_
  refine r_putI hX fp_X6_208 ly_34 rfl dX6_begins_10 ?_
  refine r_nmM (fun M1 eM1 => ?_)
  have h := h M1 eM1
  exact r_vret (hret _ h) dX6_begins_13
set_option maxRecDepth 100000 in
theorem c_X6_begins {l : Launch} {D : va_G} {cs : CS3} {ad : Nat → Nat} (p1 : Int32) {M : Mem} {post : Mem → Prop} (h : wp_X6_begins p1 M post) : CtV l D cs ad yX6_begins cX6_begins 2 none 0 0 [.ref (ad 34), .int p1] M post := met_V (k := 0) (fun ad => [.ref (ad 34), .int p1]) (fun ad => [some (.ref (ad 34)), some (.int p1)]) (by decide +kernel) (fun _ => Nat.le_of_ble_eq_true rfl) (fun _ => rfl) (fun _ => rfl) (fun X hX hret => wk_X6_begins p1 hX hret h)
def wp_X6_tell (p1 : Int32) (M : Mem) (post : Int32 → Mem → Prop) : Prop := (wp_X6_isChair p1 M (fun r1 M2 => ((¬ r1 = 0 → (vp_in p1 5 ∧ (∀ v3 : Int32, v3 = M2 40 p1.toNatClampNeg → (vp_in p1 5 ∧ ((M2 38 p1.toNatClampNeg = 1 → (wp_X6_begins 2 M2 (fun M5 => (wp_X6_begins 1 M5 (fun M7 => post (v3 + 100) M7))))) ∧ (M2 38 p1.toNatClampNeg = 2 → (wp_X6_begins 3 M2 (fun M9 => (wp_X6_begins 2 M9 (fun M11 => (wp_X6_begins 1 M11 (fun M13 => (wp_X6_begins 1 M13 (fun M15 => post ((2 * v3) + 100) M15))))))))) ∧ (¬ M2 38 p1.toNatClampNeg = 1 ∧ ¬ M2 38 p1.toNatClampNeg = 2 → (wp_X6_begins 1 M2 (fun M17 => post v3 M17)))))))) ∧ (r1 = 0 → post (-1) M2))))
set_option maxRecDepth 100000 in
theorem wk_X6_tell {X : CT} (p1 : Int32) (hX : okX X RX6 cX6_tell 1 21) {M : Mem} {post : Int32 → Mem → Prop} (hret : ∀ (r : Int32) (M' : Mem), narrow .int (.int r) = .int r → post r M' → RetI X cX6_tell r M') (h : wp_X6_tell p1 M post) : Z X M 0 [some (.ref (adX X 34)), some (.int p1), none] [] := by
  unfold wp_X6_tell at h
  refine r_aload_n hX dX6_tell_0 rfl rfl ?_
  refine r_iload_n hX dX6_tell_1 rfl rfl ?_
  refine r_cVi1 hX fv_X6_140 ly_34 rfl ⟨Nat.le_of_ble_eq_true rfl, Nat.le_of_ble_eq_true rfl⟩ (c_X6_isChair p1 h) (Nat.le_of_ble_eq_true rfl) dX6_tell_2 (fun r1 M2 h => ?_)
  refine r_if_ne hX 10 dX6_tell_5 (by decide) (fun hc => ?_) (fun hc => ?_)
  · have h := h.1 hc
    refine r_aload_n hX dX6_tell_10 rfl rfl ?_
    refine r_getR hX fg_X6_25 ly_34 rfl dX6_tell_11 ?_
    refine r_iload_n hX dX6_tell_14 rfl rfl ?_
    refine r_iald hX ly_40 h.1 dX6_tell_15 ?_
    have h := h.2
    refine r_nm (fun v3 ev3 => ?_)
    have h := h v3 ev3
    refine r_istore_n (L' := [some (.ref (adX X 34)), some (.int p1), some (.int v3)]) hX dX6_tell_16 rfl (Nat.lt_of_ble rfl) rfl rfl ?_
    refine r_aload_n hX dX6_tell_17 rfl rfl ?_
    refine r_getR hX fg_X6_19 ly_34 rfl dX6_tell_18 ?_
    refine r_iload_n hX dX6_tell_21 rfl rfl ?_
    refine r_iald hX ly_38 h.1 dX6_tell_22 ?_
    have h := h.2
    by_cases hc1 : M2 38 p1.toNatClampNeg = 1
    · refine r_lsw hX 48 dX6_tell_23 (by decide) (by rw [hc1]; try rfl) (by decide) ?_
      have h := h.1 hc1
      refine r_aload_n hX dX6_tell_48 rfl rfl ?_
      refine r_iconst (v := 2) hX dX6_tell_49 (by decide) ?_
      refine r_cVv1 hX fv_X6_211 ly_34 rfl ⟨Nat.le_of_ble_eq_true rfl, Nat.le_of_ble_eq_true rfl⟩ (c_X6_begins 2 h) (Nat.le_of_ble_eq_true rfl) dX6_tell_50 (fun M5 h => ?_)
      refine r_aload_n hX dX6_tell_53 rfl rfl ?_
      refine r_iconst (v := 1) hX dX6_tell_54 (by decide) ?_
      refine r_cVv1 hX fv_X6_211 ly_34 rfl ⟨Nat.le_of_ble_eq_true rfl, Nat.le_of_ble_eq_true rfl⟩ (c_X6_begins 1 h) (Nat.le_of_ble_eq_true rfl) dX6_tell_55 (fun M7 h => ?_)
      refine r_iload_n hX dX6_tell_58 rfl rfl ?_
      refine r_bipush (v := 100) hX dX6_tell_59 (by decide) ?_
      refine r_iadd hX dX6_tell_61 ?_
      exact r_iret (hret _ _ rfl h) dX6_tell_62
    · by_cases hc2 : M2 38 p1.toNatClampNeg = 2
      · refine r_lsw hX 63 dX6_tell_23 (by decide) (by rw [hc2]; try rfl) (by decide) ?_
        have h := h.2.1 hc2
        refine r_aload_n hX dX6_tell_63 rfl rfl ?_
        refine r_iconst (v := 3) hX dX6_tell_64 (by decide) ?_
        refine r_cVv1 hX fv_X6_211 ly_34 rfl ⟨Nat.le_of_ble_eq_true rfl, Nat.le_of_ble_eq_true rfl⟩ (c_X6_begins 3 h) (Nat.le_of_ble_eq_true rfl) dX6_tell_65 (fun M9 h => ?_)
        refine r_aload_n hX dX6_tell_68 rfl rfl ?_
        refine r_iconst (v := 2) hX dX6_tell_69 (by decide) ?_
        refine r_cVv1 hX fv_X6_211 ly_34 rfl ⟨Nat.le_of_ble_eq_true rfl, Nat.le_of_ble_eq_true rfl⟩ (c_X6_begins 2 h) (Nat.le_of_ble_eq_true rfl) dX6_tell_70 (fun M11 h => ?_)
        refine r_aload_n hX dX6_tell_73 rfl rfl ?_
        refine r_iconst (v := 1) hX dX6_tell_74 (by decide) ?_
        refine r_cVv1 hX fv_X6_211 ly_34 rfl ⟨Nat.le_of_ble_eq_true rfl, Nat.le_of_ble_eq_true rfl⟩ (c_X6_begins 1 h) (Nat.le_of_ble_eq_true rfl) dX6_tell_75 (fun M13 h => ?_)
        refine r_aload_n hX dX6_tell_78 rfl rfl ?_
        refine r_iconst (v := 1) hX dX6_tell_79 (by decide) ?_
        refine r_cVv1 hX fv_X6_211 ly_34 rfl ⟨Nat.le_of_ble_eq_true rfl, Nat.le_of_ble_eq_true rfl⟩ (c_X6_begins 1 h) (Nat.le_of_ble_eq_true rfl) dX6_tell_80 (fun M15 h => ?_)
        refine r_iconst (v := 2) hX dX6_tell_83 (by decide) ?_
        refine r_iload_n hX dX6_tell_84 rfl rfl ?_
        refine r_imul hX dX6_tell_85 ?_
        refine r_bipush (v := 100) hX dX6_tell_86 (by decide) ?_
        refine r_iadd hX dX6_tell_88 ?_
        exact r_iret (hret _ _ rfl h) dX6_tell_89
      · refine r_lsw hX 90 dX6_tell_23 (by decide) (sw_l12 hc1 hc2) (by decide) ?_
        have h := h.2.2 ⟨hc1, hc2⟩
        refine r_aload_n hX dX6_tell_90 rfl rfl ?_
        refine r_iconst (v := 1) hX dX6_tell_91 (by decide) ?_
        refine r_cVv1 hX fv_X6_211 ly_34 rfl ⟨Nat.le_of_ble_eq_true rfl, Nat.le_of_ble_eq_true rfl⟩ (c_X6_begins 1 h) (Nat.le_of_ble_eq_true rfl) dX6_tell_92 (fun M17 h => ?_)
        refine r_iload_n hX dX6_tell_95 rfl rfl ?_
        exact r_iret (hret _ _ rfl h) dX6_tell_96
  · have h := h.2 hc
    refine r_iconst (v := (-1)) hX dX6_tell_8 (by decide) ?_
    exact r_iret (hret _ _ rfl h) dX6_tell_9
set_option maxRecDepth 100000 in
theorem c_X6_tell {l : Launch} {D : va_G} {cs : CS3} {ad : Nat → Nat} (p1 : Int32) {M : Mem} {post : Int32 → Mem → Prop} (h : wp_X6_tell p1 M post) : CtI l D cs ad yX6_tell cX6_tell 3 (some .int) 1 21 [.ref (ad 34), .int p1] M post := met_I (k := 1) (fun ad => [.ref (ad 34), .int p1]) (fun ad => [some (.ref (ad 34)), some (.int p1), none]) (by decide +kernel) (fun _ => Nat.le_of_ble_eq_true rfl) (fun _ => rfl) (fun _ => rfl) (fun X hX hret => wk_X6_tell p1 hX hret h)
def jn_X6_creak_26 (p1 : Int32) (post : Int32 → Mem → Prop) (s0 : Int32) (M : Mem) : Prop := (wp_X6_begins s0 M (fun M4 => (vp_in p1 5 ∧ ((¬ (M4 38 p1.toNatClampNeg) = 2 → post p1 M4) ∧ ((M4 38 p1.toNatClampNeg) = 2 → post 60 M4)))))
set_option maxRecDepth 100000 in
theorem wj_X6_creak_26 {X : CT} (p1 : Int32) (hX : okX X RX6 cX6_creak 1 21) {post : Int32 → Mem → Prop} (hret : ∀ (r : Int32) (M' : Mem), narrow .int (.int r) = .int r → post r M' → RetI X cX6_creak r M') (s0 : Int32) (M : Mem) (h : jn_X6_creak_26 p1 post s0 M) : Z X M 26 [some (.ref (adX X 34)), some (.int p1)] [.int s0, .ref (adX X 34)] := by
  unfold jn_X6_creak_26 at h
  refine r_cVv1 hX fv_X6_211 ly_34 rfl ⟨Nat.le_of_ble_eq_true rfl, Nat.le_of_ble_eq_true rfl⟩ (c_X6_begins s0 h) (Nat.le_of_ble_eq_true rfl) dX6_creak_26 (fun M4 h => ?_)
  refine r_aload_n hX dX6_creak_29 rfl rfl ?_
  refine r_getR hX fg_X6_19 ly_34 rfl dX6_creak_30 ?_
  refine r_iload_n hX dX6_creak_33 rfl rfl ?_
  refine r_iald hX ly_38 h.1 dX6_creak_34 ?_
  have h := h.2
  refine r_iconst (v := 2) hX dX6_creak_35 (by decide) ?_
  refine r_icmp_ne hX 44 dX6_creak_36 (by decide) (fun hc => ?_) (fun hc => ?_)
  · have h := h.1 hc
    refine r_iload_n hX dX6_creak_44 rfl rfl ?_
    exact r_iret (hret _ _ rfl h) dX6_creak_45
  · have h := h.2 hc
    refine r_bipush (v := 60) hX dX6_creak_39 (by decide) ?_
    refine r_goto hX 45 dX6_creak_41 (by decide) ?_
    exact r_iret (hret _ _ rfl h) dX6_creak_45
def wp_X6_creak (p1 : Int32) (M : Mem) (post : Int32 → Mem → Prop) : Prop := (wp_X6_isChair p1 M (fun r1 M2 => ((¬ r1 = 0 → (vp_in p1 5 ∧ ((¬ (M2 38 p1.toNatClampNeg) = 2 → jn_X6_creak_26 p1 post 4 M2) ∧ ((M2 38 p1.toNatClampNeg) = 2 → jn_X6_creak_26 p1 post 5 M2)))) ∧ (r1 = 0 → post (-1) M2))))
set_option maxRecDepth 100000 in
theorem wk_X6_creak {X : CT} (p1 : Int32) (hX : okX X RX6 cX6_creak 1 21) {M : Mem} {post : Int32 → Mem → Prop} (hret : ∀ (r : Int32) (M' : Mem), narrow .int (.int r) = .int r → post r M' → RetI X cX6_creak r M') (h : wp_X6_creak p1 M post) : Z X M 0 [some (.ref (adX X 34)), some (.int p1)] [] := by
  unfold wp_X6_creak at h
  refine r_aload_n hX dX6_creak_0 rfl rfl ?_
  refine r_iload_n hX dX6_creak_1 rfl rfl ?_
  refine r_cVi1 hX fv_X6_140 ly_34 rfl ⟨Nat.le_of_ble_eq_true rfl, Nat.le_of_ble_eq_true rfl⟩ (c_X6_isChair p1 h) (Nat.le_of_ble_eq_true rfl) dX6_creak_2 (fun r1 M2 h => ?_)
  refine r_if_ne hX 10 dX6_creak_5 (by decide) (fun hc => ?_) (fun hc => ?_)
  · have h := h.1 hc
    refine r_aload_n hX dX6_creak_10 rfl rfl ?_
    refine r_aload_n hX dX6_creak_11 rfl rfl ?_
    refine r_getR hX fg_X6_19 ly_34 rfl dX6_creak_12 ?_
    refine r_iload_n hX dX6_creak_15 rfl rfl ?_
    refine r_iald hX ly_38 h.1 dX6_creak_16 ?_
    have h := h.2
    refine r_iconst (v := 2) hX dX6_creak_17 (by decide) ?_
    refine r_icmp_ne hX 25 dX6_creak_18 (by decide) (fun hc => ?_) (fun hc => ?_)
    · have h := h.1 hc
      refine r_iconst (v := 4) hX dX6_creak_25 (by decide) ?_
      refine r_sub [some (.ref (adX X 34)), some (.int p1)] (And.intro rfl (And.intro rfl trivial)) ?_
      exact wj_X6_creak_26 p1 hX hret _ _ h
    · have h := h.2 hc
      refine r_iconst (v := 5) hX dX6_creak_21 (by decide) ?_
      refine r_goto hX 26 dX6_creak_22 (by decide) ?_
      refine r_sub [some (.ref (adX X 34)), some (.int p1)] (And.intro rfl (And.intro rfl trivial)) ?_
      exact wj_X6_creak_26 p1 hX hret _ _ h
  · have h := h.2 hc
    refine r_iconst (v := (-1)) hX dX6_creak_8 (by decide) ?_
    exact r_iret (hret _ _ rfl h) dX6_creak_9
set_option maxRecDepth 100000 in
theorem c_X6_creak {l : Launch} {D : va_G} {cs : CS3} {ad : Nat → Nat} (p1 : Int32) {M : Mem} {post : Int32 → Mem → Prop} (h : wp_X6_creak p1 M post) : CtI l D cs ad yX6_creak cX6_creak 2 (some .int) 1 21 [.ref (ad 34), .int p1] M post := met_I (k := 0) (fun ad => [.ref (ad 34), .int p1]) (fun ad => [some (.ref (ad 34)), some (.int p1)]) (by decide +kernel) (fun _ => Nat.le_of_ble_eq_true rfl) (fun _ => rfl) (fun _ => rfl) (fun X hX hret => wk_X6_creak p1 hX hret h)
def wp_X6_as (p1 : Int32) (p2 : Int32) (M : Mem) (post : Int32 → Mem → Prop) : Prop := (∀ M1 : Mem, M1 = up2 M 34 0 0 → (wp_X6_isChair p1 M1 (fun r2 M3 => ((¬ r2 = 0 → (wp_X6_within p2 0 2 M3 (fun r4 M5 => ((¬ r4 = 0 → (vp_in p1 5 ∧ (((M5 38 p1.toNatClampNeg) < p2 → (wp_X6_fails 2 M5 (fun r6 M7 => post r6 M7))) ∧ (¬ (M5 38 p1.toNatClampNeg) < p2 → post 1 M5)))) ∧ (r4 = 0 → post (-2) M5))))) ∧ (r2 = 0 → post (-1) M3)))))
set_option maxRecDepth 100000 in
theorem wk_X6_as {X : CT} (p1 : Int32) (p2 : Int32) (hX : okX X RX6 cX6_as 1 22) {M : Mem} {post : Int32 → Mem → Prop} (hret : ∀ (r : Int32) (M' : Mem), narrow .int (.int r) = .int r → post r M' → RetI X cX6_as r M') (h : wp_X6_as p1 p2 M post) : Z X M 0 [some (.ref (adX X 34)), some (.int p1), some (.int p2)] [] := by
  unfold wp_X6_as at h
  refine r_aload_n hX dX6_as_0 rfl rfl ?_
  refine r_iconst (v := 0) hX dX6_as_1 (by decide) ?_
  refine r_putI hX fp_X6_78 ly_34 rfl dX6_as_2 ?_
  refine r_nmM (fun M1 eM1 => ?_)
  have h := h M1 eM1
  refine r_aload_n hX dX6_as_5 rfl rfl ?_
  refine r_iload_n hX dX6_as_6 rfl rfl ?_
  refine r_cVi1 hX fv_X6_140 ly_34 rfl ⟨Nat.le_of_ble_eq_true rfl, Nat.le_of_ble_eq_true rfl⟩ (c_X6_isChair p1 h) (Nat.le_of_ble_eq_true rfl) dX6_as_7 (fun r2 M3 h => ?_)
  refine r_if_ne hX 15 dX6_as_10 (by decide) (fun hc => ?_) (fun hc => ?_)
  · have h := h.1 hc
    refine r_iload_n hX dX6_as_15 rfl rfl ?_
    refine r_iconst (v := 0) hX dX6_as_16 (by decide) ?_
    refine r_iconst (v := 2) hX dX6_as_17 (by decide) ?_
    refine r_cSi3 hX fs_X6_83 ⟨Nat.le_of_ble_eq_true rfl, Nat.le_of_ble_eq_true rfl⟩ (c_X6_within p2 0 2 h) (Nat.le_of_ble_eq_true rfl) dX6_as_18 (fun r4 M5 h => ?_)
    refine r_if_ne hX 27 dX6_as_21 (by decide) (fun hc => ?_) (fun hc => ?_)
    · have h := h.1 hc
      refine r_aload_n hX dX6_as_27 rfl rfl ?_
      refine r_getR hX fg_X6_19 ly_34 rfl dX6_as_28 ?_
      refine r_iload_n hX dX6_as_31 rfl rfl ?_
      refine r_iald hX ly_38 h.1 dX6_as_32 ?_
      have h := h.2
      refine r_iload_n hX dX6_as_33 rfl rfl ?_
      refine r_icmp_lt hX 41 dX6_as_34 (by decide) (fun hc => ?_) (fun hc => ?_)
      · have h := h.1 hc
        refine r_aload_n hX dX6_as_41 rfl rfl ?_
        refine r_iconst (v := 2) hX dX6_as_42 (by decide) ?_
        refine r_cVi1 hX fv_X6_107 ly_34 rfl ⟨Nat.le_of_ble_eq_true rfl, Nat.le_of_ble_eq_true rfl⟩ (c_X6_fails 2 h) (Nat.le_of_ble_eq_true rfl) dX6_as_43 (fun r6 M7 h => ?_)
        exact r_iret (hret _ _ rfl h) dX6_as_46
      · have h := h.2 hc
        refine r_iconst (v := 1) hX dX6_as_37 (by decide) ?_
        refine r_goto hX 46 dX6_as_38 (by decide) ?_
        exact r_iret (hret _ _ rfl h) dX6_as_46
    · have h := h.2 hc
      refine r_bipush (v := (-2)) hX dX6_as_24 (by decide) ?_
      exact r_iret (hret _ _ rfl h) dX6_as_26
  · have h := h.2 hc
    refine r_iconst (v := (-1)) hX dX6_as_13 (by decide) ?_
    exact r_iret (hret _ _ rfl h) dX6_as_14
set_option maxRecDepth 100000 in
theorem c_X6_as {l : Launch} {D : va_G} {cs : CS3} {ad : Nat → Nat} (p1 : Int32) (p2 : Int32) {M : Mem} {post : Int32 → Mem → Prop} (h : wp_X6_as p1 p2 M post) : CtI l D cs ad yX6_as cX6_as 3 (some .int) 1 22 [.ref (ad 34), .int p1, .int p2] M post := met_I (k := 0) (fun ad => [.ref (ad 34), .int p1, .int p2]) (fun ad => [some (.ref (ad 34)), some (.int p1), some (.int p2)]) (by decide +kernel) (fun _ => Nat.le_of_ble_eq_true rfl) (fun _ => rfl) (fun _ => rfl) (fun X hX hret => wk_X6_as p1 p2 hX hret h)
def wp_X6_trace (M : Mem) (post : Int32 → Mem → Prop) : Prop := post (M 34 1) M
set_option maxRecDepth 100000 in
theorem wk_X6_trace {X : CT} (hX : okX X RX6 cX6_trace 0 0) {M : Mem} {post : Int32 → Mem → Prop} (hret : ∀ (r : Int32) (M' : Mem), narrow .int (.int r) = .int r → post r M' → RetI X cX6_trace r M') (h : wp_X6_trace M post) : Z X M 0 [some (.ref (adX X 34))] [] := by
  unfold wp_X6_trace at h
  refine r_aload_n hX dX6_trace_0 rfl rfl ?_
  refine r_getI hX fg_X6_208 ly_34 rfl dX6_trace_1 ?_
  exact r_iret (hret _ _ rfl h) dX6_trace_4
set_option maxRecDepth 100000 in
theorem c_X6_trace {l : Launch} {D : va_G} {cs : CS3} {ad : Nat → Nat} {M : Mem} {post : Int32 → Mem → Prop} (h : wp_X6_trace M post) : CtI l D cs ad yX6_trace cX6_trace 1 (some .int) 0 0 [.ref (ad 34)] M post := met_I (k := 0) (fun ad => [.ref (ad 34)]) (fun ad => [some (.ref (ad 34))]) (by decide +kernel) (fun _ => Nat.le_of_ble_eq_true rfl) (fun _ => rfl) (fun _ => rfl) (fun X hX hret => wk_X6_trace hX hret h)
def wp_X6_fault (M : Mem) (post : Int32 → Mem → Prop) : Prop := post (M 34 0) M
set_option maxRecDepth 100000 in
theorem wk_X6_fault {X : CT} (hX : okX X RX6 cX6_fault 0 0) {M : Mem} {post : Int32 → Mem → Prop} (hret : ∀ (r : Int32) (M' : Mem), narrow .int (.int r) = .int r → post r M' → RetI X cX6_fault r M') (h : wp_X6_fault M post) : Z X M 0 [some (.ref (adX X 34))] [] := by
  unfold wp_X6_fault at h
  refine r_aload_n hX dX6_fault_0 rfl rfl ?_
  refine r_getI hX fg_X6_78 ly_34 rfl dX6_fault_1 ?_
  exact r_iret (hret _ _ rfl h) dX6_fault_4
set_option maxRecDepth 100000 in
theorem c_X6_fault {l : Launch} {D : va_G} {cs : CS3} {ad : Nat → Nat} {M : Mem} {post : Int32 → Mem → Prop} (h : wp_X6_fault M post) : CtI l D cs ad yX6_fault cX6_fault 1 (some .int) 0 0 [.ref (ad 34)] M post := met_I (k := 0) (fun ad => [.ref (ad 34)]) (fun ad => [some (.ref (ad 34))]) (by decide +kernel) (fun _ => Nat.le_of_ble_eq_true rfl) (fun _ => rfl) (fun _ => rfl) (fun X hX hret => wk_X6_fault hX hret h)
def wp_X6_many (p1 : Int32) (M : Mem) (post : Int32 → Mem → Prop) : Prop := ((p1 = 0 → post (M 34 6) M) ∧ (p1 = 1 → post (M 34 5) M) ∧ (p1 = 2 → post (M 34 10) M) ∧ (p1 = 3 → post (M 34 14) M) ∧ (p1 = 4 → post (M 34 28) M) ∧ (¬ p1 = 0 ∧ ¬ p1 = 1 ∧ ¬ p1 = 2 ∧ ¬ p1 = 3 ∧ ¬ p1 = 4 → post (-2) M))
set_option maxRecDepth 100000 in
theorem wk_X6_many {X : CT} (p1 : Int32) (hX : okX X RX6 cX6_many 0 0) {M : Mem} {post : Int32 → Mem → Prop} (hret : ∀ (r : Int32) (M' : Mem), narrow .int (.int r) = .int r → post r M' → RetI X cX6_many r M') (h : wp_X6_many p1 M post) : Z X M 0 [some (.ref (adX X 34)), some (.int p1)] [] := by
  unfold wp_X6_many at h
  refine r_iload_n hX dX6_many_0 rfl rfl ?_
  by_cases hc0 : p1 = 0
  · refine r_tin (v := 0) hX 36 dX6_many_1 hc0 rfl rfl (by decide) ?_
    have h := h.1 hc0
    refine r_aload_n hX dX6_many_36 rfl rfl ?_
    refine r_getI hX fg_X6_90 ly_34 rfl dX6_many_37 ?_
    exact r_iret (hret _ _ rfl h) dX6_many_40
  · by_cases hc1 : p1 = 1
    · refine r_tin (v := 1) hX 41 dX6_many_1 hc1 rfl rfl (by decide) ?_
      have h := h.2.1 hc1
      refine r_aload_n hX dX6_many_41 rfl rfl ?_
      refine r_getI hX fg_X6_87 ly_34 rfl dX6_many_42 ?_
      exact r_iret (hret _ _ rfl h) dX6_many_45
    · by_cases hc2 : p1 = 2
      · refine r_tin (v := 2) hX 46 dX6_many_1 hc2 rfl rfl (by decide) ?_
        have h := h.2.2.1 hc2
        refine r_aload_n hX dX6_many_46 rfl rfl ?_
        refine r_getI hX fg_X6_120 ly_34 rfl dX6_many_47 ?_
        exact r_iret (hret _ _ rfl h) dX6_many_50
      · by_cases hc3 : p1 = 3
        · refine r_tin (v := 3) hX 51 dX6_many_1 hc3 rfl rfl (by decide) ?_
          have h := h.2.2.2.1 hc3
          refine r_aload_n hX dX6_many_51 rfl rfl ?_
          refine r_getI hX fg_X6_123 ly_34 rfl dX6_many_52 ?_
          exact r_iret (hret _ _ rfl h) dX6_many_55
        · by_cases hc4 : p1 = 4
          · refine r_tin (v := 4) hX 56 dX6_many_1 hc4 rfl rfl (by decide) ?_
            have h := h.2.2.2.2.1 hc4
            refine r_aload_n hX dX6_many_56 rfl rfl ?_
            refine r_getI hX fg_X6_126 ly_34 rfl dX6_many_57 ?_
            exact r_iret (hret _ _ rfl h) dX6_many_60
          · refine r_tout hX 61 dX6_many_1 (sw_out5 hc0 hc1 hc2 hc3 hc4) (by decide) ?_
            have h := h.2.2.2.2.2 ⟨hc0, hc1, hc2, hc3, hc4⟩
            refine r_bipush (v := (-2)) hX dX6_many_61 (by decide) ?_
            exact r_iret (hret _ _ rfl h) dX6_many_63
set_option maxRecDepth 100000 in
theorem c_X6_many {l : Launch} {D : va_G} {cs : CS3} {ad : Nat → Nat} (p1 : Int32) {M : Mem} {post : Int32 → Mem → Prop} (h : wp_X6_many p1 M post) : CtI l D cs ad yX6_many cX6_many 2 (some .int) 0 0 [.ref (ad 34), .int p1] M post := met_I (k := 0) (fun ad => [.ref (ad 34), .int p1]) (fun ad => [some (.ref (ad 34)), some (.int p1)]) (by decide +kernel) (fun _ => Nat.le_of_ble_eq_true rfl) (fun _ => rfl) (fun _ => rfl) (fun X hX hret => wk_X6_many p1 hX hret h)
