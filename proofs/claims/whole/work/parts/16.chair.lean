def wp_X5_isSheet (p0 : Int32) (M : Mem) (post : Int32 → Mem → Prop) : Prop := ((p0 < 0 → post 0 M) ∧ (¬ p0 < 0 → ((4 ≤ p0 → post 0 M) ∧ (¬ 4 ≤ p0 → post 1 M))))
set_option maxRecDepth 100000 in
theorem wk_X5_isSheet {X : CT} (p0 : Int32) (hX : okX X RX5 cX5_isSheet 0 0) {M : Mem} {post : Int32 → Mem → Prop} (hret : ∀ (r : Int32) (M' : Mem), narrow .boolean (.int r) = .int r → post r M' → RetI X cX5_isSheet r M') (h : wp_X5_isSheet p0 M post) : Z X M 0 [some (.int p0)] [] := by
  unfold wp_X5_isSheet at h
  refine r_iload_n hX dX5_isSheet_0 rfl rfl ?_
  refine r_if_lt hX 13 dX5_isSheet_1 (by decide) (fun hc => ?_) (fun hc => ?_)
  · have h := h.1 hc
    refine r_iconst (v := 0) hX dX5_isSheet_13 (by decide) ?_
    exact r_iret (hret _ _ rfl h) dX5_isSheet_14
  · have h := h.2 hc
    refine r_iload_n hX dX5_isSheet_4 rfl rfl ?_
    refine r_iconst (v := 4) hX dX5_isSheet_5 (by decide) ?_
    refine r_icmp_ge hX 13 dX5_isSheet_6 (by decide) (fun hc => ?_) (fun hc => ?_)
    · have h := h.1 hc
      refine r_iconst (v := 0) hX dX5_isSheet_13 (by decide) ?_
      exact r_iret (hret _ _ rfl h) dX5_isSheet_14
    · have h := h.2 hc
      refine r_iconst (v := 1) hX dX5_isSheet_9 (by decide) ?_
      refine r_goto hX 14 dX5_isSheet_10 (by decide) ?_
      exact r_iret (hret _ _ rfl h) dX5_isSheet_14
set_option maxRecDepth 100000 in
theorem c_X5_isSheet {l : Launch} {D : va_G} {cs : CS3} {ad : Nat → Nat} (p0 : Int32) {M : Mem} {post : Int32 → Mem → Prop} (h : wp_X5_isSheet p0 M post) : CtI l D cs ad yX5_isSheet cX5_isSheet 1 (some .boolean) 0 0 [.int p0] M post := met_I (k := 0) (fun ad => [.int p0]) (fun ad => [some (.int p0)]) (by decide +kernel) (fun _ => Nat.le_of_ble_eq_true rfl) (fun _ => rfl) (fun _ => rfl) (fun X hX hret => wk_X5_isSheet p0 hX hret h)
def wp_X5_isLane (p0 : Int32) (M : Mem) (post : Int32 → Mem → Prop) : Prop := ((p0 < 0 → post 0 M) ∧ (¬ p0 < 0 → ((3 ≤ p0 → post 0 M) ∧ (¬ 3 ≤ p0 → post 1 M))))
set_option maxRecDepth 100000 in
theorem wk_X5_isLane {X : CT} (p0 : Int32) (hX : okX X RX5 cX5_isLane 0 0) {M : Mem} {post : Int32 → Mem → Prop} (hret : ∀ (r : Int32) (M' : Mem), narrow .boolean (.int r) = .int r → post r M' → RetI X cX5_isLane r M') (h : wp_X5_isLane p0 M post) : Z X M 0 [some (.int p0)] [] := by
  unfold wp_X5_isLane at h
  refine r_iload_n hX dX5_isLane_0 rfl rfl ?_
  refine r_if_lt hX 13 dX5_isLane_1 (by decide) (fun hc => ?_) (fun hc => ?_)
  · have h := h.1 hc
    refine r_iconst (v := 0) hX dX5_isLane_13 (by decide) ?_
    exact r_iret (hret _ _ rfl h) dX5_isLane_14
  · have h := h.2 hc
    refine r_iload_n hX dX5_isLane_4 rfl rfl ?_
    refine r_iconst (v := 3) hX dX5_isLane_5 (by decide) ?_
    refine r_icmp_ge hX 13 dX5_isLane_6 (by decide) (fun hc => ?_) (fun hc => ?_)
    · have h := h.1 hc
      refine r_iconst (v := 0) hX dX5_isLane_13 (by decide) ?_
      exact r_iret (hret _ _ rfl h) dX5_isLane_14
    · have h := h.2 hc
      refine r_iconst (v := 1) hX dX5_isLane_9 (by decide) ?_
      refine r_goto hX 14 dX5_isLane_10 (by decide) ?_
      exact r_iret (hret _ _ rfl h) dX5_isLane_14
set_option maxRecDepth 100000 in
theorem c_X5_isLane {l : Launch} {D : va_G} {cs : CS3} {ad : Nat → Nat} (p0 : Int32) {M : Mem} {post : Int32 → Mem → Prop} (h : wp_X5_isLane p0 M post) : CtI l D cs ad yX5_isLane cX5_isLane 1 (some .boolean) 0 0 [.int p0] M post := met_I (k := 0) (fun ad => [.int p0]) (fun ad => [some (.int p0)]) (by decide +kernel) (fun _ => Nat.le_of_ble_eq_true rfl) (fun _ => rfl) (fun _ => rfl) (fun X hX hret => wk_X5_isLane p0 hX hret h)
def wp_X5_faultAnswer (M : Mem) (post : Int32 → Mem → Prop) : Prop := post ((-10) - (M 0 9)) M
set_option maxRecDepth 100000 in
theorem wk_X5_faultAnswer {X : CT} (hX : okX X RX5 cX5_faultAnswer 0 0) {M : Mem} {post : Int32 → Mem → Prop} (hret : ∀ (r : Int32) (M' : Mem), narrow .int (.int r) = .int r → post r M' → RetI X cX5_faultAnswer r M') (h : wp_X5_faultAnswer M post) : Z X M 0 [some (.ref (adX X 0))] [] := by
  unfold wp_X5_faultAnswer at h
  refine r_bipush (v := (-10)) hX dX5_faultAnswer_0 (by decide) ?_
  refine r_aload_n hX dX5_faultAnswer_2 rfl rfl ?_
  refine r_getI hX fg_X5_68 ly_0 rfl dX5_faultAnswer_3 ?_
  refine r_isub hX dX5_faultAnswer_6 ?_
  exact r_iret (hret _ _ rfl h) dX5_faultAnswer_7
set_option maxRecDepth 100000 in
theorem c_X5_faultAnswer {l : Launch} {D : va_G} {cs : CS3} {ad : Nat → Nat} {M : Mem} {post : Int32 → Mem → Prop} (h : wp_X5_faultAnswer M post) : CtI l D cs ad yX5_faultAnswer cX5_faultAnswer 1 (some .int) 0 0 [.ref (ad 0)] M post := met_I (k := 0) (fun ad => [.ref (ad 0)]) (fun ad => [some (.ref (ad 0))]) (by decide +kernel) (fun _ => Nat.le_of_ble_eq_true rfl) (fun _ => rfl) (fun _ => rfl) (fun X hX hret => wk_X5_faultAnswer hX hret h)
def wp_X5_hall (p1 : Int32) (p2 : Int32) (p3 : Int32) (p4 : Int32) (M : Mem) (post : Int32 → Mem → Prop) : Prop := (∀ M1 : Mem, M1 = up2 M 0 9 0 → (wp_X5_isSheet p1 M1 (fun r2 M3 => ((¬ r2 = 0 → (wp_X5_isLane p2 M3 (fun r4 M5 => ((¬ r4 = 0 → (vp_in p1 4 ∧ (wp_X4_faultOfCells (26 + p1.toNatClampNeg) p2 p3 p4 M5 (fun r7 M8 => (∀ M9 : Mem, M9 = up2 M8 0 9 r7 → (((M9 0 9) = 0 → (wp_X0_firstFault ((26 + p1.toNatClampNeg) + 4) 60 p3 p4 M9 (fun r10 M11 => ((r10 = (-9) → (wp_X0_takeText ((26 + p1.toNatClampNeg) + 4) 60 p3 p4 M11 (fun M13 => (∀ M14 : Mem, M14 = up2 M13 5 3 0 → (∀ M15 : Mem, M15 = up2 M14 9 3 0 → (∀ M16 : Mem, M16 = up2 M15 13 3 0 → post (M16 1 3) M16)))))) ∧ (¬ r10 = (-9) → post ((-100) - r10) M11))))) ∧ (¬ (M9 0 9) = 0 → (wp_X5_faultAnswer M9 (fun r17 M18 => post r17 M18))))))))) ∧ (r4 = 0 → post (-2) M5))))) ∧ (r2 = 0 → post (-1) M3)))))
set_option maxRecDepth 100000 in
theorem wk_X5_hall {X : CT} (p1 : Int32) (p2 : Int32) (p3 : Int32) (p4 : Int32) (hX : okX X RX5 cX5_hall 3 65) {M : Mem} {post : Int32 → Mem → Prop} (hret : ∀ (r : Int32) (M' : Mem), narrow .int (.int r) = .int r → post r M' → RetI X cX5_hall r M') (h : wp_X5_hall p1 p2 p3 p4 M post) : Z X M 0 [some (.ref (adX X 0)), some (.int p1), some (.int p2), some (.int p3), some (.int p4), none, none] [] := by
  unfold wp_X5_hall at h
  refine r_aload_n hX dX5_hall_0 rfl rfl ?_
  refine r_iconst (v := 0) hX dX5_hall_1 (by decide) ?_
  refine r_putI hX fp_X5_68 ly_0 rfl dX5_hall_2 ?_
  refine r_nmM (fun M1 eM1 => ?_)
  have h := h M1 eM1
  refine r_iload_n hX dX5_hall_5 rfl rfl ?_
  refine r_cSi1 hX fs_X5_71 ⟨Nat.le_of_ble_eq_true rfl, Nat.le_of_ble_eq_true rfl⟩ (c_X5_isSheet p1 h) (Nat.le_of_ble_eq_true rfl) dX5_hall_6 (fun r2 M3 h => ?_)
  refine r_if_ne hX 14 dX5_hall_9 (by decide) (fun hc => ?_) (fun hc => ?_)
  · have h := h.1 hc
    refine r_iload_n hX dX5_hall_14 rfl rfl ?_
    refine r_cSi1 hX fs_X5_75 ⟨Nat.le_of_ble_eq_true rfl, Nat.le_of_ble_eq_true rfl⟩ (c_X5_isLane p2 h) (Nat.le_of_ble_eq_true rfl) dX5_hall_15 (fun r4 M5 h => ?_)
    refine r_if_ne hX 24 dX5_hall_18 (by decide) (fun hc => ?_) (fun hc => ?_)
    · have h := h.1 hc
      refine r_aload_n hX dX5_hall_24 rfl rfl ?_
      refine r_getR hX fg_X5_59 ly_0 rfl dX5_hall_25 ?_
      refine r_iload_n hX dX5_hall_28 rfl rfl ?_
      have hs6 := isS.of h.1
      refine r_aald hX h.1 dX5_hall_29 ?_
      have h := h.2
      refine r_astore (L' := [some (.ref (adX X 0)), some (.int p1), some (.int p2), some (.int p3), some (.int p4), some (.ref (adX X (26 + p1.toNatClampNeg))), none]) hX dX5_hall_30 (Nat.lt_of_ble rfl) rfl rfl ?_
      refine r_aload_n hX dX5_hall_32 rfl rfl ?_
      refine r_aload hX dX5_hall_33 rfl ?_
      refine r_iload_n hX dX5_hall_35 rfl rfl ?_
      refine r_iload_n hX dX5_hall_36 rfl rfl ?_
      refine r_iload hX dX5_hall_37 rfl ?_
      refine r_cVi3 hX fv_X5_78 hs6.l0 rfl ⟨Nat.le_of_ble_eq_true rfl, Nat.le_of_ble_eq_true rfl⟩ (c_X4_faultOfCells (26 + p1.toNatClampNeg) p2 p3 p4 hs6 h) (Nat.le_of_ble_eq_true rfl) dX5_hall_39 (fun r7 M8 h => ?_)
      refine r_putI hX fp_X5_68 ly_0 rfl dX5_hall_42 ?_
      refine r_nmM (fun M9 eM9 => ?_)
      have h := h M9 eM9
      refine r_aload_n hX dX5_hall_45 rfl rfl ?_
      refine r_getI hX fg_X5_68 ly_0 rfl dX5_hall_46 ?_
      refine r_if_eq hX 57 dX5_hall_49 (by decide) (fun hc => ?_) (fun hc => ?_)
      · have h := h.1 hc
        refine r_aload hX dX5_hall_57 rfl ?_
        refine r_getR hX fg_X5_86 hs6.l0 rfl dX5_hall_59 ?_
        refine r_iload_n hX dX5_hall_62 rfl rfl ?_
        refine r_iload hX dX5_hall_63 rfl ?_
        refine r_cSi3 hX fs_X5_89 ⟨Nat.le_of_ble_eq_true rfl, Nat.le_of_ble_eq_true rfl⟩ (c_X0_firstFault ((26 + p1.toNatClampNeg) + 4) 60 p3 p4 (hs6.l4) h) (Nat.le_of_ble_eq_true rfl) dX5_hall_65 (fun r10 M11 h => ?_)
        refine r_istore (L' := [some (.ref (adX X 0)), some (.int p1), some (.int p2), some (.int p3), some (.int p4), some (.ref (adX X (26 + p1.toNatClampNeg))), some (.int r10)]) hX dX5_hall_68 (Nat.lt_of_ble rfl) rfl rfl ?_
        refine r_iload hX dX5_hall_70 rfl ?_
        refine r_bipush (v := (-9)) hX dX5_hall_72 (by decide) ?_
        refine r_icmp_eq hX 83 dX5_hall_74 (by decide) (fun hc => ?_) (fun hc => ?_)
        · have h := h.1 hc
          refine r_aload_n hX dX5_hall_83 rfl rfl ?_
          refine r_getR hX fg_X5_12 ly_0 rfl dX5_hall_84 ?_
          refine r_aload hX dX5_hall_87 rfl ?_
          refine r_getR hX fg_X5_86 hs6.l0 rfl dX5_hall_89 ?_
          refine r_iload_n hX dX5_hall_92 rfl rfl ?_
          refine r_iload hX dX5_hall_93 rfl ?_
          refine r_cVv3 hX fv_X5_93 ly_1 rfl ⟨Nat.le_of_ble_eq_true rfl, Nat.le_of_ble_eq_true rfl⟩ (c_X0_takeText ((26 + p1.toNatClampNeg) + 4) 60 p3 p4 (hs6.l4) h) (Nat.le_of_ble_eq_true rfl) dX5_hall_95 (fun M13 h => ?_)
          refine r_aload_n hX dX5_hall_98 rfl rfl ?_
          refine r_getR hX fg_X5_21 ly_0 rfl dX5_hall_99 ?_
          refine r_iconst (v := 0) hX dX5_hall_102 (by decide) ?_
          refine r_putI hX fp_X5_97 ly_5 rfl dX5_hall_103 ?_
          refine r_nmM (fun M14 eM14 => ?_)
          have h := h M14 eM14
          refine r_aload_n hX dX5_hall_106 rfl rfl ?_
          refine r_getR hX fg_X5_25 ly_0 rfl dX5_hall_107 ?_
          refine r_iconst (v := 0) hX dX5_hall_110 (by decide) ?_
          refine r_putI hX fp_X5_97 ly_9 rfl dX5_hall_111 ?_
          refine r_nmM (fun M15 eM15 => ?_)
          have h := h M15 eM15
          refine r_aload_n hX dX5_hall_114 rfl rfl ?_
          refine r_getR hX fg_X5_28 ly_0 rfl dX5_hall_115 ?_
          refine r_iconst (v := 0) hX dX5_hall_118 (by decide) ?_
          refine r_putI hX fp_X5_97 ly_13 rfl dX5_hall_119 ?_
          refine r_nmM (fun M16 eM16 => ?_)
          have h := h M16 eM16
          refine r_aload_n hX dX5_hall_122 rfl rfl ?_
          refine r_getR hX fg_X5_12 ly_0 rfl dX5_hall_123 ?_
          refine r_getI hX fg_X5_100 ly_1 rfl dX5_hall_126 ?_
          exact r_iret (hret _ _ rfl h) dX5_hall_129
        · have h := h.2 hc
          refine r_bipush (v := (-100)) hX dX5_hall_77 (by decide) ?_
          refine r_iload hX dX5_hall_79 rfl ?_
          refine r_isub hX dX5_hall_81 ?_
          exact r_iret (hret _ _ rfl h) dX5_hall_82
      · have h := h.2 hc
        refine r_aload_n hX dX5_hall_52 rfl rfl ?_
        refine r_cVi0 hX fv_X5_82 ly_0 rfl ⟨Nat.le_of_ble_eq_true rfl, Nat.le_of_ble_eq_true rfl⟩ (c_X5_faultAnswer h) (Nat.le_of_ble_eq_true rfl) dX5_hall_53 (fun r17 M18 h => ?_)
        exact r_iret (hret _ _ rfl h) dX5_hall_56
    · have h := h.2 hc
      refine r_bipush (v := (-2)) hX dX5_hall_21 (by decide) ?_
      exact r_iret (hret _ _ rfl h) dX5_hall_23
  · have h := h.2 hc
    refine r_iconst (v := (-1)) hX dX5_hall_12 (by decide) ?_
    exact r_iret (hret _ _ rfl h) dX5_hall_13
set_option maxRecDepth 100000 in
theorem c_X5_hall {l : Launch} {D : va_G} {cs : CS3} {ad : Nat → Nat} (p1 : Int32) (p2 : Int32) (p3 : Int32) (p4 : Int32) {M : Mem} {post : Int32 → Mem → Prop} (h : wp_X5_hall p1 p2 p3 p4 M post) : CtI l D cs ad yX5_hall cX5_hall 7 (some .int) 3 65 [.ref (ad 0), .int p1, .int p2, .int p3, .int p4] M post := met_I (k := 2) (fun ad => [.ref (ad 0), .int p1, .int p2, .int p3, .int p4]) (fun ad => [some (.ref (ad 0)), some (.int p1), some (.int p2), some (.int p3), some (.int p4), none, none]) (by decide +kernel) (fun _ => Nat.le_of_ble_eq_true rfl) (fun _ => rfl) (fun _ => rfl) (fun X hX hret => wk_X5_hall p1 p2 p3 p4 hX hret h)
def wp_X5_ofChair (p1 : Int32) (p2 : Int32) (M : Mem) (post : Int32 → Mem → Prop) : Prop := (wp_X0_hasChair p1 M (fun r1 M2 => ((¬ r1 = 0 → ((p2 = 0 → (vp_in p1 5 ∧ post (M2 2 p1.toNatClampNeg) M2)) ∧ (p2 = 1 → (vp_in p1 5 ∧ post (M2 3 p1.toNatClampNeg) M2)) ∧ (p2 = 2 → (vp_in p1 5 ∧ post (M2 4 p1.toNatClampNeg) M2)) ∧ (¬ p2 = 0 ∧ ¬ p2 = 1 ∧ ¬ p2 = 2 → post (-2) M2))) ∧ (r1 = 0 → post (-1) M2))))
set_option maxRecDepth 100000 in
theorem wk_X5_ofChair {X : CT} (p1 : Int32) (p2 : Int32) (hX : okX X RX5 cX5_ofChair 1 21) {M : Mem} {post : Int32 → Mem → Prop} (hret : ∀ (r : Int32) (M' : Mem), narrow .int (.int r) = .int r → post r M' → RetI X cX5_ofChair r M') (h : wp_X5_ofChair p1 p2 M post) : Z X M 0 [some (.ref (adX X 0)), some (.int p1), some (.int p2)] [] := by
  unfold wp_X5_ofChair at h
  refine r_aload_n hX dX5_ofChair_0 rfl rfl ?_
  refine r_getR hX fg_X5_12 ly_0 rfl dX5_ofChair_1 ?_
  refine r_iload_n hX dX5_ofChair_4 rfl rfl ?_
  refine r_cVi1 hX fv_X5_103 ly_1 rfl ⟨Nat.le_of_ble_eq_true rfl, Nat.le_of_ble_eq_true rfl⟩ (c_X0_hasChair p1 h) (Nat.le_of_ble_eq_true rfl) dX5_ofChair_5 (fun r1 M2 h => ?_)
  refine r_if_ne hX 13 dX5_ofChair_8 (by decide) (fun hc => ?_) (fun hc => ?_)
  · have h := h.1 hc
    refine r_iload_n hX dX5_ofChair_13 rfl rfl ?_
    by_cases hc0 : p2 = 0
    · refine r_tin (v := 0) hX 40 dX5_ofChair_14 hc0 rfl rfl (by decide) ?_
      have h := h.1 hc0
      refine r_aload_n hX dX5_ofChair_40 rfl rfl ?_
      refine r_getR hX fg_X5_12 ly_0 rfl dX5_ofChair_41 ?_
      refine r_getR hX fg_X5_106 ly_1 rfl dX5_ofChair_44 ?_
      refine r_iload_n hX dX5_ofChair_47 rfl rfl ?_
      refine r_iald hX ly_2 h.1 dX5_ofChair_48 ?_
      have h := h.2
      exact r_iret (hret _ _ rfl h) dX5_ofChair_49
    · by_cases hc1 : p2 = 1
      · refine r_tin (v := 1) hX 50 dX5_ofChair_14 hc1 rfl rfl (by decide) ?_
        have h := h.2.1 hc1
        refine r_aload_n hX dX5_ofChair_50 rfl rfl ?_
        refine r_getR hX fg_X5_12 ly_0 rfl dX5_ofChair_51 ?_
        refine r_getR hX fg_X5_109 ly_1 rfl dX5_ofChair_54 ?_
        refine r_iload_n hX dX5_ofChair_57 rfl rfl ?_
        refine r_iald hX ly_3 h.1 dX5_ofChair_58 ?_
        have h := h.2
        exact r_iret (hret _ _ rfl h) dX5_ofChair_59
      · by_cases hc2 : p2 = 2
        · refine r_tin (v := 2) hX 60 dX5_ofChair_14 hc2 rfl rfl (by decide) ?_
          have h := h.2.2.1 hc2
          refine r_aload_n hX dX5_ofChair_60 rfl rfl ?_
          refine r_getR hX fg_X5_12 ly_0 rfl dX5_ofChair_61 ?_
          refine r_getR hX fg_X5_112 ly_1 rfl dX5_ofChair_64 ?_
          refine r_iload_n hX dX5_ofChair_67 rfl rfl ?_
          refine r_iald hX ly_4 h.1 dX5_ofChair_68 ?_
          have h := h.2
          exact r_iret (hret _ _ rfl h) dX5_ofChair_69
        · refine r_tout hX 70 dX5_ofChair_14 (sw_out3 hc0 hc1 hc2) (by decide) ?_
          have h := h.2.2.2 ⟨hc0, hc1, hc2⟩
          refine r_bipush (v := (-2)) hX dX5_ofChair_70 (by decide) ?_
          exact r_iret (hret _ _ rfl h) dX5_ofChair_72
  · have h := h.2 hc
    refine r_iconst (v := (-1)) hX dX5_ofChair_11 (by decide) ?_
    exact r_iret (hret _ _ rfl h) dX5_ofChair_12
set_option maxRecDepth 100000 in
theorem c_X5_ofChair {l : Launch} {D : va_G} {cs : CS3} {ad : Nat → Nat} (p1 : Int32) (p2 : Int32) {M : Mem} {post : Int32 → Mem → Prop} (h : wp_X5_ofChair p1 p2 M post) : CtI l D cs ad yX5_ofChair cX5_ofChair 3 (some .int) 1 21 [.ref (ad 0), .int p1, .int p2] M post := met_I (k := 0) (fun ad => [.ref (ad 0), .int p1, .int p2]) (fun ad => [some (.ref (ad 0)), some (.int p1), some (.int p2)]) (by decide +kernel) (fun _ => Nat.le_of_ble_eq_true rfl) (fun _ => rfl) (fun _ => rfl) (fun X hX hret => wk_X5_ofChair p1 p2 hX hret h)
def wp_X5_isDinner (p0 : Int32) (M : Mem) (post : Int32 → Mem → Prop) : Prop := ((p0 < 0 → post 0 M) ∧ (¬ p0 < 0 → ((20 ≤ p0 → post 0 M) ∧ (¬ 20 ≤ p0 → post 1 M))))
set_option maxRecDepth 100000 in
theorem wk_X5_isDinner {X : CT} (p0 : Int32) (hX : okX X RX5 cX5_isDinner 0 0) {M : Mem} {post : Int32 → Mem → Prop} (hret : ∀ (r : Int32) (M' : Mem), narrow .boolean (.int r) = .int r → post r M' → RetI X cX5_isDinner r M') (h : wp_X5_isDinner p0 M post) : Z X M 0 [some (.int p0)] [] := by
  unfold wp_X5_isDinner at h
  refine r_iload_n hX dX5_isDinner_0 rfl rfl ?_
  refine r_if_lt hX 14 dX5_isDinner_1 (by decide) (fun hc => ?_) (fun hc => ?_)
  · have h := h.1 hc
    refine r_iconst (v := 0) hX dX5_isDinner_14 (by decide) ?_
    exact r_iret (hret _ _ rfl h) dX5_isDinner_15
  · have h := h.2 hc
    refine r_iload_n hX dX5_isDinner_4 rfl rfl ?_
    refine r_bipush (v := 20) hX dX5_isDinner_5 (by decide) ?_
    refine r_icmp_ge hX 14 dX5_isDinner_7 (by decide) (fun hc => ?_) (fun hc => ?_)
    · have h := h.1 hc
      refine r_iconst (v := 0) hX dX5_isDinner_14 (by decide) ?_
      exact r_iret (hret _ _ rfl h) dX5_isDinner_15
    · have h := h.2 hc
      refine r_iconst (v := 1) hX dX5_isDinner_10 (by decide) ?_
      refine r_goto hX 15 dX5_isDinner_11 (by decide) ?_
      exact r_iret (hret _ _ rfl h) dX5_isDinner_15
set_option maxRecDepth 100000 in
theorem c_X5_isDinner {l : Launch} {D : va_G} {cs : CS3} {ad : Nat → Nat} (p0 : Int32) {M : Mem} {post : Int32 → Mem → Prop} (h : wp_X5_isDinner p0 M post) : CtI l D cs ad yX5_isDinner cX5_isDinner 1 (some .boolean) 0 0 [.int p0] M post := met_I (k := 0) (fun ad => [.int p0]) (fun ad => [some (.int p0)]) (by decide +kernel) (fun _ => Nat.le_of_ble_eq_true rfl) (fun _ => rfl) (fun _ => rfl) (fun X hX hret => wk_X5_isDinner p0 hX hret h)
def wp_X5_noteDown (c1 : Nat) (p2 : Int32) (p3 : Int32) (p4 : Int32) (M : Mem) (post : Int32 → Mem → Prop) : Prop := (wp_X0_hasGuest p3 M (fun r1 M2 => ((r1 = 0 → post (-1) M2) ∧ (¬ r1 = 0 → (wp_X0_hasChair p4 M2 (fun r3 M4 => ((¬ r3 = 0 → (wp_X5_isDinner p2 M4 (fun r5 M6 => ((¬ r5 = 0 → (wp_X2_add c1 p2 p3 p4 M6 (fun r7 M8 => post r7 M8))) ∧ (r5 = 0 → post (-2) M6))))) ∧ (r3 = 0 → post (-1) M4))))))))
set_option maxRecDepth 100000 in
theorem wk_X5_noteDown {X : CT} (c1 : Nat) (p2 : Int32) (p3 : Int32) (p4 : Int32) (hc1 : isN c1) (hX : okX X RX5 cX5_noteDown 1 23) {M : Mem} {post : Int32 → Mem → Prop} (hret : ∀ (r : Int32) (M' : Mem), narrow .int (.int r) = .int r → post r M' → RetI X cX5_noteDown r M') (h : wp_X5_noteDown c1 p2 p3 p4 M post) : Z X M 0 [some (.ref (adX X 0)), some (.ref (adX X c1)), some (.int p2), some (.int p3), some (.int p4)] [] := by
  unfold wp_X5_noteDown at h
  refine r_aload_n hX dX5_noteDown_0 rfl rfl ?_
  refine r_getR hX fg_X5_12 ly_0 rfl dX5_noteDown_1 ?_
  refine r_iload_n hX dX5_noteDown_4 rfl rfl ?_
  refine r_cVi1 hX fv_X5_135 ly_1 rfl ⟨Nat.le_of_ble_eq_true rfl, Nat.le_of_ble_eq_true rfl⟩ (c_X0_hasGuest p3 h) (Nat.le_of_ble_eq_true rfl) dX5_noteDown_5 (fun r1 M2 h => ?_)
  refine r_if_eq hX 23 dX5_noteDown_8 (by decide) (fun hc => ?_) (fun hc => ?_)
  · have h := h.1 hc
    refine r_iconst (v := (-1)) hX dX5_noteDown_23 (by decide) ?_
    exact r_iret (hret _ _ rfl h) dX5_noteDown_24
  · have h := h.2 hc
    refine r_aload_n hX dX5_noteDown_11 rfl rfl ?_
    refine r_getR hX fg_X5_12 ly_0 rfl dX5_noteDown_12 ?_
    refine r_iload hX dX5_noteDown_15 rfl ?_
    refine r_cVi1 hX fv_X5_103 ly_1 rfl ⟨Nat.le_of_ble_eq_true rfl, Nat.le_of_ble_eq_true rfl⟩ (c_X0_hasChair p4 h) (Nat.le_of_ble_eq_true rfl) dX5_noteDown_17 (fun r3 M4 h => ?_)
    refine r_if_ne hX 25 dX5_noteDown_20 (by decide) (fun hc => ?_) (fun hc => ?_)
    · have h := h.1 hc
      refine r_iload_n hX dX5_noteDown_25 rfl rfl ?_
      refine r_cSi1 hX fs_X5_138 ⟨Nat.le_of_ble_eq_true rfl, Nat.le_of_ble_eq_true rfl⟩ (c_X5_isDinner p2 h) (Nat.le_of_ble_eq_true rfl) dX5_noteDown_26 (fun r5 M6 h => ?_)
      refine r_if_ne hX 35 dX5_noteDown_29 (by decide) (fun hc => ?_) (fun hc => ?_)
      · have h := h.1 hc
        refine r_aload_n hX dX5_noteDown_35 rfl rfl ?_
        refine r_iload_n hX dX5_noteDown_36 rfl rfl ?_
        refine r_iload_n hX dX5_noteDown_37 rfl rfl ?_
        refine r_iload hX dX5_noteDown_38 rfl ?_
        refine r_cVi3 hX fv_X5_141 hc1.l0 rfl ⟨Nat.le_of_ble_eq_true rfl, Nat.le_of_ble_eq_true rfl⟩ (c_X2_add c1 p2 p3 p4 hc1 h) (Nat.le_of_ble_eq_true rfl) dX5_noteDown_40 (fun r7 M8 h => ?_)
        exact r_iret (hret _ _ rfl h) dX5_noteDown_43
      · have h := h.2 hc
        refine r_bipush (v := (-2)) hX dX5_noteDown_32 (by decide) ?_
        exact r_iret (hret _ _ rfl h) dX5_noteDown_34
    · have h := h.2 hc
      refine r_iconst (v := (-1)) hX dX5_noteDown_23 (by decide) ?_
      exact r_iret (hret _ _ rfl h) dX5_noteDown_24
set_option maxRecDepth 100000 in
theorem c_X5_noteDown {l : Launch} {D : va_G} {cs : CS3} {ad : Nat → Nat} (c1 : Nat) (p2 : Int32) (p3 : Int32) (p4 : Int32) (hc1 : isN c1) {M : Mem} {post : Int32 → Mem → Prop} (h : wp_X5_noteDown c1 p2 p3 p4 M post) : CtI l D cs ad yX5_noteDown cX5_noteDown 5 (some .int) 1 23 [.ref (ad 0), .ref (ad c1), .int p2, .int p3, .int p4] M post := met_I (k := 0) (fun ad => [.ref (ad 0), .ref (ad c1), .int p2, .int p3, .int p4]) (fun ad => [some (.ref (ad 0)), some (.ref (ad c1)), some (.int p2), some (.int p3), some (.int p4)]) (by decide +kernel) (fun _ => Nat.le_of_ble_eq_true rfl) (fun _ => rfl) (fun _ => rfl) (fun X hX hret => wk_X5_noteDown c1 p2 p3 p4 hc1 hX hret h)
def wp_X5_slip (p1 : Int32) (p2 : Int32) (p3 : Int32) (M : Mem) (post : Int32 → Mem → Prop) : Prop := (wp_X5_noteDown 5 p1 p2 p3 M (fun r1 M2 => post r1 M2))
set_option maxRecDepth 100000 in
theorem wk_X5_slip {X : CT} (p1 : Int32) (p2 : Int32) (p3 : Int32) (hX : okX X RX5 cX5_slip 2 47) {M : Mem} {post : Int32 → Mem → Prop} (hret : ∀ (r : Int32) (M' : Mem), narrow .int (.int r) = .int r → post r M' → RetI X cX5_slip r M') (h : wp_X5_slip p1 p2 p3 M post) : Z X M 0 [some (.ref (adX X 0)), some (.int p1), some (.int p2), some (.int p3)] [] := by
  unfold wp_X5_slip at h
  refine r_aload_n hX dX5_slip_0 rfl rfl ?_
  refine r_aload_n hX dX5_slip_1 rfl rfl ?_
  refine r_getR hX fg_X5_21 ly_0 rfl dX5_slip_2 ?_
  refine r_iload_n hX dX5_slip_5 rfl rfl ?_
  refine r_iload_n hX dX5_slip_6 rfl rfl ?_
  refine r_iload_n hX dX5_slip_7 rfl rfl ?_
  refine r_cVi4 hX fv_X5_115 ly_0 rfl ⟨Nat.le_of_ble_eq_true rfl, Nat.le_of_ble_eq_true rfl⟩ (c_X5_noteDown 5 p1 p2 p3 (Or.inl rfl) h) (Nat.le_of_ble_eq_true rfl) dX5_slip_8 (fun r1 M2 h => ?_)
  exact r_iret (hret _ _ rfl h) dX5_slip_11
set_option maxRecDepth 100000 in
theorem c_X5_slip {l : Launch} {D : va_G} {cs : CS3} {ad : Nat → Nat} (p1 : Int32) (p2 : Int32) (p3 : Int32) {M : Mem} {post : Int32 → Mem → Prop} (h : wp_X5_slip p1 p2 p3 M post) : CtI l D cs ad yX5_slip cX5_slip 4 (some .int) 2 47 [.ref (ad 0), .int p1, .int p2, .int p3] M post := met_I (k := 0) (fun ad => [.ref (ad 0), .int p1, .int p2, .int p3]) (fun ad => [some (.ref (ad 0)), some (.int p1), some (.int p2), some (.int p3)]) (by decide +kernel) (fun _ => Nat.le_of_ble_eq_true rfl) (fun _ => rfl) (fun _ => rfl) (fun X hX hret => wk_X5_slip p1 p2 p3 hX hret h)
def wp_X5_ofSlip (p1 : Int32) (p2 : Int32) (M : Mem) (post : Int32 → Mem → Prop) : Prop := (wp_X2_has 5 p1 M (fun r1 M2 => ((¬ r1 = 0 → ((p2 = 0 → (vp_in p1 8 ∧ post (M2 6 p1.toNatClampNeg) M2)) ∧ (p2 = 1 → (vp_in p1 8 ∧ post (M2 7 p1.toNatClampNeg) M2)) ∧ (p2 = 2 → (vp_in p1 8 ∧ post (M2 8 p1.toNatClampNeg) M2)) ∧ (¬ p2 = 0 ∧ ¬ p2 = 1 ∧ ¬ p2 = 2 → post (-2) M2))) ∧ (r1 = 0 → post (-1) M2))))
set_option maxRecDepth 100000 in
theorem wk_X5_ofSlip {X : CT} (p1 : Int32) (p2 : Int32) (hX : okX X RX5 cX5_ofSlip 1 21) {M : Mem} {post : Int32 → Mem → Prop} (hret : ∀ (r : Int32) (M' : Mem), narrow .int (.int r) = .int r → post r M' → RetI X cX5_ofSlip r M') (h : wp_X5_ofSlip p1 p2 M post) : Z X M 0 [some (.ref (adX X 0)), some (.int p1), some (.int p2)] [] := by
  unfold wp_X5_ofSlip at h
  refine r_aload_n hX dX5_ofSlip_0 rfl rfl ?_
  refine r_getR hX fg_X5_21 ly_0 rfl dX5_ofSlip_1 ?_
  refine r_iload_n hX dX5_ofSlip_4 rfl rfl ?_
  refine r_cVi1 hX fv_X5_119 ly_5 rfl ⟨Nat.le_of_ble_eq_true rfl, Nat.le_of_ble_eq_true rfl⟩ (c_X2_has 5 p1 (Or.inl rfl) h) (Nat.le_of_ble_eq_true rfl) dX5_ofSlip_5 (fun r1 M2 h => ?_)
  refine r_if_ne hX 13 dX5_ofSlip_8 (by decide) (fun hc => ?_) (fun hc => ?_)
  · have h := h.1 hc
    refine r_iload_n hX dX5_ofSlip_13 rfl rfl ?_
    by_cases hc0 : p2 = 0
    · refine r_tin (v := 0) hX 40 dX5_ofSlip_14 hc0 rfl rfl (by decide) ?_
      have h := h.1 hc0
      refine r_aload_n hX dX5_ofSlip_40 rfl rfl ?_
      refine r_getR hX fg_X5_21 ly_0 rfl dX5_ofSlip_41 ?_
      refine r_getR hX fg_X5_122 ly_5 rfl dX5_ofSlip_44 ?_
      refine r_iload_n hX dX5_ofSlip_47 rfl rfl ?_
      refine r_iald hX ly_6 h.1 dX5_ofSlip_48 ?_
      have h := h.2
      exact r_iret (hret _ _ rfl h) dX5_ofSlip_49
    · by_cases hc1 : p2 = 1
      · refine r_tin (v := 1) hX 50 dX5_ofSlip_14 hc1 rfl rfl (by decide) ?_
        have h := h.2.1 hc1
        refine r_aload_n hX dX5_ofSlip_50 rfl rfl ?_
        refine r_getR hX fg_X5_21 ly_0 rfl dX5_ofSlip_51 ?_
        refine r_getR hX fg_X5_125 ly_5 rfl dX5_ofSlip_54 ?_
        refine r_iload_n hX dX5_ofSlip_57 rfl rfl ?_
        refine r_iald hX ly_7 h.1 dX5_ofSlip_58 ?_
        have h := h.2
        exact r_iret (hret _ _ rfl h) dX5_ofSlip_59
      · by_cases hc2 : p2 = 2
        · refine r_tin (v := 2) hX 60 dX5_ofSlip_14 hc2 rfl rfl (by decide) ?_
          have h := h.2.2.1 hc2
          refine r_aload_n hX dX5_ofSlip_60 rfl rfl ?_
          refine r_getR hX fg_X5_21 ly_0 rfl dX5_ofSlip_61 ?_
          refine r_getR hX fg_X5_128 ly_5 rfl dX5_ofSlip_64 ?_
          refine r_iload_n hX dX5_ofSlip_67 rfl rfl ?_
          refine r_iald hX ly_8 h.1 dX5_ofSlip_68 ?_
          have h := h.2
          exact r_iret (hret _ _ rfl h) dX5_ofSlip_69
        · refine r_tout hX 70 dX5_ofSlip_14 (sw_out3 hc0 hc1 hc2) (by decide) ?_
          have h := h.2.2.2 ⟨hc0, hc1, hc2⟩
          refine r_bipush (v := (-2)) hX dX5_ofSlip_70 (by decide) ?_
          exact r_iret (hret _ _ rfl h) dX5_ofSlip_72
  · have h := h.2 hc
    refine r_iconst (v := (-1)) hX dX5_ofSlip_11 (by decide) ?_
    exact r_iret (hret _ _ rfl h) dX5_ofSlip_12
set_option maxRecDepth 100000 in
theorem c_X5_ofSlip {l : Launch} {D : va_G} {cs : CS3} {ad : Nat → Nat} (p1 : Int32) (p2 : Int32) {M : Mem} {post : Int32 → Mem → Prop} (h : wp_X5_ofSlip p1 p2 M post) : CtI l D cs ad yX5_ofSlip cX5_ofSlip 3 (some .int) 1 21 [.ref (ad 0), .int p1, .int p2] M post := met_I (k := 0) (fun ad => [.ref (ad 0), .int p1, .int p2]) (fun ad => [some (.ref (ad 0)), some (.int p1), some (.int p2)]) (by decide +kernel) (fun _ => Nat.le_of_ble_eq_true rfl) (fun _ => rfl) (fun _ => rfl) (fun X hX hret => wk_X5_ofSlip p1 p2 hX hret h)
def wp_X5_unsay (p1 : Int32) (M : Mem) (post : Int32 → Mem → Prop) : Prop := (wp_X2_dropLast 5 p1 M (fun r1 M2 => post r1 M2))
set_option maxRecDepth 100000 in
theorem wk_X5_unsay {X : CT} (p1 : Int32) (hX : okX X RX5 cX5_unsay 1 21) {M : Mem} {post : Int32 → Mem → Prop} (hret : ∀ (r : Int32) (M' : Mem), narrow .int (.int r) = .int r → post r M' → RetI X cX5_unsay r M') (h : wp_X5_unsay p1 M post) : Z X M 0 [some (.ref (adX X 0)), some (.int p1)] [] := by
  unfold wp_X5_unsay at h
  refine r_aload_n hX dX5_unsay_0 rfl rfl ?_
  refine r_getR hX fg_X5_21 ly_0 rfl dX5_unsay_1 ?_
  refine r_iload_n hX dX5_unsay_4 rfl rfl ?_
  refine r_cVi1 hX fv_X5_131 ly_5 rfl ⟨Nat.le_of_ble_eq_true rfl, Nat.le_of_ble_eq_true rfl⟩ (c_X2_dropLast 5 p1 (Or.inl rfl) h) (Nat.le_of_ble_eq_true rfl) dX5_unsay_5 (fun r1 M2 h => ?_)
  exact r_iret (hret _ _ rfl h) dX5_unsay_8
set_option maxRecDepth 100000 in
theorem c_X5_unsay {l : Launch} {D : va_G} {cs : CS3} {ad : Nat → Nat} (p1 : Int32) {M : Mem} {post : Int32 → Mem → Prop} (h : wp_X5_unsay p1 M post) : CtI l D cs ad yX5_unsay cX5_unsay 2 (some .int) 1 21 [.ref (ad 0), .int p1] M post := met_I (k := 0) (fun ad => [.ref (ad 0), .int p1]) (fun ad => [some (.ref (ad 0)), some (.int p1)]) (by decide +kernel) (fun _ => Nat.le_of_ble_eq_true rfl) (fun _ => rfl) (fun _ => rfl) (fun X hX hret => wk_X5_unsay p1 hX hret h)
def wp_X5_butter (p1 : Int32) (p2 : Int32) (p3 : Int32) (M : Mem) (post : Int32 → Mem → Prop) : Prop := (wp_X5_noteDown 9 p1 p2 p3 M (fun r1 M2 => post r1 M2))
set_option maxRecDepth 100000 in
theorem wk_X5_butter {X : CT} (p1 : Int32) (p2 : Int32) (p3 : Int32) (hX : okX X RX5 cX5_butter 2 47) {M : Mem} {post : Int32 → Mem → Prop} (hret : ∀ (r : Int32) (M' : Mem), narrow .int (.int r) = .int r → post r M' → RetI X cX5_butter r M') (h : wp_X5_butter p1 p2 p3 M post) : Z X M 0 [some (.ref (adX X 0)), some (.int p1), some (.int p2), some (.int p3)] [] := by
  unfold wp_X5_butter at h
  refine r_aload_n hX dX5_butter_0 rfl rfl ?_
  refine r_aload_n hX dX5_butter_1 rfl rfl ?_
  refine r_getR hX fg_X5_25 ly_0 rfl dX5_butter_2 ?_
  refine r_iload_n hX dX5_butter_5 rfl rfl ?_
  refine r_iload_n hX dX5_butter_6 rfl rfl ?_
  refine r_iload_n hX dX5_butter_7 rfl rfl ?_
  refine r_cVi4 hX fv_X5_115 ly_0 rfl ⟨Nat.le_of_ble_eq_true rfl, Nat.le_of_ble_eq_true rfl⟩ (c_X5_noteDown 9 p1 p2 p3 (Or.inr (Or.inl rfl)) h) (Nat.le_of_ble_eq_true rfl) dX5_butter_8 (fun r1 M2 h => ?_)
  exact r_iret (hret _ _ rfl h) dX5_butter_11
set_option maxRecDepth 100000 in
theorem c_X5_butter {l : Launch} {D : va_G} {cs : CS3} {ad : Nat → Nat} (p1 : Int32) (p2 : Int32) (p3 : Int32) {M : Mem} {post : Int32 → Mem → Prop} (h : wp_X5_butter p1 p2 p3 M post) : CtI l D cs ad yX5_butter cX5_butter 4 (some .int) 2 47 [.ref (ad 0), .int p1, .int p2, .int p3] M post := met_I (k := 0) (fun ad => [.ref (ad 0), .int p1, .int p2, .int p3]) (fun ad => [some (.ref (ad 0)), some (.int p1), some (.int p2), some (.int p3)]) (by decide +kernel) (fun _ => Nat.le_of_ble_eq_true rfl) (fun _ => rfl) (fun _ => rfl) (fun X hX hret => wk_X5_butter p1 p2 p3 hX hret h)
def wp_X5_melt (p1 : Int32) (M : Mem) (post : Int32 → Mem → Prop) : Prop := (wp_X2_dropLast 9 p1 M (fun r1 M2 => post r1 M2))
set_option maxRecDepth 100000 in
theorem wk_X5_melt {X : CT} (p1 : Int32) (hX : okX X RX5 cX5_melt 1 21) {M : Mem} {post : Int32 → Mem → Prop} (hret : ∀ (r : Int32) (M' : Mem), narrow .int (.int r) = .int r → post r M' → RetI X cX5_melt r M') (h : wp_X5_melt p1 M post) : Z X M 0 [some (.ref (adX X 0)), some (.int p1)] [] := by
  unfold wp_X5_melt at h
  refine r_aload_n hX dX5_melt_0 rfl rfl ?_
  refine r_getR hX fg_X5_25 ly_0 rfl dX5_melt_1 ?_
  refine r_iload_n hX dX5_melt_4 rfl rfl ?_
  refine r_cVi1 hX fv_X5_131 ly_9 rfl ⟨Nat.le_of_ble_eq_true rfl, Nat.le_of_ble_eq_true rfl⟩ (c_X2_dropLast 9 p1 (Or.inr (Or.inl rfl)) h) (Nat.le_of_ble_eq_true rfl) dX5_melt_5 (fun r1 M2 h => ?_)
  exact r_iret (hret _ _ rfl h) dX5_melt_8
set_option maxRecDepth 100000 in
theorem c_X5_melt {l : Launch} {D : va_G} {cs : CS3} {ad : Nat → Nat} (p1 : Int32) {M : Mem} {post : Int32 → Mem → Prop} (h : wp_X5_melt p1 M post) : CtI l D cs ad yX5_melt cX5_melt 2 (some .int) 1 21 [.ref (ad 0), .int p1] M post := met_I (k := 0) (fun ad => [.ref (ad 0), .int p1]) (fun ad => [some (.ref (ad 0)), some (.int p1)]) (by decide +kernel) (fun _ => Nat.le_of_ble_eq_true rfl) (fun _ => rfl) (fun _ => rfl) (fun X hX hret => wk_X5_melt p1 hX hret h)
def wp_X5_bears (p1 : Int32) (p2 : Int32) (p3 : Int32) (M : Mem) (post : Int32 → Mem → Prop) : Prop := (wp_X0_hasChair p1 M (fun r1 M2 => ((r1 = 0 → post (-1) M2) ∧ (¬ r1 = 0 → (wp_X0_hasGuest p2 M2 (fun r3 M4 => ((¬ r3 = 0 → (wp_X5_isDinner p3 M4 (fun r5 M6 => ((¬ r5 = 0 → (wp_X1_judgeDinner p3 M6 (fun M8 => (wp_X1_isBorne p1 p2 M8 (fun r9 M10 => ((r9 = 0 → post 0 M10) ∧ (¬ r9 = 0 → post 1 M10))))))) ∧ (r5 = 0 → post (-2) M6))))) ∧ (r3 = 0 → post (-1) M4))))))))
set_option maxRecDepth 100000 in
theorem wk_X5_bears {X : CT} (p1 : Int32) (p2 : Int32) (p3 : Int32) (hX : okX X RX5 cX5_bears 4 93) {M : Mem} {post : Int32 → Mem → Prop} (hret : ∀ (r : Int32) (M' : Mem), narrow .int (.int r) = .int r → post r M' → RetI X cX5_bears r M') (h : wp_X5_bears p1 p2 p3 M post) : Z X M 0 [some (.ref (adX X 0)), some (.int p1), some (.int p2), some (.int p3)] [] := by
  unfold wp_X5_bears at h
  refine r_aload_n hX dX5_bears_0 rfl rfl ?_
  refine r_getR hX fg_X5_12 ly_0 rfl dX5_bears_1 ?_
  refine r_iload_n hX dX5_bears_4 rfl rfl ?_
  refine r_cVi1 hX fv_X5_103 ly_1 rfl ⟨Nat.le_of_ble_eq_true rfl, Nat.le_of_ble_eq_true rfl⟩ (c_X0_hasChair p1 h) (Nat.le_of_ble_eq_true rfl) dX5_bears_5 (fun r1 M2 h => ?_)
  refine r_if_eq hX 22 dX5_bears_8 (by decide) (fun hc => ?_) (fun hc => ?_)
  · have h := h.1 hc
    refine r_iconst (v := (-1)) hX dX5_bears_22 (by decide) ?_
    exact r_iret (hret _ _ rfl h) dX5_bears_23
  · have h := h.2 hc
    refine r_aload_n hX dX5_bears_11 rfl rfl ?_
    refine r_getR hX fg_X5_12 ly_0 rfl dX5_bears_12 ?_
    refine r_iload_n hX dX5_bears_15 rfl rfl ?_
    refine r_cVi1 hX fv_X5_135 ly_1 rfl ⟨Nat.le_of_ble_eq_true rfl, Nat.le_of_ble_eq_true rfl⟩ (c_X0_hasGuest p2 h) (Nat.le_of_ble_eq_true rfl) dX5_bears_16 (fun r3 M4 h => ?_)
    refine r_if_ne hX 24 dX5_bears_19 (by decide) (fun hc => ?_) (fun hc => ?_)
    · have h := h.1 hc
      refine r_iload_n hX dX5_bears_24 rfl rfl ?_
      refine r_cSi1 hX fs_X5_138 ⟨Nat.le_of_ble_eq_true rfl, Nat.le_of_ble_eq_true rfl⟩ (c_X5_isDinner p3 h) (Nat.le_of_ble_eq_true rfl) dX5_bears_25 (fun r5 M6 h => ?_)
      refine r_if_ne hX 34 dX5_bears_28 (by decide) (fun hc => ?_) (fun hc => ?_)
      · have h := h.1 hc
        refine r_aload_n hX dX5_bears_34 rfl rfl ?_
        refine r_getR hX fg_X5_40 ly_0 rfl dX5_bears_35 ?_
        refine r_iload_n hX dX5_bears_38 rfl rfl ?_
        refine r_cVv1 hX fv_X5_144 ly_18 rfl ⟨Nat.le_of_ble_eq_true rfl, Nat.le_of_ble_eq_true rfl⟩ (c_X1_judgeDinner p3 h) (Nat.le_of_ble_eq_true rfl) dX5_bears_39 (fun M8 h => ?_)
        refine r_aload_n hX dX5_bears_42 rfl rfl ?_
        refine r_getR hX fg_X5_40 ly_0 rfl dX5_bears_43 ?_
        refine r_iload_n hX dX5_bears_46 rfl rfl ?_
        refine r_iload_n hX dX5_bears_47 rfl rfl ?_
        refine r_cVi2 hX fv_X5_148 ly_18 rfl ⟨Nat.le_of_ble_eq_true rfl, Nat.le_of_ble_eq_true rfl⟩ (c_X1_isBorne p1 p2 h) (Nat.le_of_ble_eq_true rfl) dX5_bears_48 (fun r9 M10 h => ?_)
        refine r_if_eq hX 58 dX5_bears_51 (by decide) (fun hc => ?_) (fun hc => ?_)
        · have h := h.1 hc
          refine r_iconst (v := 0) hX dX5_bears_58 (by decide) ?_
          exact r_iret (hret _ _ rfl h) dX5_bears_59
        · have h := h.2 hc
          refine r_iconst (v := 1) hX dX5_bears_54 (by decide) ?_
          refine r_goto hX 59 dX5_bears_55 (by decide) ?_
          exact r_iret (hret _ _ rfl h) dX5_bears_59
      · have h := h.2 hc
        refine r_bipush (v := (-2)) hX dX5_bears_31 (by decide) ?_
        exact r_iret (hret _ _ rfl h) dX5_bears_33
    · have h := h.2 hc
      refine r_iconst (v := (-1)) hX dX5_bears_22 (by decide) ?_
      exact r_iret (hret _ _ rfl h) dX5_bears_23
set_option maxRecDepth 100000 in
theorem c_X5_bears {l : Launch} {D : va_G} {cs : CS3} {ad : Nat → Nat} (p1 : Int32) (p2 : Int32) (p3 : Int32) {M : Mem} {post : Int32 → Mem → Prop} (h : wp_X5_bears p1 p2 p3 M post) : CtI l D cs ad yX5_bears cX5_bears 4 (some .int) 4 93 [.ref (ad 0), .int p1, .int p2, .int p3] M post := met_I (k := 0) (fun ad => [.ref (ad 0), .int p1, .int p2, .int p3]) (fun ad => [some (.ref (ad 0)), some (.int p1), some (.int p2), some (.int p3)]) (by decide +kernel) (fun _ => Nat.le_of_ble_eq_true rfl) (fun _ => rfl) (fun _ => rfl) (fun X hX hret => wk_X5_bears p1 p2 p3 hX hret h)
def wp_X5_whom (p1 : Int32) (p2 : Int32) (M : Mem) (post : Int32 → Mem → Prop) : Prop := (wp_X0_hasChair p1 M (fun r1 M2 => ((¬ r1 = 0 → (wp_X5_isDinner p2 M2 (fun r3 M4 => ((¬ r3 = 0 → (wp_X1_judgeDinner p2 M4 (fun M6 => (vp_in p1 5 ∧ post (M6 21 p1.toNatClampNeg) M6)))) ∧ (r3 = 0 → post (-2) M4))))) ∧ (r1 = 0 → post (-1) M2))))
set_option maxRecDepth 100000 in
theorem wk_X5_whom {X : CT} (p1 : Int32) (p2 : Int32) (hX : okX X RX5 cX5_whom 4 93) {M : Mem} {post : Int32 → Mem → Prop} (hret : ∀ (r : Int32) (M' : Mem), narrow .int (.int r) = .int r → post r M' → RetI X cX5_whom r M') (h : wp_X5_whom p1 p2 M post) : Z X M 0 [some (.ref (adX X 0)), some (.int p1), some (.int p2)] [] := by
  unfold wp_X5_whom at h
  refine r_aload_n hX dX5_whom_0 rfl rfl ?_
  refine r_getR hX fg_X5_12 ly_0 rfl dX5_whom_1 ?_
  refine r_iload_n hX dX5_whom_4 rfl rfl ?_
  refine r_cVi1 hX fv_X5_103 ly_1 rfl ⟨Nat.le_of_ble_eq_true rfl, Nat.le_of_ble_eq_true rfl⟩ (c_X0_hasChair p1 h) (Nat.le_of_ble_eq_true rfl) dX5_whom_5 (fun r1 M2 h => ?_)
  refine r_if_ne hX 13 dX5_whom_8 (by decide) (fun hc => ?_) (fun hc => ?_)
  · have h := h.1 hc
    refine r_iload_n hX dX5_whom_13 rfl rfl ?_
    refine r_cSi1 hX fs_X5_138 ⟨Nat.le_of_ble_eq_true rfl, Nat.le_of_ble_eq_true rfl⟩ (c_X5_isDinner p2 h) (Nat.le_of_ble_eq_true rfl) dX5_whom_14 (fun r3 M4 h => ?_)
    refine r_if_ne hX 23 dX5_whom_17 (by decide) (fun hc => ?_) (fun hc => ?_)
    · have h := h.1 hc
      refine r_aload_n hX dX5_whom_23 rfl rfl ?_
      refine r_getR hX fg_X5_40 ly_0 rfl dX5_whom_24 ?_
      refine r_iload_n hX dX5_whom_27 rfl rfl ?_
      refine r_cVv1 hX fv_X5_144 ly_18 rfl ⟨Nat.le_of_ble_eq_true rfl, Nat.le_of_ble_eq_true rfl⟩ (c_X1_judgeDinner p2 h) (Nat.le_of_ble_eq_true rfl) dX5_whom_28 (fun M6 h => ?_)
      refine r_aload_n hX dX5_whom_31 rfl rfl ?_
      refine r_getR hX fg_X5_40 ly_0 rfl dX5_whom_32 ?_
      refine r_getR hX fg_X5_46 ly_18 rfl dX5_whom_35 ?_
      refine r_iload_n hX dX5_whom_38 rfl rfl ?_
      refine r_iald hX ly_21 h.1 dX5_whom_39 ?_
      have h := h.2
      exact r_iret (hret _ _ rfl h) dX5_whom_40
    · have h := h.2 hc
      refine r_bipush (v := (-2)) hX dX5_whom_20 (by decide) ?_
      exact r_iret (hret _ _ rfl h) dX5_whom_22
  · have h := h.2 hc
    refine r_iconst (v := (-1)) hX dX5_whom_11 (by decide) ?_
    exact r_iret (hret _ _ rfl h) dX5_whom_12
set_option maxRecDepth 100000 in
theorem c_X5_whom {l : Launch} {D : va_G} {cs : CS3} {ad : Nat → Nat} (p1 : Int32) (p2 : Int32) {M : Mem} {post : Int32 → Mem → Prop} (h : wp_X5_whom p1 p2 M post) : CtI l D cs ad yX5_whom cX5_whom 3 (some .int) 4 93 [.ref (ad 0), .int p1, .int p2] M post := met_I (k := 0) (fun ad => [.ref (ad 0), .int p1, .int p2]) (fun ad => [some (.ref (ad 0)), some (.int p1), some (.int p2)]) (by decide +kernel) (fun _ => Nat.le_of_ble_eq_true rfl) (fun _ => rfl) (fun _ => rfl) (fun X hX hret => wk_X5_whom p1 p2 hX hret h)
def wp_X5_refusalOfDinner (p1 : Int32) (M : Mem) (post : Int32 → Mem → Prop) : Prop := (wp_X5_isDinner p1 M (fun r1 M2 => ((¬ r1 = 0 → (wp_X0_stands M2 (fun r3 M4 => ((r3 = 0 → post (-3) M4) ∧ (¬ r3 = 0 → post 0 M4))))) ∧ (r1 = 0 → post (-2) M2))))
set_option maxRecDepth 100000 in
theorem wk_X5_refusalOfDinner {X : CT} (p1 : Int32) (hX : okX X RX5 cX5_refusalOfDinner 1 20) {M : Mem} {post : Int32 → Mem → Prop} (hret : ∀ (r : Int32) (M' : Mem), narrow .int (.int r) = .int r → post r M' → RetI X cX5_refusalOfDinner r M') (h : wp_X5_refusalOfDinner p1 M post) : Z X M 0 [some (.ref (adX X 0)), some (.int p1)] [] := by
  unfold wp_X5_refusalOfDinner at h
  refine r_iload_n hX dX5_refusalOfDinner_0 rfl rfl ?_
  refine r_cSi1 hX fs_X5_138 ⟨Nat.le_of_ble_eq_true rfl, Nat.le_of_ble_eq_true rfl⟩ (c_X5_isDinner p1 h) (Nat.le_of_ble_eq_true rfl) dX5_refusalOfDinner_1 (fun r1 M2 h => ?_)
  refine r_if_ne hX 10 dX5_refusalOfDinner_4 (by decide) (fun hc => ?_) (fun hc => ?_)
  · have h := h.1 hc
    refine r_aload_n hX dX5_refusalOfDinner_10 rfl rfl ?_
    refine r_getR hX fg_X5_12 ly_0 rfl dX5_refusalOfDinner_11 ?_
    refine r_cVi0 hX fv_X5_168 ly_1 rfl ⟨Nat.le_of_ble_eq_true rfl, Nat.le_of_ble_eq_true rfl⟩ (c_X0_stands h) (Nat.le_of_ble_eq_true rfl) dX5_refusalOfDinner_14 (fun r3 M4 h => ?_)
    refine r_if_eq hX 24 dX5_refusalOfDinner_17 (by decide) (fun hc => ?_) (fun hc => ?_)
    · have h := h.1 hc
      refine r_bipush (v := (-3)) hX dX5_refusalOfDinner_24 (by decide) ?_
      exact r_iret (hret _ _ rfl h) dX5_refusalOfDinner_26
    · have h := h.2 hc
      refine r_iconst (v := 0) hX dX5_refusalOfDinner_20 (by decide) ?_
      refine r_goto hX 26 dX5_refusalOfDinner_21 (by decide) ?_
      exact r_iret (hret _ _ rfl h) dX5_refusalOfDinner_26
  · have h := h.2 hc
    refine r_bipush (v := (-2)) hX dX5_refusalOfDinner_7 (by decide) ?_
    exact r_iret (hret _ _ rfl h) dX5_refusalOfDinner_9
set_option maxRecDepth 100000 in
theorem c_X5_refusalOfDinner {l : Launch} {D : va_G} {cs : CS3} {ad : Nat → Nat} (p1 : Int32) {M : Mem} {post : Int32 → Mem → Prop} (h : wp_X5_refusalOfDinner p1 M post) : CtI l D cs ad yX5_refusalOfDinner cX5_refusalOfDinner 2 (some .int) 1 20 [.ref (ad 0), .int p1] M post := met_I (k := 0) (fun ad => [.ref (ad 0), .int p1]) (fun ad => [some (.ref (ad 0)), some (.int p1)]) (by decide +kernel) (fun _ => Nat.le_of_ble_eq_true rfl) (fun _ => rfl) (fun _ => rfl) (fun X hX hret => wk_X5_refusalOfDinner p1 hX hret h)
def jn_X5_refusalOfSeating_18 (p1 : Int32) (p2 : Int32) (post : Int32 → Mem → Prop) (M : Mem) : Prop := (wp_X5_refusalOfDinner p1 M (fun r1 M2 => post r1 M2))
set_option maxRecDepth 100000 in
theorem wj_X5_refusalOfSeating_18 {X : CT} (p1 : Int32) (p2 : Int32) (hX : okX X RX5 cX5_refusalOfSeating 2 41) {post : Int32 → Mem → Prop} (hret : ∀ (r : Int32) (M' : Mem), narrow .int (.int r) = .int r → post r M' → RetI X cX5_refusalOfSeating r M') (M : Mem) (h : jn_X5_refusalOfSeating_18 p1 p2 post M) : Z X M 18 [some (.ref (adX X 0)), some (.int p1), none] [] := by
  unfold jn_X5_refusalOfSeating_18 at h
  refine r_aload_n hX dX5_refusalOfSeating_18 rfl rfl ?_
  refine r_iload_n hX dX5_refusalOfSeating_19 rfl rfl ?_
  refine r_cVi1 hX fv_X5_162 ly_0 rfl ⟨Nat.le_of_ble_eq_true rfl, Nat.le_of_ble_eq_true rfl⟩ (c_X5_refusalOfDinner p1 h) (Nat.le_of_ble_eq_true rfl) dX5_refusalOfSeating_20 (fun r1 M2 h => ?_)
  exact r_iret (hret _ _ rfl h) dX5_refusalOfSeating_23
def wp_X5_refusalOfSeating (p1 : Int32) (p2 : Int32) (M : Mem) (post : Int32 → Mem → Prop) : Prop := ((p2 = (-1) → jn_X5_refusalOfSeating_18 p1 p2 post M) ∧ (¬ p2 = (-1) → (wp_X0_hasGuest p2 M (fun r3 M4 => ((¬ r3 = 0 → jn_X5_refusalOfSeating_18 p1 p2 post M4) ∧ (r3 = 0 → post (-1) M4))))))
set_option maxRecDepth 100000 in
theorem wk_X5_refusalOfSeating {X : CT} (p1 : Int32) (p2 : Int32) (hX : okX X RX5 cX5_refusalOfSeating 2 41) {M : Mem} {post : Int32 → Mem → Prop} (hret : ∀ (r : Int32) (M' : Mem), narrow .int (.int r) = .int r → post r M' → RetI X cX5_refusalOfSeating r M') (h : wp_X5_refusalOfSeating p1 p2 M post) : Z X M 0 [some (.ref (adX X 0)), some (.int p1), some (.int p2)] [] := by
  unfold wp_X5_refusalOfSeating at h
  refine r_iload_n hX dX5_refusalOfSeating_0 rfl rfl ?_
  refine r_iconst (v := (-1)) hX dX5_refusalOfSeating_1 (by decide) ?_
  refine r_icmp_eq hX 18 dX5_refusalOfSeating_2 (by decide) (fun hc => ?_) (fun hc => ?_)
  · have h := h.1 hc
    refine r_sub [some (.ref (adX X 0)), some (.int p1), none] (And.intro rfl (And.intro rfl trivial)) ?_
    exact wj_X5_refusalOfSeating_18 p1 p2 hX hret _ h
  · have h := h.2 hc
    refine r_aload_n hX dX5_refusalOfSeating_5 rfl rfl ?_
    refine r_getR hX fg_X5_12 ly_0 rfl dX5_refusalOfSeating_6 ?_
    refine r_iload_n hX dX5_refusalOfSeating_9 rfl rfl ?_
    refine r_cVi1 hX fv_X5_135 ly_1 rfl ⟨Nat.le_of_ble_eq_true rfl, Nat.le_of_ble_eq_true rfl⟩ (c_X0_hasGuest p2 h) (Nat.le_of_ble_eq_true rfl) dX5_refusalOfSeating_10 (fun r3 M4 h => ?_)
    refine r_if_ne hX 18 dX5_refusalOfSeating_13 (by decide) (fun hc => ?_) (fun hc => ?_)
    · have h := h.1 hc
      refine r_sub [some (.ref (adX X 0)), some (.int p1), none] (And.intro rfl (And.intro rfl trivial)) ?_
      exact wj_X5_refusalOfSeating_18 p1 p2 hX hret _ h
    · have h := h.2 hc
      refine r_iconst (v := (-1)) hX dX5_refusalOfSeating_16 (by decide) ?_
      exact r_iret (hret _ _ rfl h) dX5_refusalOfSeating_17
set_option maxRecDepth 100000 in
theorem c_X5_refusalOfSeating {l : Launch} {D : va_G} {cs : CS3} {ad : Nat → Nat} (p1 : Int32) (p2 : Int32) {M : Mem} {post : Int32 → Mem → Prop} (h : wp_X5_refusalOfSeating p1 p2 M post) : CtI l D cs ad yX5_refusalOfSeating cX5_refusalOfSeating 3 (some .int) 2 41 [.ref (ad 0), .int p1, .int p2] M post := met_I (k := 0) (fun ad => [.ref (ad 0), .int p1, .int p2]) (fun ad => [some (.ref (ad 0)), some (.int p1), some (.int p2)]) (by decide +kernel) (fun _ => Nat.le_of_ble_eq_true rfl) (fun _ => rfl) (fun _ => rfl) (fun X hX hret => wk_X5_refusalOfSeating p1 p2 hX hret h)
def wp_X5_seats (p1 : Int32) (p2 : Int32) (M : Mem) (post : Int32 → Mem → Prop) : Prop := (wp_X5_refusalOfSeating p1 p2 M (fun r1 M2 => ((r1 = 0 → (wp_X1_judgeDinner p1 M2 (fun M4 => (wp_X3_seatMost M4 (fun r5 M6 => ((¬ p2 = (-1) → (vp_in p2 5 ∧ post (M6 24 p2.toNatClampNeg) M6)) ∧ (p2 = (-1) → post r5 M6))))))) ∧ (¬ r1 = 0 → post r1 M2))))
set_option maxRecDepth 100000 in
theorem wk_X5_seats {X : CT} (p1 : Int32) (p2 : Int32) (hX : okX X RX5 cX5_seats 5 113) {M : Mem} {post : Int32 → Mem → Prop} (hret : ∀ (r : Int32) (M' : Mem), narrow .int (.int r) = .int r → post r M' → RetI X cX5_seats r M') (h : wp_X5_seats p1 p2 M post) : Z X M 0 [some (.ref (adX X 0)), some (.int p1), some (.int p2), none, none] [] := by
  unfold wp_X5_seats at h
  refine r_aload_n hX dX5_seats_0 rfl rfl ?_
  refine r_iload_n hX dX5_seats_1 rfl rfl ?_
  refine r_iload_n hX dX5_seats_2 rfl rfl ?_
  refine r_cVi2 hX fv_X5_152 ly_0 rfl ⟨Nat.le_of_ble_eq_true rfl, Nat.le_of_ble_eq_true rfl⟩ (c_X5_refusalOfSeating p1 p2 h) (Nat.le_of_ble_eq_true rfl) dX5_seats_3 (fun r1 M2 h => ?_)
  refine r_istore_n (L' := [some (.ref (adX X 0)), some (.int p1), some (.int p2), some (.int r1), none]) hX dX5_seats_6 rfl (Nat.lt_of_ble rfl) rfl rfl ?_
  refine r_iload_n hX dX5_seats_7 rfl rfl ?_
  refine r_if_eq hX 13 dX5_seats_8 (by decide) (fun hc => ?_) (fun hc => ?_)
  · have h := h.1 hc
    refine r_aload_n hX dX5_seats_13 rfl rfl ?_
    refine r_getR hX fg_X5_40 ly_0 rfl dX5_seats_14 ?_
    refine r_iload_n hX dX5_seats_17 rfl rfl ?_
    refine r_cVv1 hX fv_X5_144 ly_18 rfl ⟨Nat.le_of_ble_eq_true rfl, Nat.le_of_ble_eq_true rfl⟩ (c_X1_judgeDinner p1 h) (Nat.le_of_ble_eq_true rfl) dX5_seats_18 (fun M4 h => ?_)
    refine r_aload_n hX dX5_seats_21 rfl rfl ?_
    refine r_getR hX fg_X5_53 ly_0 rfl dX5_seats_22 ?_
    refine r_cVi0 hX fv_X5_156 ly_22 rfl ⟨Nat.le_of_ble_eq_true rfl, Nat.le_of_ble_eq_true rfl⟩ (c_X3_seatMost h) (Nat.le_of_ble_eq_true rfl) dX5_seats_25 (fun r5 M6 h => ?_)
    refine r_istore (L' := [some (.ref (adX X 0)), some (.int p1), some (.int p2), some (.int r1), some (.int r5)]) hX dX5_seats_28 (Nat.lt_of_ble rfl) rfl rfl ?_
    refine r_iload_n hX dX5_seats_30 rfl rfl ?_
    refine r_iconst (v := (-1)) hX dX5_seats_31 (by decide) ?_
    refine r_icmp_ne hX 40 dX5_seats_32 (by decide) (fun hc => ?_) (fun hc => ?_)
    · have h := h.1 hc
      refine r_aload_n hX dX5_seats_40 rfl rfl ?_
      refine r_getR hX fg_X5_53 ly_0 rfl dX5_seats_41 ?_
      refine r_getR hX fg_X5_159 ly_22 rfl dX5_seats_44 ?_
      refine r_iload_n hX dX5_seats_47 rfl rfl ?_
      refine r_iald hX ly_24 h.1 dX5_seats_48 ?_
      have h := h.2
      exact r_iret (hret _ _ rfl h) dX5_seats_49
    · have h := h.2 hc
      refine r_iload hX dX5_seats_35 rfl ?_
      refine r_goto hX 49 dX5_seats_37 (by decide) ?_
      exact r_iret (hret _ _ rfl h) dX5_seats_49
  · have h := h.2 hc
    refine r_iload_n hX dX5_seats_11 rfl rfl ?_
    exact r_iret (hret _ _ rfl h) dX5_seats_12
set_option maxRecDepth 100000 in
theorem c_X5_seats {l : Launch} {D : va_G} {cs : CS3} {ad : Nat → Nat} (p1 : Int32) (p2 : Int32) {M : Mem} {post : Int32 → Mem → Prop} (h : wp_X5_seats p1 p2 M post) : CtI l D cs ad yX5_seats cX5_seats 5 (some .int) 5 113 [.ref (ad 0), .int p1, .int p2] M post := met_I (k := 2) (fun ad => [.ref (ad 0), .int p1, .int p2]) (fun ad => [some (.ref (ad 0)), some (.int p1), some (.int p2), none, none]) (by decide +kernel) (fun _ => Nat.le_of_ble_eq_true rfl) (fun _ => rfl) (fun _ => rfl) (fun X hX hret => wk_X5_seats p1 p2 hX hret h)
def wp_X5_few (p1 : Int32) (M : Mem) (post : Int32 → Mem → Prop) : Prop := (wp_X5_refusalOfDinner p1 M (fun r1 M2 => ((r1 = 0 → (wp_X1_judgeDinner p1 M2 (fun M4 => (wp_X1_smallestShortSet M4 (fun r5 M6 => post r5 M6))))) ∧ (¬ r1 = 0 → post r1 M2))))
set_option maxRecDepth 100000 in
theorem wk_X5_few {X : CT} (p1 : Int32) (hX : okX X RX5 cX5_few 4 93) {M : Mem} {post : Int32 → Mem → Prop} (hret : ∀ (r : Int32) (M' : Mem), narrow .int (.int r) = .int r → post r M' → RetI X cX5_few r M') (h : wp_X5_few p1 M post) : Z X M 0 [some (.ref (adX X 0)), some (.int p1), none] [] := by
  unfold wp_X5_few at h
  refine r_aload_n hX dX5_few_0 rfl rfl ?_
  refine r_iload_n hX dX5_few_1 rfl rfl ?_
  refine r_cVi1 hX fv_X5_162 ly_0 rfl ⟨Nat.le_of_ble_eq_true rfl, Nat.le_of_ble_eq_true rfl⟩ (c_X5_refusalOfDinner p1 h) (Nat.le_of_ble_eq_true rfl) dX5_few_2 (fun r1 M2 h => ?_)
  refine r_istore_n (L' := [some (.ref (adX X 0)), some (.int p1), some (.int r1)]) hX dX5_few_5 rfl (Nat.lt_of_ble rfl) rfl rfl ?_
  refine r_iload_n hX dX5_few_6 rfl rfl ?_
  refine r_if_eq hX 12 dX5_few_7 (by decide) (fun hc => ?_) (fun hc => ?_)
  · have h := h.1 hc
    refine r_aload_n hX dX5_few_12 rfl rfl ?_
    refine r_getR hX fg_X5_40 ly_0 rfl dX5_few_13 ?_
    refine r_iload_n hX dX5_few_16 rfl rfl ?_
    refine r_cVv1 hX fv_X5_144 ly_18 rfl ⟨Nat.le_of_ble_eq_true rfl, Nat.le_of_ble_eq_true rfl⟩ (c_X1_judgeDinner p1 h) (Nat.le_of_ble_eq_true rfl) dX5_few_17 (fun M4 h => ?_)
    refine r_aload_n hX dX5_few_20 rfl rfl ?_
    refine r_getR hX fg_X5_40 ly_0 rfl dX5_few_21 ?_
    refine r_cVi0 hX fv_X5_165 ly_18 rfl ⟨Nat.le_of_ble_eq_true rfl, Nat.le_of_ble_eq_true rfl⟩ (c_X1_smallestShortSet h) (Nat.le_of_ble_eq_true rfl) dX5_few_24 (fun r5 M6 h => ?_)
    exact r_iret (hret _ _ rfl h) dX5_few_27
  · have h := h.2 hc
    refine r_iload_n hX dX5_few_10 rfl rfl ?_
    exact r_iret (hret _ _ rfl h) dX5_few_11
set_option maxRecDepth 100000 in
theorem c_X5_few {l : Launch} {D : va_G} {cs : CS3} {ad : Nat → Nat} (p1 : Int32) {M : Mem} {post : Int32 → Mem → Prop} (h : wp_X5_few p1 M post) : CtI l D cs ad yX5_few cX5_few 3 (some .int) 4 93 [.ref (ad 0), .int p1] M post := met_I (k := 1) (fun ad => [.ref (ad 0), .int p1]) (fun ad => [some (.ref (ad 0)), some (.int p1), none]) (by decide +kernel) (fun _ => Nat.le_of_ble_eq_true rfl) (fun _ => rfl) (fun _ => rfl) (fun X hX hret => wk_X5_few p1 hX hret h)
def wp_X5_tipped (p1 : Int32) (p2 : Int32) (p3 : Int32) (p4 : Int32) (p5 : Int32) (M : Mem) (post : Int32 → Mem → Prop) : Prop := (∀ M1 : Mem, M1 = up2 M 0 9 0 → (wp_X5_isSheet p2 M1 (fun r2 M3 => ((¬ r2 = 0 → (wp_X5_isLane p3 M3 (fun r4 M5 => ((r4 = 0 → post (-2) M5) ∧ (¬ r4 = 0 → (wp_X5_isDinner p1 M5 (fun r6 M7 => ((¬ r6 = 0 → (vp_in p2 4 ∧ (wp_X4_faultOfCells (26 + p2.toNatClampNeg) p3 p4 p5 M7 (fun r9 M10 => (∀ M11 : Mem, M11 = up2 M10 0 9 r9 → (((M11 0 9) = 0 → (wp_X0_stands M11 (fun r12 M13 => ((¬ r12 = 0 → ((p5 ≤ (M13 1 4) → (wp_X0_namesOnlyChairs ((26 + p2.toNatClampNeg) + 4) 60 p4 p5 M13 (fun r14 M15 => ((¬ r14 = 0 → (wp_X1_judgeDinner p1 M15 (fun M17 => (wp_X1_firstTipped ((26 + p2.toNatClampNeg) + 4) 60 p4 p5 M17 (fun r18 M19 => post r18 M19))))) ∧ (r14 = 0 → post (-1) M15))))) ∧ (¬ p5 ≤ (M13 1 4) → post (-2) M13))) ∧ (r12 = 0 → post (-3) M13))))) ∧ (¬ (M11 0 9) = 0 → (wp_X5_faultAnswer M11 (fun r20 M21 => post r20 M21))))))))) ∧ (r6 = 0 → post (-2) M7))))))))) ∧ (r2 = 0 → post (-1) M3)))))
set_option maxRecDepth 100000 in
theorem wk_X5_tipped {X : CT} (p1 : Int32) (p2 : Int32) (p3 : Int32) (p4 : Int32) (p5 : Int32) (hX : okX X RX5 cX5_tipped 4 93) {M : Mem} {post : Int32 → Mem → Prop} (hret : ∀ (r : Int32) (M' : Mem), narrow .int (.int r) = .int r → post r M' → RetI X cX5_tipped r M') (h : wp_X5_tipped p1 p2 p3 p4 p5 M post) : Z X M 0 [some (.ref (adX X 0)), some (.int p1), some (.int p2), some (.int p3), some (.int p4), some (.int p5), none] [] := by
  unfold wp_X5_tipped at h
  refine r_aload_n hX dX5_tipped_0 rfl rfl ?_
  refine r_iconst (v := 0) hX dX5_tipped_1 (by decide) ?_
  refine r_putI hX fp_X5_68 ly_0 rfl dX5_tipped_2 ?_
  refine r_nmM (fun M1 eM1 => ?_)
  have h := h M1 eM1
  refine r_iload_n hX dX5_tipped_5 rfl rfl ?_
  refine r_cSi1 hX fs_X5_71 ⟨Nat.le_of_ble_eq_true rfl, Nat.le_of_ble_eq_true rfl⟩ (c_X5_isSheet p2 h) (Nat.le_of_ble_eq_true rfl) dX5_tipped_6 (fun r2 M3 h => ?_)
  refine r_if_ne hX 14 dX5_tipped_9 (by decide) (fun hc => ?_) (fun hc => ?_)
  · have h := h.1 hc
    refine r_iload_n hX dX5_tipped_14 rfl rfl ?_
    refine r_cSi1 hX fs_X5_75 ⟨Nat.le_of_ble_eq_true rfl, Nat.le_of_ble_eq_true rfl⟩ (c_X5_isLane p3 h) (Nat.le_of_ble_eq_true rfl) dX5_tipped_15 (fun r4 M5 h => ?_)
    refine r_if_eq hX 28 dX5_tipped_18 (by decide) (fun hc => ?_) (fun hc => ?_)
    · have h := h.1 hc
      refine r_bipush (v := (-2)) hX dX5_tipped_28 (by decide) ?_
      exact r_iret (hret _ _ rfl h) dX5_tipped_30
    · have h := h.2 hc
      refine r_iload_n hX dX5_tipped_21 rfl rfl ?_
      refine r_cSi1 hX fs_X5_138 ⟨Nat.le_of_ble_eq_true rfl, Nat.le_of_ble_eq_true rfl⟩ (c_X5_isDinner p1 h) (Nat.le_of_ble_eq_true rfl) dX5_tipped_22 (fun r6 M7 h => ?_)
      refine r_if_ne hX 31 dX5_tipped_25 (by decide) (fun hc => ?_) (fun hc => ?_)
      · have h := h.1 hc
        refine r_aload_n hX dX5_tipped_31 rfl rfl ?_
        refine r_getR hX fg_X5_59 ly_0 rfl dX5_tipped_32 ?_
        refine r_iload_n hX dX5_tipped_35 rfl rfl ?_
        have hs8 := isS.of h.1
        refine r_aald hX h.1 dX5_tipped_36 ?_
        have h := h.2
        refine r_astore (L' := [some (.ref (adX X 0)), some (.int p1), some (.int p2), some (.int p3), some (.int p4), some (.int p5), some (.ref (adX X (26 + p2.toNatClampNeg)))]) hX dX5_tipped_37 (Nat.lt_of_ble rfl) rfl rfl ?_
        refine r_aload_n hX dX5_tipped_39 rfl rfl ?_
        refine r_aload hX dX5_tipped_40 rfl ?_
        refine r_iload_n hX dX5_tipped_42 rfl rfl ?_
        refine r_iload hX dX5_tipped_43 rfl ?_
        refine r_iload hX dX5_tipped_45 rfl ?_
        refine r_cVi3 hX fv_X5_78 hs8.l0 rfl ⟨Nat.le_of_ble_eq_true rfl, Nat.le_of_ble_eq_true rfl⟩ (c_X4_faultOfCells (26 + p2.toNatClampNeg) p3 p4 p5 hs8 h) (Nat.le_of_ble_eq_true rfl) dX5_tipped_47 (fun r9 M10 h => ?_)
        refine r_putI hX fp_X5_68 ly_0 rfl dX5_tipped_50 ?_
        refine r_nmM (fun M11 eM11 => ?_)
        have h := h M11 eM11
        refine r_aload_n hX dX5_tipped_53 rfl rfl ?_
        refine r_getI hX fg_X5_68 ly_0 rfl dX5_tipped_54 ?_
        refine r_if_eq hX 65 dX5_tipped_57 (by decide) (fun hc => ?_) (fun hc => ?_)
        · have h := h.1 hc
          refine r_aload_n hX dX5_tipped_65 rfl rfl ?_
          refine r_getR hX fg_X5_12 ly_0 rfl dX5_tipped_66 ?_
          refine r_cVi0 hX fv_X5_168 ly_1 rfl ⟨Nat.le_of_ble_eq_true rfl, Nat.le_of_ble_eq_true rfl⟩ (c_X0_stands h) (Nat.le_of_ble_eq_true rfl) dX5_tipped_69 (fun r12 M13 h => ?_)
          refine r_if_ne hX 78 dX5_tipped_72 (by decide) (fun hc => ?_) (fun hc => ?_)
          · have h := h.1 hc
            refine r_iload hX dX5_tipped_78 rfl ?_
            refine r_aload_n hX dX5_tipped_80 rfl rfl ?_
            refine r_getR hX fg_X5_12 ly_0 rfl dX5_tipped_81 ?_
            refine r_getI hX fg_X5_172 ly_1 rfl dX5_tipped_84 ?_
            refine r_icmp_le hX 93 dX5_tipped_87 (by decide) (fun hc => ?_) (fun hc => ?_)
            · have h := h.1 hc
              refine r_aload_n hX dX5_tipped_93 rfl rfl ?_
              refine r_getR hX fg_X5_12 ly_0 rfl dX5_tipped_94 ?_
              refine r_aload hX dX5_tipped_97 rfl ?_
              refine r_getR hX fg_X5_86 hs8.l0 rfl dX5_tipped_99 ?_
              refine r_iload hX dX5_tipped_102 rfl ?_
              refine r_iload hX dX5_tipped_104 rfl ?_
              refine r_cVi3 hX fv_X5_175 ly_1 rfl ⟨Nat.le_of_ble_eq_true rfl, Nat.le_of_ble_eq_true rfl⟩ (c_X0_namesOnlyChairs ((26 + p2.toNatClampNeg) + 4) 60 p4 p5 (hs8.l4) h) (Nat.le_of_ble_eq_true rfl) dX5_tipped_106 (fun r14 M15 h => ?_)
              refine r_if_ne hX 114 dX5_tipped_109 (by decide) (fun hc => ?_) (fun hc => ?_)
              · have h := h.1 hc
                refine r_aload_n hX dX5_tipped_114 rfl rfl ?_
                refine r_getR hX fg_X5_40 ly_0 rfl dX5_tipped_115 ?_
                refine r_iload_n hX dX5_tipped_118 rfl rfl ?_
                refine r_cVv1 hX fv_X5_144 ly_18 rfl ⟨Nat.le_of_ble_eq_true rfl, Nat.le_of_ble_eq_true rfl⟩ (c_X1_judgeDinner p1 h) (Nat.le_of_ble_eq_true rfl) dX5_tipped_119 (fun M17 h => ?_)
                refine r_aload_n hX dX5_tipped_122 rfl rfl ?_
                refine r_getR hX fg_X5_40 ly_0 rfl dX5_tipped_123 ?_
                refine r_aload hX dX5_tipped_126 rfl ?_
                refine r_getR hX fg_X5_86 hs8.l0 rfl dX5_tipped_128 ?_
                refine r_iload hX dX5_tipped_131 rfl ?_
                refine r_iload hX dX5_tipped_133 rfl ?_
                refine r_cVi3 hX fv_X5_179 ly_18 rfl ⟨Nat.le_of_ble_eq_true rfl, Nat.le_of_ble_eq_true rfl⟩ (c_X1_firstTipped ((26 + p2.toNatClampNeg) + 4) 60 p4 p5 (hs8.l4) h) (Nat.le_of_ble_eq_true rfl) dX5_tipped_135 (fun r18 M19 h => ?_)
                exact r_iret (hret _ _ rfl h) dX5_tipped_138
              · have h := h.2 hc
                refine r_iconst (v := (-1)) hX dX5_tipped_112 (by decide) ?_
                exact r_iret (hret _ _ rfl h) dX5_tipped_113
            · have h := h.2 hc
              refine r_bipush (v := (-2)) hX dX5_tipped_90 (by decide) ?_
              exact r_iret (hret _ _ rfl h) dX5_tipped_92
          · have h := h.2 hc
            refine r_bipush (v := (-3)) hX dX5_tipped_75 (by decide) ?_
            exact r_iret (hret _ _ rfl h) dX5_tipped_77
        · have h := h.2 hc
          refine r_aload_n hX dX5_tipped_60 rfl rfl ?_
          refine r_cVi0 hX fv_X5_82 ly_0 rfl ⟨Nat.le_of_ble_eq_true rfl, Nat.le_of_ble_eq_true rfl⟩ (c_X5_faultAnswer h) (Nat.le_of_ble_eq_true rfl) dX5_tipped_61 (fun r20 M21 h => ?_)
          exact r_iret (hret _ _ rfl h) dX5_tipped_64
      · have h := h.2 hc
        refine r_bipush (v := (-2)) hX dX5_tipped_28 (by decide) ?_
        exact r_iret (hret _ _ rfl h) dX5_tipped_30
  · have h := h.2 hc
    refine r_iconst (v := (-1)) hX dX5_tipped_12 (by decide) ?_
    exact r_iret (hret _ _ rfl h) dX5_tipped_13
set_option maxRecDepth 100000 in
theorem c_X5_tipped {l : Launch} {D : va_G} {cs : CS3} {ad : Nat → Nat} (p1 : Int32) (p2 : Int32) (p3 : Int32) (p4 : Int32) (p5 : Int32) {M : Mem} {post : Int32 → Mem → Prop} (h : wp_X5_tipped p1 p2 p3 p4 p5 M post) : CtI l D cs ad yX5_tipped cX5_tipped 7 (some .int) 4 93 [.ref (ad 0), .int p1, .int p2, .int p3, .int p4, .int p5] M post := met_I (k := 1) (fun ad => [.ref (ad 0), .int p1, .int p2, .int p3, .int p4, .int p5]) (fun ad => [some (.ref (ad 0)), some (.int p1), some (.int p2), some (.int p3), some (.int p4), some (.int p5), none]) (by decide +kernel) (fun _ => Nat.le_of_ble_eq_true rfl) (fun _ => rfl) (fun _ => rfl) (fun X hX hret => wk_X5_tipped p1 p2 p3 p4 p5 hX hret h)
def wp_X5_least (p1 : Int32) (p2 : Int32) (M : Mem) (post : Int32 → Mem → Prop) : Prop := (wp_X5_refusalOfSeating p1 p2 M (fun r1 M2 => ((r1 = 0 → (wp_X1_judgeDinner p1 M2 (fun M4 => (wp_X3_seatAllByButter M4 (fun r5 M6 => ((¬ r5 = (-9) → ((¬ p2 = (-1) → (vp_in p2 5 ∧ post (M6 24 p2.toNatClampNeg) M6)) ∧ (p2 = (-1) → post r5 M6))) ∧ (r5 = (-9) → post (-9) M6))))))) ∧ (¬ r1 = 0 → post r1 M2))))
set_option maxRecDepth 100000 in
theorem wk_X5_least {X : CT} (p1 : Int32) (p2 : Int32) (hX : okX X RX5 cX5_least 5 114) {M : Mem} {post : Int32 → Mem → Prop} (hret : ∀ (r : Int32) (M' : Mem), narrow .int (.int r) = .int r → post r M' → RetI X cX5_least r M') (h : wp_X5_least p1 p2 M post) : Z X M 0 [some (.ref (adX X 0)), some (.int p1), some (.int p2), none, none] [] := by
  unfold wp_X5_least at h
  refine r_aload_n hX dX5_least_0 rfl rfl ?_
  refine r_iload_n hX dX5_least_1 rfl rfl ?_
  refine r_iload_n hX dX5_least_2 rfl rfl ?_
  refine r_cVi2 hX fv_X5_152 ly_0 rfl ⟨Nat.le_of_ble_eq_true rfl, Nat.le_of_ble_eq_true rfl⟩ (c_X5_refusalOfSeating p1 p2 h) (Nat.le_of_ble_eq_true rfl) dX5_least_3 (fun r1 M2 h => ?_)
  refine r_istore_n (L' := [some (.ref (adX X 0)), some (.int p1), some (.int p2), some (.int r1), none]) hX dX5_least_6 rfl (Nat.lt_of_ble rfl) rfl rfl ?_
  refine r_iload_n hX dX5_least_7 rfl rfl ?_
  refine r_if_eq hX 13 dX5_least_8 (by decide) (fun hc => ?_) (fun hc => ?_)
  · have h := h.1 hc
    refine r_aload_n hX dX5_least_13 rfl rfl ?_
    refine r_getR hX fg_X5_40 ly_0 rfl dX5_least_14 ?_
    refine r_iload_n hX dX5_least_17 rfl rfl ?_
    refine r_cVv1 hX fv_X5_144 ly_18 rfl ⟨Nat.le_of_ble_eq_true rfl, Nat.le_of_ble_eq_true rfl⟩ (c_X1_judgeDinner p1 h) (Nat.le_of_ble_eq_true rfl) dX5_least_18 (fun M4 h => ?_)
    refine r_aload_n hX dX5_least_21 rfl rfl ?_
    refine r_getR hX fg_X5_53 ly_0 rfl dX5_least_22 ?_
    refine r_cVi0 hX fv_X5_182 ly_22 rfl ⟨Nat.le_of_ble_eq_true rfl, Nat.le_of_ble_eq_true rfl⟩ (c_X3_seatAllByButter h) (Nat.le_of_ble_eq_true rfl) dX5_least_25 (fun r5 M6 h => ?_)
    refine r_istore (L' := [some (.ref (adX X 0)), some (.int p1), some (.int p2), some (.int r1), some (.int r5)]) hX dX5_least_28 (Nat.lt_of_ble rfl) rfl rfl ?_
    refine r_iload hX dX5_least_30 rfl ?_
    refine r_bipush (v := (-9)) hX dX5_least_32 (by decide) ?_
    refine r_icmp_ne hX 40 dX5_least_34 (by decide) (fun hc => ?_) (fun hc => ?_)
    · have h := h.1 hc
      refine r_iload_n hX dX5_least_40 rfl rfl ?_
      refine r_iconst (v := (-1)) hX dX5_least_41 (by decide) ?_
      refine r_icmp_ne hX 50 dX5_least_42 (by decide) (fun hc => ?_) (fun hc => ?_)
      · have h := h.1 hc
        refine r_aload_n hX dX5_least_50 rfl rfl ?_
        refine r_getR hX fg_X5_53 ly_0 rfl dX5_least_51 ?_
        refine r_getR hX fg_X5_159 ly_22 rfl dX5_least_54 ?_
        refine r_iload_n hX dX5_least_57 rfl rfl ?_
        refine r_iald hX ly_24 h.1 dX5_least_58 ?_
        have h := h.2
        exact r_iret (hret _ _ rfl h) dX5_least_59
      · have h := h.2 hc
        refine r_iload hX dX5_least_45 rfl ?_
        refine r_goto hX 59 dX5_least_47 (by decide) ?_
        exact r_iret (hret _ _ rfl h) dX5_least_59
    · have h := h.2 hc
      refine r_bipush (v := (-9)) hX dX5_least_37 (by decide) ?_
      exact r_iret (hret _ _ rfl h) dX5_least_39
  · have h := h.2 hc
    refine r_iload_n hX dX5_least_11 rfl rfl ?_
    exact r_iret (hret _ _ rfl h) dX5_least_12
set_option maxRecDepth 100000 in
theorem c_X5_least {l : Launch} {D : va_G} {cs : CS3} {ad : Nat → Nat} (p1 : Int32) (p2 : Int32) {M : Mem} {post : Int32 → Mem → Prop} (h : wp_X5_least p1 p2 M post) : CtI l D cs ad yX5_least cX5_least 5 (some .int) 5 114 [.ref (ad 0), .int p1, .int p2] M post := met_I (k := 2) (fun ad => [.ref (ad 0), .int p1, .int p2]) (fun ad => [some (.ref (ad 0)), some (.int p1), some (.int p2), none, none]) (by decide +kernel) (fun _ => Nat.le_of_ble_eq_true rfl) (fun _ => rfl) (fun _ => rfl) (fun X hX hret => wk_X5_least p1 p2 hX hret h)
def lp_X5_when_14 (p1 : Int32) (post : Int32 → Mem → Prop) : Nat → Int32 → Mem → Prop
  | 0, _, _ => False
  | n + 1, x3, M => ((20 ≤ x3 → post (-9) M) ∧ (¬ 20 ≤ x3 → (wp_X1_judgeDinner x3 M (fun M4 => (wp_X1_allCanSit M4 (fun r5 M6 => ((r5 = 0 → lp_X5_when_14 p1 post n (x3 + 1) M6) ∧ (¬ r5 = 0 → post x3 M6))))))))
set_option maxRecDepth 100000 in
theorem wl_X5_when_14 {X : CT} (p1 : Int32) (hX : okX X RX5 cX5_when 4 93) {post : Int32 → Mem → Prop} (hret : ∀ (r : Int32) (M' : Mem), narrow .int (.int r) = .int r → post r M' → RetI X cX5_when r M') : ∀ (n : Nat) (x3 : Int32) (M : Mem), lp_X5_when_14 p1 post n x3 M → Z X M 14 [some (.ref (adX X 0)), none, none, some (.int x3)] [] := by
  intro n
  induction n with
  | zero =>
    intro x3 M h
    exact False.elim h
  | succ n ih =>
    intro x3 M h
    unfold lp_X5_when_14 at h
    refine r_iload_n hX dX5_when_14 rfl rfl ?_
    refine r_bipush (v := 20) hX dX5_when_15 (by decide) ?_
    refine r_icmp_ge hX 46 dX5_when_17 (by decide) (fun hc => ?_) (fun hc => ?_)
    · have h := h.1 hc
      refine r_bipush (v := (-9)) hX dX5_when_46 (by decide) ?_
      exact r_iret (hret _ _ rfl h) dX5_when_48
    · have h := h.2 hc
      refine r_aload_n hX dX5_when_20 rfl rfl ?_
      refine r_getR hX fg_X5_40 ly_0 rfl dX5_when_21 ?_
      refine r_iload_n hX dX5_when_24 rfl rfl ?_
      refine r_cVv1 hX fv_X5_144 ly_18 rfl ⟨Nat.le_of_ble_eq_true rfl, Nat.le_of_ble_eq_true rfl⟩ (c_X1_judgeDinner x3 h) (Nat.le_of_ble_eq_true rfl) dX5_when_25 (fun M4 h => ?_)
      refine r_aload_n hX dX5_when_28 rfl rfl ?_
      refine r_getR hX fg_X5_40 ly_0 rfl dX5_when_29 ?_
      refine r_cVi0 hX fv_X5_185 ly_18 rfl ⟨Nat.le_of_ble_eq_true rfl, Nat.le_of_ble_eq_true rfl⟩ (c_X1_allCanSit h) (Nat.le_of_ble_eq_true rfl) dX5_when_32 (fun r5 M6 h => ?_)
      refine r_if_eq hX 40 dX5_when_35 (by decide) (fun hc => ?_) (fun hc => ?_)
      · have h := h.1 hc
        refine r_iinc (v := x3 + 1) (L' := [some (.ref (adX X 0)), none, none, some (.int (x3 + 1))]) hX dX5_when_40 rfl rfl rfl rfl ?_
        refine r_goto hX 14 dX5_when_43 (by decide) ?_
        refine r_sub [some (.ref (adX X 0)), none, none, some (.int (x3 + 1))] (And.intro rfl (And.intro rfl trivial)) ?_
        exact ih _ _ h
      · have h := h.2 hc
        refine r_iload_n hX dX5_when_38 rfl rfl ?_
        exact r_iret (hret _ _ rfl h) dX5_when_39
def wp_X5_when (p1 : Int32) (M : Mem) (post : Int32 → Mem → Prop) : Prop := (wp_X5_refusalOfDinner p1 M (fun r1 M2 => ((r1 = 0 → (∃ k, lp_X5_when_14 p1 post k p1 M2)) ∧ (¬ r1 = 0 → post r1 M2))))
set_option maxRecDepth 100000 in
theorem wk_X5_when {X : CT} (p1 : Int32) (hX : okX X RX5 cX5_when 4 93) {M : Mem} {post : Int32 → Mem → Prop} (hret : ∀ (r : Int32) (M' : Mem), narrow .int (.int r) = .int r → post r M' → RetI X cX5_when r M') (h : wp_X5_when p1 M post) : Z X M 0 [some (.ref (adX X 0)), some (.int p1), none, none] [] := by
  unfold wp_X5_when at h
  refine r_aload_n hX dX5_when_0 rfl rfl ?_
  refine r_iload_n hX dX5_when_1 rfl rfl ?_
  refine r_cVi1 hX fv_X5_162 ly_0 rfl ⟨Nat.le_of_ble_eq_true rfl, Nat.le_of_ble_eq_true rfl⟩ (c_X5_refusalOfDinner p1 h) (Nat.le_of_ble_eq_true rfl) dX5_when_2 (fun r1 M2 h => ?_)
  refine r_istore_n (L' := [some (.ref (adX X 0)), some (.int p1), some (.int r1), none]) hX dX5_when_5 rfl (Nat.lt_of_ble rfl) rfl rfl ?_
  refine r_iload_n hX dX5_when_6 rfl rfl ?_
  refine r_if_eq hX 12 dX5_when_7 (by decide) (fun hc => ?_) (fun hc => ?_)
  · have h := h.1 hc
    refine r_iload_n hX dX5_when_12 rfl rfl ?_
    refine r_istore_n (L' := [some (.ref (adX X 0)), some (.int p1), some (.int r1), some (.int p1)]) hX dX5_when_13 rfl (Nat.lt_of_ble rfl) rfl rfl ?_
    obtain ⟨n7, h⟩ := h
    refine r_sub [some (.ref (adX X 0)), none, none, some (.int p1)] (And.intro rfl (And.intro rfl trivial)) ?_
    exact wl_X5_when_14 p1 hX hret n7 _ _ h
  · have h := h.2 hc
    refine r_iload_n hX dX5_when_10 rfl rfl ?_
    exact r_iret (hret _ _ rfl h) dX5_when_11
set_option maxRecDepth 100000 in
theorem c_X5_when {l : Launch} {D : va_G} {cs : CS3} {ad : Nat → Nat} (p1 : Int32) {M : Mem} {post : Int32 → Mem → Prop} (h : wp_X5_when p1 M post) : CtI l D cs ad yX5_when cX5_when 4 (some .int) 4 93 [.ref (ad 0), .int p1] M post := met_I (k := 2) (fun ad => [.ref (ad 0), .int p1]) (fun ad => [some (.ref (ad 0)), some (.int p1), none, none]) (by decide +kernel) (fun _ => Nat.le_of_ble_eq_true rfl) (fun _ => rfl) (fun _ => rfl) (fun X hX hret => wk_X5_when p1 hX hret h)
def wp_X5_fresh (p1 : Int32) (p2 : Int32) (M : Mem) (post : Int32 → Mem → Prop) : Prop := (wp_X0_hasChair p1 M (fun r1 M2 => ((¬ r1 = 0 → (wp_X5_isDinner p2 M2 (fun r3 M4 => ((¬ r3 = 0 → (wp_X1_judgeDinner p2 M4 (fun M6 => (wp_X3_seatMost M6 (fun r7 M8 => (wp_X1_judge (-1) p1 M8 (fun M10 => (wp_X3_seatMost M10 (fun r11 M12 => post (r11 - r7) M12))))))))) ∧ (r3 = 0 → post (-2) M4))))) ∧ (r1 = 0 → post (-1) M2))))
set_option maxRecDepth 100000 in
theorem wk_X5_fresh {X : CT} (p1 : Int32) (p2 : Int32) (hX : okX X RX5 cX5_fresh 5 113) {M : Mem} {post : Int32 → Mem → Prop} (hret : ∀ (r : Int32) (M' : Mem), narrow .int (.int r) = .int r → post r M' → RetI X cX5_fresh r M') (h : wp_X5_fresh p1 p2 M post) : Z X M 0 [some (.ref (adX X 0)), some (.int p1), some (.int p2), none] [] := by
  unfold wp_X5_fresh at h
  refine r_aload_n hX dX5_fresh_0 rfl rfl ?_
  refine r_getR hX fg_X5_12 ly_0 rfl dX5_fresh_1 ?_
  refine r_iload_n hX dX5_fresh_4 rfl rfl ?_
  refine r_cVi1 hX fv_X5_103 ly_1 rfl ⟨Nat.le_of_ble_eq_true rfl, Nat.le_of_ble_eq_true rfl⟩ (c_X0_hasChair p1 h) (Nat.le_of_ble_eq_true rfl) dX5_fresh_5 (fun r1 M2 h => ?_)
  refine r_if_ne hX 13 dX5_fresh_8 (by decide) (fun hc => ?_) (fun hc => ?_)
  · have h := h.1 hc
    refine r_iload_n hX dX5_fresh_13 rfl rfl ?_
    refine r_cSi1 hX fs_X5_138 ⟨Nat.le_of_ble_eq_true rfl, Nat.le_of_ble_eq_true rfl⟩ (c_X5_isDinner p2 h) (Nat.le_of_ble_eq_true rfl) dX5_fresh_14 (fun r3 M4 h => ?_)
    refine r_if_ne hX 23 dX5_fresh_17 (by decide) (fun hc => ?_) (fun hc => ?_)
    · have h := h.1 hc
      refine r_aload_n hX dX5_fresh_23 rfl rfl ?_
      refine r_getR hX fg_X5_40 ly_0 rfl dX5_fresh_24 ?_
      refine r_iload_n hX dX5_fresh_27 rfl rfl ?_
      refine r_cVv1 hX fv_X5_144 ly_18 rfl ⟨Nat.le_of_ble_eq_true rfl, Nat.le_of_ble_eq_true rfl⟩ (c_X1_judgeDinner p2 h) (Nat.le_of_ble_eq_true rfl) dX5_fresh_28 (fun M6 h => ?_)
      refine r_aload_n hX dX5_fresh_31 rfl rfl ?_
      refine r_getR hX fg_X5_53 ly_0 rfl dX5_fresh_32 ?_
      refine r_cVi0 hX fv_X5_156 ly_22 rfl ⟨Nat.le_of_ble_eq_true rfl, Nat.le_of_ble_eq_true rfl⟩ (c_X3_seatMost h) (Nat.le_of_ble_eq_true rfl) dX5_fresh_35 (fun r7 M8 h => ?_)
      refine r_istore_n (L' := [some (.ref (adX X 0)), some (.int p1), some (.int p2), some (.int r7)]) hX dX5_fresh_38 rfl (Nat.lt_of_ble rfl) rfl rfl ?_
      refine r_aload_n hX dX5_fresh_39 rfl rfl ?_
      refine r_getR hX fg_X5_40 ly_0 rfl dX5_fresh_40 ?_
      refine r_iconst (v := (-1)) hX dX5_fresh_43 (by decide) ?_
      refine r_iload_n hX dX5_fresh_44 rfl rfl ?_
      refine r_cVv2 hX fv_X5_188 ly_18 rfl ⟨Nat.le_of_ble_eq_true rfl, Nat.le_of_ble_eq_true rfl⟩ (c_X1_judge (-1) p1 h) (Nat.le_of_ble_eq_true rfl) dX5_fresh_45 (fun M10 h => ?_)
      refine r_aload_n hX dX5_fresh_48 rfl rfl ?_
      refine r_getR hX fg_X5_53 ly_0 rfl dX5_fresh_49 ?_
      refine r_cVi0 hX fv_X5_156 ly_22 rfl ⟨Nat.le_of_ble_eq_true rfl, Nat.le_of_ble_eq_true rfl⟩ (c_X3_seatMost h) (Nat.le_of_ble_eq_true rfl) dX5_fresh_52 (fun r11 M12 h => ?_)
      refine r_iload_n hX dX5_fresh_55 rfl rfl ?_
      refine r_isub hX dX5_fresh_56 ?_
      exact r_iret (hret _ _ rfl h) dX5_fresh_57
    · have h := h.2 hc
      refine r_bipush (v := (-2)) hX dX5_fresh_20 (by decide) ?_
      exact r_iret (hret _ _ rfl h) dX5_fresh_22
  · have h := h.2 hc
    refine r_iconst (v := (-1)) hX dX5_fresh_11 (by decide) ?_
    exact r_iret (hret _ _ rfl h) dX5_fresh_12
set_option maxRecDepth 100000 in
theorem c_X5_fresh {l : Launch} {D : va_G} {cs : CS3} {ad : Nat → Nat} (p1 : Int32) (p2 : Int32) {M : Mem} {post : Int32 → Mem → Prop} (h : wp_X5_fresh p1 p2 M post) : CtI l D cs ad yX5_fresh cX5_fresh 4 (some .int) 5 113 [.ref (ad 0), .int p1, .int p2] M post := met_I (k := 1) (fun ad => [.ref (ad 0), .int p1, .int p2]) (fun ad => [some (.ref (ad 0)), some (.int p1), some (.int p2), none]) (by decide +kernel) (fun _ => Nat.le_of_ble_eq_true rfl) (fun _ => rfl) (fun _ => rfl) (fun X hX hret => wk_X5_fresh p1 p2 hX hret h)
def wp_X5_reading (p1 : Int32) (p2 : Int32) (p3 : Int32) (p4 : Int32) (M : Mem) (post : Int32 → Mem → Prop) : Prop := (wp_X5_noteDown 13 p1 p3 p2 M (fun r1 M2 => (wp_X2_has 13 r1 M2 (fun r3 M4 => ((r3 = 0 → post r1 M4) ∧ (¬ r3 = 0 → (vp_in r1 8 ∧ ∀ M5 : Mem, M5 = up2 M4 17 r1.toNatClampNeg (vp_nar .boolean p4) → post r1 M5)))))))
set_option maxRecDepth 100000 in
theorem wk_X5_reading {X : CT} (p1 : Int32) (p2 : Int32) (p3 : Int32) (p4 : Int32) (hX : okX X RX5 cX5_reading 2 47) {M : Mem} {post : Int32 → Mem → Prop} (hret : ∀ (r : Int32) (M' : Mem), narrow .int (.int r) = .int r → post r M' → RetI X cX5_reading r M') (h : wp_X5_reading p1 p2 p3 p4 M post) : Z X M 0 [some (.ref (adX X 0)), some (.int p1), some (.int p2), some (.int p3), some (.int p4), none] [] := by
  unfold wp_X5_reading at h
  refine r_aload_n hX dX5_reading_0 rfl rfl ?_
  refine r_aload_n hX dX5_reading_1 rfl rfl ?_
  refine r_getR hX fg_X5_28 ly_0 rfl dX5_reading_2 ?_
  refine r_iload_n hX dX5_reading_5 rfl rfl ?_
  refine r_iload_n hX dX5_reading_6 rfl rfl ?_
  refine r_iload_n hX dX5_reading_7 rfl rfl ?_
  refine r_cVi4 hX fv_X5_115 ly_0 rfl ⟨Nat.le_of_ble_eq_true rfl, Nat.le_of_ble_eq_true rfl⟩ (c_X5_noteDown 13 p1 p3 p2 (Or.inr (Or.inr rfl)) h) (Nat.le_of_ble_eq_true rfl) dX5_reading_8 (fun r1 M2 h => ?_)
  refine r_istore (L' := [some (.ref (adX X 0)), some (.int p1), some (.int p2), some (.int p3), some (.int p4), some (.int r1)]) hX dX5_reading_11 (Nat.lt_of_ble rfl) rfl rfl ?_
  refine r_aload_n hX dX5_reading_13 rfl rfl ?_
  refine r_getR hX fg_X5_28 ly_0 rfl dX5_reading_14 ?_
  refine r_iload hX dX5_reading_17 rfl ?_
  refine r_cVi1 hX fv_X5_119 ly_13 rfl ⟨Nat.le_of_ble_eq_true rfl, Nat.le_of_ble_eq_true rfl⟩ (c_X2_has 13 r1 (Or.inr (Or.inr rfl)) h) (Nat.le_of_ble_eq_true rfl) dX5_reading_19 (fun r3 M4 h => ?_)
  refine r_if_eq hX 34 dX5_reading_22 (by decide) (fun hc => ?_) (fun hc => ?_)
  · have h := h.1 hc
    refine r_iload hX dX5_reading_34 rfl ?_
    exact r_iret (hret _ _ rfl h) dX5_reading_36
  · have h := h.2 hc
    refine r_aload_n hX dX5_reading_25 rfl rfl ?_
    refine r_getR hX fg_X5_31 ly_0 rfl dX5_reading_26 ?_
    refine r_iload hX dX5_reading_29 rfl ?_
    refine r_iload hX dX5_reading_31 rfl ?_
    refine r_zast hX ly_17 h.1 dX5_reading_33 ?_
    refine r_nmM (fun M5 eM5 => ?_)
    have h := h.2 M5 eM5
    refine r_iload hX dX5_reading_34 rfl ?_
    exact r_iret (hret _ _ rfl h) dX5_reading_36
set_option maxRecDepth 100000 in
theorem c_X5_reading {l : Launch} {D : va_G} {cs : CS3} {ad : Nat → Nat} (p1 : Int32) (p2 : Int32) (p3 : Int32) (p4 : Int32) {M : Mem} {post : Int32 → Mem → Prop} (h : wp_X5_reading p1 p2 p3 p4 M post) : CtI l D cs ad yX5_reading cX5_reading 6 (some .int) 2 47 [.ref (ad 0), .int p1, .int p2, .int p3, .int p4] M post := met_I (k := 1) (fun ad => [.ref (ad 0), .int p1, .int p2, .int p3, .int p4]) (fun ad => [some (.ref (ad 0)), some (.int p1), some (.int p2), some (.int p3), some (.int p4), none]) (by decide +kernel) (fun _ => Nat.le_of_ble_eq_true rfl) (fun _ => rfl) (fun _ => rfl) (fun X hX hret => wk_X5_reading p1 p2 p3 p4 hX hret h)
def wp_X5_back (p1 : Int32) (M : Mem) (post : Int32 → Mem → Prop) : Prop := (wp_X2_dropLast 13 p1 M (fun r1 M2 => post r1 M2))
set_option maxRecDepth 100000 in
theorem wk_X5_back {X : CT} (p1 : Int32) (hX : okX X RX5 cX5_back 1 21) {M : Mem} {post : Int32 → Mem → Prop} (hret : ∀ (r : Int32) (M' : Mem), narrow .int (.int r) = .int r → post r M' → RetI X cX5_back r M') (h : wp_X5_back p1 M post) : Z X M 0 [some (.ref (adX X 0)), some (.int p1)] [] := by
  unfold wp_X5_back at h
  refine r_aload_n hX dX5_back_0 rfl rfl ?_
  refine r_getR hX fg_X5_28 ly_0 rfl dX5_back_1 ?_
  refine r_iload_n hX dX5_back_4 rfl rfl ?_
  refine r_cVi1 hX fv_X5_131 ly_13 rfl ⟨Nat.le_of_ble_eq_true rfl, Nat.le_of_ble_eq_true rfl⟩ (c_X2_dropLast 13 p1 (Or.inr (Or.inr rfl)) h) (Nat.le_of_ble_eq_true rfl) dX5_back_5 (fun r1 M2 h => ?_)
  exact r_iret (hret _ _ rfl h) dX5_back_8
set_option maxRecDepth 100000 in
theorem c_X5_back {l : Launch} {D : va_G} {cs : CS3} {ad : Nat → Nat} (p1 : Int32) {M : Mem} {post : Int32 → Mem → Prop} (h : wp_X5_back p1 M post) : CtI l D cs ad yX5_back cX5_back 2 (some .int) 1 21 [.ref (ad 0), .int p1] M post := met_I (k := 0) (fun ad => [.ref (ad 0), .int p1]) (fun ad => [some (.ref (ad 0)), some (.int p1)]) (by decide +kernel) (fun _ => Nat.le_of_ble_eq_true rfl) (fun _ => rfl) (fun _ => rfl) (fun X hX hret => wk_X5_back p1 hX hret h)
def lp_X5_allReadingsAreSo_2 (post : Int32 → Mem → Prop) : Nat → Int32 → Mem → Prop
  | 0, _, _ => False
  | n + 1, x1, M => (((M 13 3) ≤ x1 → post 1 M) ∧ (¬ (M 13 3) ≤ x1 → (vp_in x1 8 ∧ (wp_X1_judgeDinner (M 14 x1.toNatClampNeg) M (fun M2 => (vp_in x1 8 ∧ (vp_in x1 8 ∧ (wp_X1_isBorne (M2 16 x1.toNatClampNeg) (M2 15 x1.toNatClampNeg) M2 (fun r3 M4 => (vp_in x1 8 ∧ ((r3 = (M4 17 x1.toNatClampNeg) → lp_X5_allReadingsAreSo_2 post n (x1 + 1) M4) ∧ (¬ r3 = (M4 17 x1.toNatClampNeg) → post 0 M4))))))))))))
set_option maxRecDepth 100000 in
theorem wl_X5_allReadingsAreSo_2 {X : CT} (hX : okX X RX5 cX5_allReadingsAreSo 4 93) {post : Int32 → Mem → Prop} (hret : ∀ (r : Int32) (M' : Mem), narrow .boolean (.int r) = .int r → post r M' → RetI X cX5_allReadingsAreSo r M') : ∀ (n : Nat) (x1 : Int32) (M : Mem), lp_X5_allReadingsAreSo_2 post n x1 M → Z X M 2 [some (.ref (adX X 0)), some (.int x1)] [] := by
  intro n
  induction n with
  | zero =>
    intro x1 M h
    exact False.elim h
  | succ n ih =>
    intro x1 M h
    unfold lp_X5_allReadingsAreSo_2 at h
    refine r_iload_n hX dX5_allReadingsAreSo_2 rfl rfl ?_
    refine r_aload_n hX dX5_allReadingsAreSo_3 rfl rfl ?_
    refine r_getR hX fg_X5_28 ly_0 rfl dX5_allReadingsAreSo_4 ?_
    refine r_getI hX fg_X5_97 ly_13 rfl dX5_allReadingsAreSo_7 ?_
    refine r_icmp_ge hX 71 dX5_allReadingsAreSo_10 (by decide) (fun hc => ?_) (fun hc => ?_)
    · have h := h.1 hc
      refine r_iconst (v := 1) hX dX5_allReadingsAreSo_71 (by decide) ?_
      exact r_iret (hret _ _ rfl h) dX5_allReadingsAreSo_72
    · have h := h.2 hc
      refine r_aload_n hX dX5_allReadingsAreSo_13 rfl rfl ?_
      refine r_getR hX fg_X5_40 ly_0 rfl dX5_allReadingsAreSo_14 ?_
      refine r_aload_n hX dX5_allReadingsAreSo_17 rfl rfl ?_
      refine r_getR hX fg_X5_28 ly_0 rfl dX5_allReadingsAreSo_18 ?_
      refine r_getR hX fg_X5_122 ly_13 rfl dX5_allReadingsAreSo_21 ?_
      refine r_iload_n hX dX5_allReadingsAreSo_24 rfl rfl ?_
      refine r_iald hX ly_14 h.1 dX5_allReadingsAreSo_25 ?_
      have h := h.2
      refine r_cVv1 hX fv_X5_144 ly_18 rfl ⟨Nat.le_of_ble_eq_true rfl, Nat.le_of_ble_eq_true rfl⟩ (c_X1_judgeDinner (M 14 x1.toNatClampNeg) h) (Nat.le_of_ble_eq_true rfl) dX5_allReadingsAreSo_26 (fun M2 h => ?_)
      refine r_aload_n hX dX5_allReadingsAreSo_29 rfl rfl ?_
      refine r_getR hX fg_X5_40 ly_0 rfl dX5_allReadingsAreSo_30 ?_
      refine r_aload_n hX dX5_allReadingsAreSo_33 rfl rfl ?_
      refine r_getR hX fg_X5_28 ly_0 rfl dX5_allReadingsAreSo_34 ?_
      refine r_getR hX fg_X5_128 ly_13 rfl dX5_allReadingsAreSo_37 ?_
      refine r_iload_n hX dX5_allReadingsAreSo_40 rfl rfl ?_
      refine r_iald hX ly_16 h.1 dX5_allReadingsAreSo_41 ?_
      have h := h.2
      refine r_aload_n hX dX5_allReadingsAreSo_42 rfl rfl ?_
      refine r_getR hX fg_X5_28 ly_0 rfl dX5_allReadingsAreSo_43 ?_
      refine r_getR hX fg_X5_125 ly_13 rfl dX5_allReadingsAreSo_46 ?_
      refine r_iload_n hX dX5_allReadingsAreSo_49 rfl rfl ?_
      refine r_iald hX ly_15 h.1 dX5_allReadingsAreSo_50 ?_
      have h := h.2
      refine r_cVi2 hX fv_X5_148 ly_18 rfl ⟨Nat.le_of_ble_eq_true rfl, Nat.le_of_ble_eq_true rfl⟩ (c_X1_isBorne (M2 16 x1.toNatClampNeg) (M2 15 x1.toNatClampNeg) h) (Nat.le_of_ble_eq_true rfl) dX5_allReadingsAreSo_51 (fun r3 M4 h => ?_)
      refine r_aload_n hX dX5_allReadingsAreSo_54 rfl rfl ?_
      refine r_getR hX fg_X5_31 ly_0 rfl dX5_allReadingsAreSo_55 ?_
      refine r_iload_n hX dX5_allReadingsAreSo_58 rfl rfl ?_
      refine r_zald hX ly_17 h.1 dX5_allReadingsAreSo_59 ?_
      have h := h.2
      refine r_icmp_eq hX 65 dX5_allReadingsAreSo_60 (by decide) (fun hc => ?_) (fun hc => ?_)
      · have h := h.1 hc
        refine r_iinc (v := x1 + 1) (L' := [some (.ref (adX X 0)), some (.int (x1 + 1))]) hX dX5_allReadingsAreSo_65 rfl rfl rfl rfl ?_
        refine r_goto hX 2 dX5_allReadingsAreSo_68 (by decide) ?_
        refine r_sub [some (.ref (adX X 0)), some (.int (x1 + 1))] (And.intro rfl (And.intro rfl trivial)) ?_
        exact ih _ _ h
      · have h := h.2 hc
        refine r_iconst (v := 0) hX dX5_allReadingsAreSo_63 (by decide) ?_
        exact r_iret (hret _ _ rfl h) dX5_allReadingsAreSo_64
def wp_X5_allReadingsAreSo (M : Mem) (post : Int32 → Mem → Prop) : Prop := (∃ k, lp_X5_allReadingsAreSo_2 post k 0 M)
set_option maxRecDepth 100000 in
theorem wk_X5_allReadingsAreSo {X : CT} (hX : okX X RX5 cX5_allReadingsAreSo 4 93) {M : Mem} {post : Int32 → Mem → Prop} (hret : ∀ (r : Int32) (M' : Mem), narrow .boolean (.int r) = .int r → post r M' → RetI X cX5_allReadingsAreSo r M') (h : wp_X5_allReadingsAreSo M post) : Z X M 0 [some (.ref (adX X 0)), none] [] := by
  unfold wp_X5_allReadingsAreSo at h
  refine r_iconst (v := 0) hX dX5_allReadingsAreSo_0 (by decide) ?_
  refine r_istore_n (L' := [some (.ref (adX X 0)), some (.int 0)]) hX dX5_allReadingsAreSo_1 rfl (Nat.lt_of_ble rfl) rfl rfl ?_
  obtain ⟨n5, h⟩ := h
  refine r_sub [some (.ref (adX X 0)), some (.int 0)] (And.intro rfl (And.intro rfl trivial)) ?_
  exact wl_X5_allReadingsAreSo_2 hX hret n5 _ _ h
set_option maxRecDepth 100000 in
theorem c_X5_allReadingsAreSo {l : Launch} {D : va_G} {cs : CS3} {ad : Nat → Nat} {M : Mem} {post : Int32 → Mem → Prop} (h : wp_X5_allReadingsAreSo M post) : CtI l D cs ad yX5_allReadingsAreSo cX5_allReadingsAreSo 2 (some .boolean) 4 93 [.ref (ad 0)] M post := met_I (k := 1) (fun ad => [.ref (ad 0)]) (fun ad => [some (.ref (ad 0)), none]) (by decide +kernel) (fun _ => Nat.le_of_ble_eq_true rfl) (fun _ => rfl) (fun _ => rfl) (fun X hX hret => wk_X5_allReadingsAreSo hX hret h)
def lp_X5_fitting_11 (a1 : Nat) (n1 : Nat) (p2 : Int32) (p3 : Int32) (post : Int32 → Mem → Prop) : Nat → Int32 → Int32 → Int32 → Mem → Prop
  | 0, _, _, _, _ => False
  | n + 1, x4, x5, x6, M => ((p3 ≤ x6 → (vp_in p2 n1 ∧ ∀ M2 : Mem, M2 = up2 M a1 p2.toNatClampNeg x4 → post x5 M2)) ∧ (¬ p3 ≤ x6 → (vp_in p2 n1 ∧ ∀ M3 : Mem, M3 = up2 M a1 p2.toNatClampNeg x6 → (wp_X5_allReadingsAreSo M3 (fun r4 M5 => ((r4 = 0 → lp_X5_fitting_11 a1 n1 p2 p3 post n x4 x5 (x6 + 1) M5) ∧ (¬ r4 = 0 → (∀ v6 : Int32, v6 = x5 ||| (1 <<< (x6 &&& 31)) → lp_X5_fitting_11 a1 n1 p2 p3 post n x4 v6 (x6 + 1) M5))))))))
set_option maxRecDepth 100000 in
theorem wl_X5_fitting_11 {X : CT} (a1 : Nat) (n1 : Nat) (p2 : Int32) (p3 : Int32) (hc1 : lyl[a1]? = some (.inr (0, n1))) (hX : okX X RX5 cX5_fitting 5 114) {post : Int32 → Mem → Prop} (hret : ∀ (r : Int32) (M' : Mem), narrow .int (.int r) = .int r → post r M' → RetI X cX5_fitting r M') : ∀ (n : Nat) (x4 : Int32) (x5 : Int32) (x6 : Int32) (M : Mem), lp_X5_fitting_11 a1 n1 p2 p3 post n x4 x5 x6 M → Z X M 11 [some (.ref (adX X 0)), some (.ref (adX X a1)), some (.int p2), some (.int p3), some (.int x4), some (.int x5), some (.int x6)] [] := by
  intro n
  induction n with
  | zero =>
    intro x4 x5 x6 M h
    exact False.elim h
  | succ n ih =>
    intro x4 x5 x6 M h
    unfold lp_X5_fitting_11 at h
    refine r_iload hX dX5_fitting_11 rfl ?_
    refine r_iload_n hX dX5_fitting_13 rfl rfl ?_
    refine r_icmp_ge hX 44 dX5_fitting_14 (by decide) (fun hc => ?_) (fun hc => ?_)
    · have h := h.1 hc
      refine r_aload_n hX dX5_fitting_44 rfl rfl ?_
      refine r_iload_n hX dX5_fitting_45 rfl rfl ?_
      refine r_iload hX dX5_fitting_46 rfl ?_
      refine r_iast hX hc1 h.1 dX5_fitting_48 ?_
      refine r_nmM (fun M2 eM2 => ?_)
      have h := h.2 M2 eM2
      refine r_iload hX dX5_fitting_49 rfl ?_
      exact r_iret (hret _ _ rfl h) dX5_fitting_51
    · have h := h.2 hc
      refine r_aload_n hX dX5_fitting_17 rfl rfl ?_
      refine r_iload_n hX dX5_fitting_18 rfl rfl ?_
      refine r_iload hX dX5_fitting_19 rfl ?_
      refine r_iast hX hc1 h.1 dX5_fitting_21 ?_
      refine r_nmM (fun M3 eM3 => ?_)
      have h := h.2 M3 eM3
      refine r_aload_n hX dX5_fitting_22 rfl rfl ?_
      refine r_cVi0 hX fv_X5_200 ly_0 rfl ⟨Nat.le_of_ble_eq_true rfl, Nat.le_of_ble_eq_true rfl⟩ (c_X5_allReadingsAreSo h) (Nat.le_of_ble_eq_true rfl) dX5_fitting_23 (fun r4 M5 h => ?_)
      refine r_if_eq hX 38 dX5_fitting_26 (by decide) (fun hc => ?_) (fun hc => ?_)
      · have h := h.1 hc
        refine r_iinc (v := x6 + 1) (L' := [some (.ref (adX X 0)), some (.ref (adX X a1)), some (.int p2), some (.int p3), some (.int x4), some (.int x5), some (.int (x6 + 1))]) hX dX5_fitting_38 rfl rfl rfl rfl ?_
        refine r_goto hX 11 dX5_fitting_41 (by decide) ?_
        refine r_sub [some (.ref (adX X 0)), some (.ref (adX X a1)), some (.int p2), some (.int p3), some (.int x4), some (.int x5), some (.int (x6 + 1))] (And.intro rfl (And.intro rfl (And.intro rfl (And.intro rfl (And.intro rfl (And.intro rfl (And.intro rfl trivial))))))) ?_
        exact ih _ _ _ _ h
      · have h := h.2 hc
        refine r_iload hX dX5_fitting_29 rfl ?_
        refine r_iconst (v := 1) hX dX5_fitting_31 (by decide) ?_
        refine r_iload hX dX5_fitting_32 rfl ?_
        refine r_ishl hX dX5_fitting_34 ?_
        refine r_ior hX dX5_fitting_35 ?_
        refine r_nm (fun v6 ev6 => ?_)
        have h := h v6 ev6
        refine r_istore (L' := [some (.ref (adX X 0)), some (.ref (adX X a1)), some (.int p2), some (.int p3), some (.int x4), some (.int v6), some (.int x6)]) hX dX5_fitting_36 (Nat.lt_of_ble rfl) rfl rfl ?_
        refine r_iinc (v := x6 + 1) (L' := [some (.ref (adX X 0)), some (.ref (adX X a1)), some (.int p2), some (.int p3), some (.int x4), some (.int v6), some (.int (x6 + 1))]) hX dX5_fitting_38 rfl rfl rfl rfl ?_
        refine r_goto hX 11 dX5_fitting_41 (by decide) ?_
        refine r_sub [some (.ref (adX X 0)), some (.ref (adX X a1)), some (.int p2), some (.int p3), some (.int x4), some (.int v6), some (.int (x6 + 1))] (And.intro rfl (And.intro rfl (And.intro rfl (And.intro rfl (And.intro rfl (And.intro rfl (And.intro rfl trivial))))))) ?_
        exact ih _ _ _ _ h
def wp_X5_fitting (a1 : Nat) (n1 : Nat) (p2 : Int32) (p3 : Int32) (M : Mem) (post : Int32 → Mem → Prop) : Prop := (vp_in p2 n1 ∧ (∀ v1 : Int32, v1 = M a1 p2.toNatClampNeg → (∃ k, lp_X5_fitting_11 a1 n1 p2 p3 post k v1 0 0 M)))
set_option maxRecDepth 100000 in
theorem wk_X5_fitting {X : CT} (a1 : Nat) (n1 : Nat) (p2 : Int32) (p3 : Int32) (hc1 : lyl[a1]? = some (.inr (0, n1))) (hX : okX X RX5 cX5_fitting 5 114) {M : Mem} {post : Int32 → Mem → Prop} (hret : ∀ (r : Int32) (M' : Mem), narrow .int (.int r) = .int r → post r M' → RetI X cX5_fitting r M') (h : wp_X5_fitting a1 n1 p2 p3 M post) : Z X M 0 [some (.ref (adX X 0)), some (.ref (adX X a1)), some (.int p2), some (.int p3), none, none, none] [] := by
  unfold wp_X5_fitting at h
  refine r_aload_n hX dX5_fitting_0 rfl rfl ?_
  refine r_iload_n hX dX5_fitting_1 rfl rfl ?_
  refine r_iald hX hc1 h.1 dX5_fitting_2 ?_
  have h := h.2
  refine r_nm (fun v1 ev1 => ?_)
  have h := h v1 ev1
  refine r_istore (L' := [some (.ref (adX X 0)), some (.ref (adX X a1)), some (.int p2), some (.int p3), some (.int v1), none, none]) hX dX5_fitting_3 (Nat.lt_of_ble rfl) rfl rfl ?_
  refine r_iconst (v := 0) hX dX5_fitting_5 (by decide) ?_
  refine r_istore (L' := [some (.ref (adX X 0)), some (.ref (adX X a1)), some (.int p2), some (.int p3), some (.int v1), some (.int 0), none]) hX dX5_fitting_6 (Nat.lt_of_ble rfl) rfl rfl ?_
  refine r_iconst (v := 0) hX dX5_fitting_8 (by decide) ?_
  refine r_istore (L' := [some (.ref (adX X 0)), some (.ref (adX X a1)), some (.int p2), some (.int p3), some (.int v1), some (.int 0), some (.int 0)]) hX dX5_fitting_9 (Nat.lt_of_ble rfl) rfl rfl ?_
  obtain ⟨n7, h⟩ := h
  refine r_sub [some (.ref (adX X 0)), some (.ref (adX X a1)), some (.int p2), some (.int p3), some (.int v1), some (.int 0), some (.int 0)] (And.intro rfl (And.intro rfl (And.intro rfl (And.intro rfl (And.intro rfl (And.intro rfl (And.intro rfl trivial))))))) ?_
  exact wl_X5_fitting_11 a1 n1 p2 p3 hc1 hX hret n7 _ _ _ _ h
set_option maxRecDepth 100000 in
theorem c_X5_fitting {l : Launch} {D : va_G} {cs : CS3} {ad : Nat → Nat} (a1 : Nat) (n1 : Nat) (p2 : Int32) (p3 : Int32) (hc1 : lyl[a1]? = some (.inr (0, n1))) {M : Mem} {post : Int32 → Mem → Prop} (h : wp_X5_fitting a1 n1 p2 p3 M post) : CtI l D cs ad yX5_fitting cX5_fitting 7 (some .int) 5 114 [.ref (ad 0), .ref (ad a1), .int p2, .int p3] M post := met_I (k := 3) (fun ad => [.ref (ad 0), .ref (ad a1), .int p2, .int p3]) (fun ad => [some (.ref (ad 0)), some (.ref (ad a1)), some (.int p2), some (.int p3), none, none, none]) (by decide +kernel) (fun _ => Nat.le_of_ble_eq_true rfl) (fun _ => rfl) (fun _ => rfl) (fun X hX hret => wk_X5_fitting a1 n1 p2 p3 hc1 hX hret h)
def wp_X5_times (p1 : Int32) (M : Mem) (post : Int32 → Mem → Prop) : Prop := (wp_X2_has 5 p1 M (fun r1 M2 => ((¬ r1 = 0 → (wp_X5_fitting 6 8 p1 20 M2 (fun r3 M4 => post r3 M4))) ∧ (r1 = 0 → post (-1) M2))))
set_option maxRecDepth 100000 in
theorem wk_X5_times {X : CT} (p1 : Int32) (hX : okX X RX5 cX5_times 6 140) {M : Mem} {post : Int32 → Mem → Prop} (hret : ∀ (r : Int32) (M' : Mem), narrow .int (.int r) = .int r → post r M' → RetI X cX5_times r M') (h : wp_X5_times p1 M post) : Z X M 0 [some (.ref (adX X 0)), some (.int p1)] [] := by
  unfold wp_X5_times at h
  refine r_aload_n hX dX5_times_0 rfl rfl ?_
  refine r_getR hX fg_X5_21 ly_0 rfl dX5_times_1 ?_
  refine r_iload_n hX dX5_times_4 rfl rfl ?_
  refine r_cVi1 hX fv_X5_119 ly_5 rfl ⟨Nat.le_of_ble_eq_true rfl, Nat.le_of_ble_eq_true rfl⟩ (c_X2_has 5 p1 (Or.inl rfl) h) (Nat.le_of_ble_eq_true rfl) dX5_times_5 (fun r1 M2 h => ?_)
  refine r_if_ne hX 13 dX5_times_8 (by decide) (fun hc => ?_) (fun hc => ?_)
  · have h := h.1 hc
    refine r_aload_n hX dX5_times_13 rfl rfl ?_
    refine r_aload_n hX dX5_times_14 rfl rfl ?_
    refine r_getR hX fg_X5_21 ly_0 rfl dX5_times_15 ?_
    refine r_getR hX fg_X5_122 ly_5 rfl dX5_times_18 ?_
    refine r_iload_n hX dX5_times_21 rfl rfl ?_
    refine r_bipush (v := 20) hX dX5_times_22 (by decide) ?_
    refine r_cVi3 hX fv_X5_192 ly_0 rfl ⟨Nat.le_of_ble_eq_true rfl, Nat.le_of_ble_eq_true rfl⟩ (c_X5_fitting 6 8 p1 20 ly_6 h) (Nat.le_of_ble_eq_true rfl) dX5_times_24 (fun r3 M4 h => ?_)
    exact r_iret (hret _ _ rfl h) dX5_times_27
  · have h := h.2 hc
    refine r_iconst (v := (-1)) hX dX5_times_11 (by decide) ?_
    exact r_iret (hret _ _ rfl h) dX5_times_12
set_option maxRecDepth 100000 in
theorem c_X5_times {l : Launch} {D : va_G} {cs : CS3} {ad : Nat → Nat} (p1 : Int32) {M : Mem} {post : Int32 → Mem → Prop} (h : wp_X5_times p1 M post) : CtI l D cs ad yX5_times cX5_times 2 (some .int) 6 140 [.ref (ad 0), .int p1] M post := met_I (k := 0) (fun ad => [.ref (ad 0), .int p1]) (fun ad => [some (.ref (ad 0)), some (.int p1)]) (by decide +kernel) (fun _ => Nat.le_of_ble_eq_true rfl) (fun _ => rfl) (fun _ => rfl) (fun X hX hret => wk_X5_times p1 hX hret h)
def wp_X5_grudges (p1 : Int32) (M : Mem) (post : Int32 → Mem → Prop) : Prop := (wp_X0_hasChair p1 M (fun r1 M2 => ((¬ r1 = 0 → (wp_X5_fitting 4 5 p1 10 M2 (fun r3 M4 => post r3 M4))) ∧ (r1 = 0 → post (-1) M2))))
set_option maxRecDepth 100000 in
theorem wk_X5_grudges {X : CT} (p1 : Int32) (hX : okX X RX5 cX5_grudges 6 140) {M : Mem} {post : Int32 → Mem → Prop} (hret : ∀ (r : Int32) (M' : Mem), narrow .int (.int r) = .int r → post r M' → RetI X cX5_grudges r M') (h : wp_X5_grudges p1 M post) : Z X M 0 [some (.ref (adX X 0)), some (.int p1)] [] := by
  unfold wp_X5_grudges at h
  refine r_aload_n hX dX5_grudges_0 rfl rfl ?_
  refine r_getR hX fg_X5_12 ly_0 rfl dX5_grudges_1 ?_
  refine r_iload_n hX dX5_grudges_4 rfl rfl ?_
  refine r_cVi1 hX fv_X5_103 ly_1 rfl ⟨Nat.le_of_ble_eq_true rfl, Nat.le_of_ble_eq_true rfl⟩ (c_X0_hasChair p1 h) (Nat.le_of_ble_eq_true rfl) dX5_grudges_5 (fun r1 M2 h => ?_)
  refine r_if_ne hX 13 dX5_grudges_8 (by decide) (fun hc => ?_) (fun hc => ?_)
  · have h := h.1 hc
    refine r_aload_n hX dX5_grudges_13 rfl rfl ?_
    refine r_aload_n hX dX5_grudges_14 rfl rfl ?_
    refine r_getR hX fg_X5_12 ly_0 rfl dX5_grudges_15 ?_
    refine r_getR hX fg_X5_112 ly_1 rfl dX5_grudges_18 ?_
    refine r_iload_n hX dX5_grudges_21 rfl rfl ?_
    refine r_bipush (v := 10) hX dX5_grudges_22 (by decide) ?_
    refine r_cVi3 hX fv_X5_192 ly_0 rfl ⟨Nat.le_of_ble_eq_true rfl, Nat.le_of_ble_eq_true rfl⟩ (c_X5_fitting 4 5 p1 10 ly_4 h) (Nat.le_of_ble_eq_true rfl) dX5_grudges_24 (fun r3 M4 h => ?_)
    exact r_iret (hret _ _ rfl h) dX5_grudges_27
  · have h := h.2 hc
    refine r_iconst (v := (-1)) hX dX5_grudges_11 (by decide) ?_
    exact r_iret (hret _ _ rfl h) dX5_grudges_12
set_option maxRecDepth 100000 in
theorem c_X5_grudges {l : Launch} {D : va_G} {cs : CS3} {ad : Nat → Nat} (p1 : Int32) {M : Mem} {post : Int32 → Mem → Prop} (h : wp_X5_grudges p1 M post) : CtI l D cs ad yX5_grudges cX5_grudges 2 (some .int) 6 140 [.ref (ad 0), .int p1] M post := met_I (k := 0) (fun ad => [.ref (ad 0), .int p1]) (fun ad => [some (.ref (ad 0)), some (.int p1)]) (by decide +kernel) (fun _ => Nat.le_of_ble_eq_true rfl) (fun _ => rfl) (fun _ => rfl) (fun X hX hret => wk_X5_grudges p1 hX hret h)
def wp_X5_ears (p1 : Int32) (M : Mem) (post : Int32 → Mem → Prop) : Prop := (wp_X0_hasChair p1 M (fun r1 M2 => ((¬ r1 = 0 → (wp_X5_fitting 3 5 p1 5 M2 (fun r3 M4 => post r3 M4))) ∧ (r1 = 0 → post (-1) M2))))
set_option maxRecDepth 100000 in
theorem wk_X5_ears {X : CT} (p1 : Int32) (hX : okX X RX5 cX5_ears 6 140) {M : Mem} {post : Int32 → Mem → Prop} (hret : ∀ (r : Int32) (M' : Mem), narrow .int (.int r) = .int r → post r M' → RetI X cX5_ears r M') (h : wp_X5_ears p1 M post) : Z X M 0 [some (.ref (adX X 0)), some (.int p1)] [] := by
  unfold wp_X5_ears at h
  refine r_aload_n hX dX5_ears_0 rfl rfl ?_
  refine r_getR hX fg_X5_12 ly_0 rfl dX5_ears_1 ?_
  refine r_iload_n hX dX5_ears_4 rfl rfl ?_
  refine r_cVi1 hX fv_X5_103 ly_1 rfl ⟨Nat.le_of_ble_eq_true rfl, Nat.le_of_ble_eq_true rfl⟩ (c_X0_hasChair p1 h) (Nat.le_of_ble_eq_true rfl) dX5_ears_5 (fun r1 M2 h => ?_)
  refine r_if_ne hX 13 dX5_ears_8 (by decide) (fun hc => ?_) (fun hc => ?_)
  · have h := h.1 hc
    refine r_aload_n hX dX5_ears_13 rfl rfl ?_
    refine r_aload_n hX dX5_ears_14 rfl rfl ?_
    refine r_getR hX fg_X5_12 ly_0 rfl dX5_ears_15 ?_
    refine r_getR hX fg_X5_109 ly_1 rfl dX5_ears_18 ?_
    refine r_iload_n hX dX5_ears_21 rfl rfl ?_
    refine r_iconst (v := 5) hX dX5_ears_22 (by decide) ?_
    refine r_cVi3 hX fv_X5_192 ly_0 rfl ⟨Nat.le_of_ble_eq_true rfl, Nat.le_of_ble_eq_true rfl⟩ (c_X5_fitting 3 5 p1 5 ly_3 h) (Nat.le_of_ble_eq_true rfl) dX5_ears_23 (fun r3 M4 h => ?_)
    exact r_iret (hret _ _ rfl h) dX5_ears_26
  · have h := h.2 hc
    refine r_iconst (v := (-1)) hX dX5_ears_11 (by decide) ?_
    exact r_iret (hret _ _ rfl h) dX5_ears_12
set_option maxRecDepth 100000 in
theorem c_X5_ears {l : Launch} {D : va_G} {cs : CS3} {ad : Nat → Nat} (p1 : Int32) {M : Mem} {post : Int32 → Mem → Prop} (h : wp_X5_ears p1 M post) : CtI l D cs ad yX5_ears cX5_ears 2 (some .int) 6 140 [.ref (ad 0), .int p1] M post := met_I (k := 0) (fun ad => [.ref (ad 0), .int p1]) (fun ad => [some (.ref (ad 0)), some (.int p1)]) (by decide +kernel) (fun _ => Nat.le_of_ble_eq_true rfl) (fun _ => rfl) (fun _ => rfl) (fun X hX hret => wk_X5_ears p1 hX hret h)
def wp_X5_kinds (p1 : Int32) (M : Mem) (post : Int32 → Mem → Prop) : Prop := (wp_X0_hasChair p1 M (fun r1 M2 => ((¬ r1 = 0 → (wp_X5_fitting 2 5 p1 3 M2 (fun r3 M4 => post r3 M4))) ∧ (r1 = 0 → post (-1) M2))))
set_option maxRecDepth 100000 in
theorem wk_X5_kinds {X : CT} (p1 : Int32) (hX : okX X RX5 cX5_kinds 6 140) {M : Mem} {post : Int32 → Mem → Prop} (hret : ∀ (r : Int32) (M' : Mem), narrow .int (.int r) = .int r → post r M' → RetI X cX5_kinds r M') (h : wp_X5_kinds p1 M post) : Z X M 0 [some (.ref (adX X 0)), some (.int p1)] [] := by
  unfold wp_X5_kinds at h
  refine r_aload_n hX dX5_kinds_0 rfl rfl ?_
  refine r_getR hX fg_X5_12 ly_0 rfl dX5_kinds_1 ?_
  refine r_iload_n hX dX5_kinds_4 rfl rfl ?_
  refine r_cVi1 hX fv_X5_103 ly_1 rfl ⟨Nat.le_of_ble_eq_true rfl, Nat.le_of_ble_eq_true rfl⟩ (c_X0_hasChair p1 h) (Nat.le_of_ble_eq_true rfl) dX5_kinds_5 (fun r1 M2 h => ?_)
  refine r_if_ne hX 13 dX5_kinds_8 (by decide) (fun hc => ?_) (fun hc => ?_)
  · have h := h.1 hc
    refine r_aload_n hX dX5_kinds_13 rfl rfl ?_
    refine r_aload_n hX dX5_kinds_14 rfl rfl ?_
    refine r_getR hX fg_X5_12 ly_0 rfl dX5_kinds_15 ?_
    refine r_getR hX fg_X5_106 ly_1 rfl dX5_kinds_18 ?_
    refine r_iload_n hX dX5_kinds_21 rfl rfl ?_
    refine r_iconst (v := 3) hX dX5_kinds_22 (by decide) ?_
    refine r_cVi3 hX fv_X5_192 ly_0 rfl ⟨Nat.le_of_ble_eq_true rfl, Nat.le_of_ble_eq_true rfl⟩ (c_X5_fitting 2 5 p1 3 ly_2 h) (Nat.le_of_ble_eq_true rfl) dX5_kinds_23 (fun r3 M4 h => ?_)
    exact r_iret (hret _ _ rfl h) dX5_kinds_26
  · have h := h.2 hc
    refine r_iconst (v := (-1)) hX dX5_kinds_11 (by decide) ?_
    exact r_iret (hret _ _ rfl h) dX5_kinds_12
set_option maxRecDepth 100000 in
theorem c_X5_kinds {l : Launch} {D : va_G} {cs : CS3} {ad : Nat → Nat} (p1 : Int32) {M : Mem} {post : Int32 → Mem → Prop} (h : wp_X5_kinds p1 M post) : CtI l D cs ad yX5_kinds cX5_kinds 2 (some .int) 6 140 [.ref (ad 0), .int p1] M post := met_I (k := 0) (fun ad => [.ref (ad 0), .int p1]) (fun ad => [some (.ref (ad 0)), some (.int p1)]) (by decide +kernel) (fun _ => Nat.le_of_ble_eq_true rfl) (fun _ => rfl) (fun _ => rfl) (fun X hX hret => wk_X5_kinds p1 hX hret h)
def jn_X5_odds_118 (p1 : Int32) (p2 : Int32) (post : Int64 → Mem → Prop) (x3 : Int32) (x4 : Int32) (M : Mem) : Prop := ((¬ p2 = 0 → post x3.toInt64 M) ∧ (p2 = 0 → post x4.toInt64 M))
set_option maxRecDepth 100000 in
theorem wj_X5_odds_118 {X : CT} (p1 : Int32) (p2 : Int32) (hX : okX X RX5 cX5_odds 3 72) {post : Int64 → Mem → Prop} (hret : ∀ (r : Int64) (M' : Mem), post r M' → RetL X cX5_odds r M') (x3 : Int32) (x4 : Int32) (M : Mem) (h : jn_X5_odds_118 p1 p2 post x3 x4 M) : Z X M 118 [none, none, some (.int p2), some (.int x3), some (.int x4), none] [] := by
  unfold jn_X5_odds_118 at h
  refine r_iload_n hX dX5_odds_118 rfl rfl ?_
  refine r_if_ne hX 128 dX5_odds_119 (by decide) (fun hc => ?_) (fun hc => ?_)
  · have h := h.1 hc
    refine r_iload_n hX dX5_odds_128 rfl rfl ?_
    refine r_i2l hX dX5_odds_129 ?_
    exact r_lret (hret _ _ h) dX5_odds_130
  · have h := h.2 hc
    refine r_iload hX dX5_odds_122 rfl ?_
    refine r_i2l hX dX5_odds_124 ?_
    refine r_goto hX 130 dX5_odds_125 (by decide) ?_
    exact r_lret (hret _ _ h) dX5_odds_130
def lp_X5_odds_83 (p1 : Int32) (p2 : Int32) (post : Int64 → Mem → Prop) : Nat → Int32 → Int32 → Int32 → Mem → Prop
  | 0, _, _, _, _ => False
  | n + 1, x3, x4, x5, M => (((M 5 3) ≤ x5 → jn_X5_odds_118 p1 p2 post x3 x4 M) ∧ (¬ (M 5 3) ≤ x5 → ((¬ (x4 - x4 / 2 * 2) = 0 → jn_X5_odds_118 p1 p2 post x3 x4 M) ∧ ((x4 - x4 / 2 * 2) = 0 → (∀ v6 : Int32, v6 = x3 / 2 → (∀ v7 : Int32, v7 = x4 / 2 → lp_X5_odds_83 p1 p2 post n v6 v7 (x5 + 1) M))))))
set_option maxRecDepth 100000 in
theorem wl_X5_odds_83 {X : CT} (p1 : Int32) (p2 : Int32) (hX : okX X RX5 cX5_odds 3 72) {post : Int64 → Mem → Prop} (hret : ∀ (r : Int64) (M' : Mem), post r M' → RetL X cX5_odds r M') : ∀ (n : Nat) (x3 : Int32) (x4 : Int32) (x5 : Int32) (M : Mem), lp_X5_odds_83 p1 p2 post n x3 x4 x5 M → Z X M 83 [some (.ref (adX X 0)), none, some (.int p2), some (.int x3), some (.int x4), some (.int x5)] [] := by
  intro n
  induction n with
  | zero =>
    intro x3 x4 x5 M h
    exact False.elim h
  | succ n ih =>
    intro x3 x4 x5 M h
    unfold lp_X5_odds_83 at h
    refine r_iload hX dX5_odds_83 rfl ?_
    refine r_aload_n hX dX5_odds_85 rfl rfl ?_
    refine r_getR hX fg_X5_21 ly_0 rfl dX5_odds_86 ?_
    refine r_getI hX fg_X5_97 ly_5 rfl dX5_odds_89 ?_
    refine r_icmp_ge hX 118 dX5_odds_92 (by decide) (fun hc => ?_) (fun hc => ?_)
    · have h := h.1 hc
      refine r_sub [none, none, some (.int p2), some (.int x3), some (.int x4), none] (And.intro rfl (And.intro rfl (And.intro rfl trivial))) ?_
      exact wj_X5_odds_118 p1 p2 hX hret _ _ _ h
    · have h := h.2 hc
      refine r_iload hX dX5_odds_95 rfl ?_
      refine r_iconst (v := 2) hX dX5_odds_97 (by decide) ?_
      refine r_irem hX dX5_odds_98 (by decide) ?_
      refine r_if_ne hX 118 dX5_odds_99 (by decide) (fun hc => ?_) (fun hc => ?_)
      · have h := h.1 hc
        refine r_sub [none, none, some (.int p2), some (.int x3), some (.int x4), none] (And.intro rfl (And.intro rfl (And.intro rfl trivial))) ?_
        exact wj_X5_odds_118 p1 p2 hX hret _ _ _ h
      · have h := h.2 hc
        refine r_iload_n hX dX5_odds_102 rfl rfl ?_
        refine r_iconst (v := 2) hX dX5_odds_103 (by decide) ?_
        refine r_idiv hX dX5_odds_104 (by decide) ?_
        refine r_nm (fun v6 ev6 => ?_)
        have h := h v6 ev6
        refine r_istore_n (L' := [some (.ref (adX X 0)), none, some (.int p2), some (.int v6), some (.int x4), some (.int x5)]) hX dX5_odds_105 rfl (Nat.lt_of_ble rfl) rfl rfl ?_
        refine r_iload hX dX5_odds_106 rfl ?_
        refine r_iconst (v := 2) hX dX5_odds_108 (by decide) ?_
        refine r_idiv hX dX5_odds_109 (by decide) ?_
        refine r_nm (fun v7 ev7 => ?_)
        have h := h v7 ev7
        refine r_istore (L' := [some (.ref (adX X 0)), none, some (.int p2), some (.int v6), some (.int v7), some (.int x5)]) hX dX5_odds_110 (Nat.lt_of_ble rfl) rfl rfl ?_
        refine r_iinc (v := x5 + 1) (L' := [some (.ref (adX X 0)), none, some (.int p2), some (.int v6), some (.int v7), some (.int (x5 + 1))]) hX dX5_odds_112 rfl rfl rfl rfl ?_
        refine r_goto hX 83 dX5_odds_115 (by decide) ?_
        refine r_sub [some (.ref (adX X 0)), none, some (.int p2), some (.int v6), some (.int v7), some (.int (x5 + 1))] (And.intro rfl (And.intro rfl (And.intro rfl (And.intro rfl (And.intro rfl trivial))))) ?_
        exact ih _ _ _ _ h
def lp_X5_odds_45 (p1 : Int32) (p2 : Int32) (post : Int64 → Mem → Prop) : Nat → Int32 → Int32 → Int32 → Mem → Prop
  | 0, _, _, _, _ => False
  | n + 1, x3, x4, x5, M => ((x3 ≤ x5 → (∃ k, lp_X5_odds_83 p1 p2 post k x3 x4 0 M)) ∧ (¬ x3 ≤ x5 → (wp_X1_judge x5 (-1) M (fun M10 => (wp_X1_allCanSit M10 (fun r11 M12 => ((r11 = 0 → lp_X5_odds_45 p1 p2 post n x3 x4 (x5 + 1) M12) ∧ (¬ r11 = 0 → lp_X5_odds_45 p1 p2 post n x3 (x4 + 1) (x5 + 1) M12))))))))
set_option maxRecDepth 100000 in
theorem wl_X5_odds_45 {X : CT} (p1 : Int32) (p2 : Int32) (hX : okX X RX5 cX5_odds 3 72) {post : Int64 → Mem → Prop} (hret : ∀ (r : Int64) (M' : Mem), post r M' → RetL X cX5_odds r M') : ∀ (n : Nat) (x3 : Int32) (x4 : Int32) (x5 : Int32) (M : Mem), lp_X5_odds_45 p1 p2 post n x3 x4 x5 M → Z X M 45 [some (.ref (adX X 0)), none, some (.int p2), some (.int x3), some (.int x4), some (.int x5)] [] := by
  intro n
  induction n with
  | zero =>
    intro x3 x4 x5 M h
    exact False.elim h
  | succ n ih =>
    intro x3 x4 x5 M h
    unfold lp_X5_odds_45 at h
    refine r_iload hX dX5_odds_45 rfl ?_
    refine r_iload_n hX dX5_odds_47 rfl rfl ?_
    refine r_icmp_ge hX 80 dX5_odds_48 (by decide) (fun hc => ?_) (fun hc => ?_)
    · have h := h.1 hc
      refine r_iconst (v := 0) hX dX5_odds_80 (by decide) ?_
      refine r_istore (L' := [some (.ref (adX X 0)), none, some (.int p2), some (.int x3), some (.int x4), some (.int 0)]) hX dX5_odds_81 (Nat.lt_of_ble rfl) rfl rfl ?_
      obtain ⟨n8, h⟩ := h
      refine r_sub [some (.ref (adX X 0)), none, some (.int p2), some (.int x3), some (.int x4), some (.int 0)] (And.intro rfl (And.intro rfl (And.intro rfl (And.intro rfl (And.intro rfl trivial))))) ?_
      exact wl_X5_odds_83 p1 p2 hX hret n8 _ _ _ _ h
    · have h := h.2 hc
      refine r_aload_n hX dX5_odds_51 rfl rfl ?_
      refine r_getR hX fg_X5_40 ly_0 rfl dX5_odds_52 ?_
      refine r_iload hX dX5_odds_55 rfl ?_
      refine r_iconst (v := (-1)) hX dX5_odds_57 (by decide) ?_
      refine r_cVv2 hX fv_X5_188 ly_18 rfl ⟨Nat.le_of_ble_eq_true rfl, Nat.le_of_ble_eq_true rfl⟩ (c_X1_judge x5 (-1) h) (Nat.le_of_ble_eq_true rfl) dX5_odds_58 (fun M10 h => ?_)
      refine r_aload_n hX dX5_odds_61 rfl rfl ?_
      refine r_getR hX fg_X5_40 ly_0 rfl dX5_odds_62 ?_
      refine r_cVi0 hX fv_X5_185 ly_18 rfl ⟨Nat.le_of_ble_eq_true rfl, Nat.le_of_ble_eq_true rfl⟩ (c_X1_allCanSit h) (Nat.le_of_ble_eq_true rfl) dX5_odds_65 (fun r11 M12 h => ?_)
      refine r_if_eq hX 74 dX5_odds_68 (by decide) (fun hc => ?_) (fun hc => ?_)
      · have h := h.1 hc
        refine r_iinc (v := x5 + 1) (L' := [some (.ref (adX X 0)), none, some (.int p2), some (.int x3), some (.int x4), some (.int (x5 + 1))]) hX dX5_odds_74 rfl rfl rfl rfl ?_
        refine r_goto hX 45 dX5_odds_77 (by decide) ?_
        refine r_sub [some (.ref (adX X 0)), none, some (.int p2), some (.int x3), some (.int x4), some (.int (x5 + 1))] (And.intro rfl (And.intro rfl (And.intro rfl (And.intro rfl (And.intro rfl trivial))))) ?_
        exact ih _ _ _ _ h
      · have h := h.2 hc
        refine r_iinc (v := x4 + 1) (L' := [some (.ref (adX X 0)), none, some (.int p2), some (.int x3), some (.int (x4 + 1)), some (.int x5)]) hX dX5_odds_71 rfl rfl rfl rfl ?_
        refine r_iinc (v := x5 + 1) (L' := [some (.ref (adX X 0)), none, some (.int p2), some (.int x3), some (.int (x4 + 1)), some (.int (x5 + 1))]) hX dX5_odds_74 rfl rfl rfl rfl ?_
        refine r_goto hX 45 dX5_odds_77 (by decide) ?_
        refine r_sub [some (.ref (adX X 0)), none, some (.int p2), some (.int x3), some (.int (x4 + 1)), some (.int (x5 + 1))] (And.intro rfl (And.intro rfl (And.intro rfl (And.intro rfl (And.intro rfl trivial))))) ?_
        exact ih _ _ _ _ h
def wp_X5_odds (p1 : Int32) (p2 : Int32) (M : Mem) (post : Int64 → Mem → Prop) : Prop := ((p2 < 0 → post (-9223372036854775808) M) ∧ (¬ p2 < 0 → ((1 < p2 → post (-9223372036854775808) M) ∧ (¬ 1 < p2 → (wp_X5_refusalOfDinner p1 M (fun r1 M2 => ((r1 = 0 → (∀ v3 : Int32, v3 = 1 <<< ((M2 5 3) &&& 31) → (wp_X1_recall p1 M2 (fun M5 => (∃ k, lp_X5_odds_45 p1 p2 post k v3 0 0 M5))))) ∧ (¬ r1 = 0 → post (-9223372036854775808) M2))))))))
set_option maxRecDepth 100000 in
theorem wk_X5_odds {X : CT} (p1 : Int32) (p2 : Int32) (hX : okX X RX5 cX5_odds 3 72) {M : Mem} {post : Int64 → Mem → Prop} (hret : ∀ (r : Int64) (M' : Mem), post r M' → RetL X cX5_odds r M') (h : wp_X5_odds p1 p2 M post) : Z X M 0 [some (.ref (adX X 0)), some (.int p1), some (.int p2), none, none, none] [] := by
  unfold wp_X5_odds at h
  refine r_iload_n hX dX5_odds_0 rfl rfl ?_
  refine r_if_lt hX 17 dX5_odds_1 (by decide) (fun hc => ?_) (fun hc => ?_)
  · have h := h.1 hc
    refine r_ldc2 (v := (-9223372036854775808)) hX kw_X5_195 dX5_odds_17 ?_
    exact r_lret (hret _ _ h) dX5_odds_20
  · have h := h.2 hc
    refine r_iload_n hX dX5_odds_4 rfl rfl ?_
    refine r_iconst (v := 1) hX dX5_odds_5 (by decide) ?_
    refine r_icmp_gt hX 17 dX5_odds_6 (by decide) (fun hc => ?_) (fun hc => ?_)
    · have h := h.1 hc
      refine r_ldc2 (v := (-9223372036854775808)) hX kw_X5_195 dX5_odds_17 ?_
      exact r_lret (hret _ _ h) dX5_odds_20
    · have h := h.2 hc
      refine r_aload_n hX dX5_odds_9 rfl rfl ?_
      refine r_iload_n hX dX5_odds_10 rfl rfl ?_
      refine r_cVi1 hX fv_X5_162 ly_0 rfl ⟨Nat.le_of_ble_eq_true rfl, Nat.le_of_ble_eq_true rfl⟩ (c_X5_refusalOfDinner p1 h) (Nat.le_of_ble_eq_true rfl) dX5_odds_11 (fun r1 M2 h => ?_)
      refine r_if_eq hX 21 dX5_odds_14 (by decide) (fun hc => ?_) (fun hc => ?_)
      · have h := h.1 hc
        refine r_iconst (v := 1) hX dX5_odds_21 (by decide) ?_
        refine r_aload_n hX dX5_odds_22 rfl rfl ?_
        refine r_getR hX fg_X5_21 ly_0 rfl dX5_odds_23 ?_
        refine r_getI hX fg_X5_97 ly_5 rfl dX5_odds_26 ?_
        refine r_ishl hX dX5_odds_29 ?_
        refine r_nm (fun v3 ev3 => ?_)
        have h := h v3 ev3
        refine r_istore_n (L' := [some (.ref (adX X 0)), some (.int p1), some (.int p2), some (.int v3), none, none]) hX dX5_odds_30 rfl (Nat.lt_of_ble rfl) rfl rfl ?_
        refine r_iconst (v := 0) hX dX5_odds_31 (by decide) ?_
        refine r_istore (L' := [some (.ref (adX X 0)), some (.int p1), some (.int p2), some (.int v3), some (.int 0), none]) hX dX5_odds_32 (Nat.lt_of_ble rfl) rfl rfl ?_
        refine r_aload_n hX dX5_odds_34 rfl rfl ?_
        refine r_getR hX fg_X5_40 ly_0 rfl dX5_odds_35 ?_
        refine r_iload_n hX dX5_odds_38 rfl rfl ?_
        refine r_cVv1 hX fv_X5_197 ly_18 rfl ⟨Nat.le_of_ble_eq_true rfl, Nat.le_of_ble_eq_true rfl⟩ (c_X1_recall p1 h) (Nat.le_of_ble_eq_true rfl) dX5_odds_39 (fun M5 h => ?_)
        refine r_iconst (v := 0) hX dX5_odds_42 (by decide) ?_
        refine r_istore (L' := [some (.ref (adX X 0)), some (.int p1), some (.int p2), some (.int v3), some (.int 0), some (.int 0)]) hX dX5_odds_43 (Nat.lt_of_ble rfl) rfl rfl ?_
        obtain ⟨n13, h⟩ := h
        refine r_sub [some (.ref (adX X 0)), none, some (.int p2), some (.int v3), some (.int 0), some (.int 0)] (And.intro rfl (And.intro rfl (And.intro rfl (And.intro rfl (And.intro rfl trivial))))) ?_
        exact wl_X5_odds_45 p1 p2 hX hret n13 _ _ _ _ h
      · have h := h.2 hc
        refine r_ldc2 (v := (-9223372036854775808)) hX kw_X5_195 dX5_odds_17 ?_
        exact r_lret (hret _ _ h) dX5_odds_20
set_option maxRecDepth 100000 in
theorem c_X5_odds {l : Launch} {D : va_G} {cs : CS3} {ad : Nat → Nat} (p1 : Int32) (p2 : Int32) {M : Mem} {post : Int64 → Mem → Prop} (h : wp_X5_odds p1 p2 M post) : CtL l D cs ad yX5_odds cX5_odds 6 (some .long) 3 72 [.ref (ad 0), .int p1, .int p2] M post := met_L (k := 3) (fun ad => [.ref (ad 0), .int p1, .int p2]) (fun ad => [some (.ref (ad 0)), some (.int p1), some (.int p2), none, none, none]) (by decide +kernel) (fun _ => Nat.le_of_ble_eq_true rfl) (fun _ => rfl) (fun _ => rfl) (fun X hX hret => wk_X5_odds p1 p2 hX hret h)
def wp_X5_sheet (p1 : Int32) (p2 : Int32) (p3 : Int32) (M : Mem) (post : Int32 → Mem → Prop) : Prop := (∀ M1 : Mem, M1 = up2 M 0 9 0 → (wp_X5_isSheet p1 M1 (fun r2 M3 => ((¬ r2 = 0 → (wp_X5_isLane p2 M3 (fun r4 M5 => ((r4 = 0 → post (-2) M5) ∧ (¬ r4 = 0 → ((p3 ≤ 60 → ((0 ≤ p3 → (vp_in p1 4 ∧ (wp_X4_begin (26 + p1.toNatClampNeg) p2 p3 M5 (fun M8 => post 1 M8)))) ∧ (¬ 0 ≤ p3 → (∀ M9 : Mem, M9 = up2 M5 0 9 4 → (wp_X5_faultAnswer M9 (fun r10 M11 => post r10 M11)))))) ∧ (¬ p3 ≤ 60 → post (-2) M5))))))) ∧ (r2 = 0 → post (-1) M3)))))
set_option maxRecDepth 100000 in
theorem wk_X5_sheet {X : CT} (p1 : Int32) (p2 : Int32) (p3 : Int32) (hX : okX X RX5 cX5_sheet 1 23) {M : Mem} {post : Int32 → Mem → Prop} (hret : ∀ (r : Int32) (M' : Mem), narrow .int (.int r) = .int r → post r M' → RetI X cX5_sheet r M') (h : wp_X5_sheet p1 p2 p3 M post) : Z X M 0 [some (.ref (adX X 0)), some (.int p1), some (.int p2), some (.int p3)] [] := by
  unfold wp_X5_sheet at h
  refine r_aload_n hX dX5_sheet_0 rfl rfl ?_
  refine r_iconst (v := 0) hX dX5_sheet_1 (by decide) ?_
  refine r_putI hX fp_X5_68 ly_0 rfl dX5_sheet_2 ?_
  refine r_nmM (fun M1 eM1 => ?_)
  have h := h M1 eM1
  refine r_iload_n hX dX5_sheet_5 rfl rfl ?_
  refine r_cSi1 hX fs_X5_71 ⟨Nat.le_of_ble_eq_true rfl, Nat.le_of_ble_eq_true rfl⟩ (c_X5_isSheet p1 h) (Nat.le_of_ble_eq_true rfl) dX5_sheet_6 (fun r2 M3 h => ?_)
  refine r_if_ne hX 14 dX5_sheet_9 (by decide) (fun hc => ?_) (fun hc => ?_)
  · have h := h.1 hc
    refine r_iload_n hX dX5_sheet_14 rfl rfl ?_
    refine r_cSi1 hX fs_X5_75 ⟨Nat.le_of_ble_eq_true rfl, Nat.le_of_ble_eq_true rfl⟩ (c_X5_isLane p2 h) (Nat.le_of_ble_eq_true rfl) dX5_sheet_15 (fun r4 M5 h => ?_)
    refine r_if_eq hX 27 dX5_sheet_18 (by decide) (fun hc => ?_) (fun hc => ?_)
    · have h := h.1 hc
      refine r_bipush (v := (-2)) hX dX5_sheet_27 (by decide) ?_
      exact r_iret (hret _ _ rfl h) dX5_sheet_29
    · have h := h.2 hc
      refine r_iload_n hX dX5_sheet_21 rfl rfl ?_
      refine r_bipush (v := 60) hX dX5_sheet_22 (by decide) ?_
      refine r_icmp_le hX 30 dX5_sheet_24 (by decide) (fun hc => ?_) (fun hc => ?_)
      · have h := h.1 hc
        refine r_iload_n hX dX5_sheet_30 rfl rfl ?_
        refine r_if_ge hX 44 dX5_sheet_31 (by decide) (fun hc => ?_) (fun hc => ?_)
        · have h := h.1 hc
          refine r_aload_n hX dX5_sheet_44 rfl rfl ?_
          refine r_getR hX fg_X5_59 ly_0 rfl dX5_sheet_45 ?_
          refine r_iload_n hX dX5_sheet_48 rfl rfl ?_
          have hs6 := isS.of h.1
          refine r_aald hX h.1 dX5_sheet_49 ?_
          have h := h.2
          refine r_iload_n hX dX5_sheet_50 rfl rfl ?_
          refine r_iload_n hX dX5_sheet_51 rfl rfl ?_
          refine r_cVv2 hX fv_X5_203 hs6.l0 rfl ⟨Nat.le_of_ble_eq_true rfl, Nat.le_of_ble_eq_true rfl⟩ (c_X4_begin (26 + p1.toNatClampNeg) p2 p3 hs6 h) (Nat.le_of_ble_eq_true rfl) dX5_sheet_52 (fun M8 h => ?_)
          refine r_iconst (v := 1) hX dX5_sheet_55 (by decide) ?_
          exact r_iret (hret _ _ rfl h) dX5_sheet_56
        · have h := h.2 hc
          refine r_aload_n hX dX5_sheet_34 rfl rfl ?_
          refine r_iconst (v := 4) hX dX5_sheet_35 (by decide) ?_
          refine r_putI hX fp_X5_68 ly_0 rfl dX5_sheet_36 ?_
          refine r_nmM (fun M9 eM9 => ?_)
          have h := h M9 eM9
          refine r_aload_n hX dX5_sheet_39 rfl rfl ?_
          refine r_cVi0 hX fv_X5_82 ly_0 rfl ⟨Nat.le_of_ble_eq_true rfl, Nat.le_of_ble_eq_true rfl⟩ (c_X5_faultAnswer h) (Nat.le_of_ble_eq_true rfl) dX5_sheet_40 (fun r10 M11 h => ?_)
          exact r_iret (hret _ _ rfl h) dX5_sheet_43
      · have h := h.2 hc
        refine r_bipush (v := (-2)) hX dX5_sheet_27 (by decide) ?_
        exact r_iret (hret _ _ rfl h) dX5_sheet_29
  · have h := h.2 hc
    refine r_iconst (v := (-1)) hX dX5_sheet_12 (by decide) ?_
    exact r_iret (hret _ _ rfl h) dX5_sheet_13
set_option maxRecDepth 100000 in
theorem c_X5_sheet {l : Launch} {D : va_G} {cs : CS3} {ad : Nat → Nat} (p1 : Int32) (p2 : Int32) (p3 : Int32) {M : Mem} {post : Int32 → Mem → Prop} (h : wp_X5_sheet p1 p2 p3 M post) : CtI l D cs ad yX5_sheet cX5_sheet 4 (some .int) 1 23 [.ref (ad 0), .int p1, .int p2, .int p3] M post := met_I (k := 0) (fun ad => [.ref (ad 0), .int p1, .int p2, .int p3]) (fun ad => [some (.ref (ad 0)), some (.int p1), some (.int p2), some (.int p3)]) (by decide +kernel) (fun _ => Nat.le_of_ble_eq_true rfl) (fun _ => rfl) (fun _ => rfl) (fun X hX hret => wk_X5_sheet p1 p2 p3 hX hret h)
def wp_X5_lose (p1 : Int32) (M : Mem) (post : Int32 → Mem → Prop) : Prop := (wp_X5_isSheet p1 M (fun r1 M2 => ((¬ r1 = 0 → (vp_in p1 4 ∧ (wp_X4_drop (26 + p1.toNatClampNeg) M2 (fun r4 M5 => ((r4 = 0 → post 0 M5) ∧ (¬ r4 = 0 → post 1 M5)))))) ∧ (r1 = 0 → post (-1) M2))))
set_option maxRecDepth 100000 in
theorem wk_X5_lose {X : CT} (p1 : Int32) (hX : okX X RX5 cX5_lose 2 41) {M : Mem} {post : Int32 → Mem → Prop} (hret : ∀ (r : Int32) (M' : Mem), narrow .int (.int r) = .int r → post r M' → RetI X cX5_lose r M') (h : wp_X5_lose p1 M post) : Z X M 0 [some (.ref (adX X 0)), some (.int p1)] [] := by
  unfold wp_X5_lose at h
  refine r_iload_n hX dX5_lose_0 rfl rfl ?_
  refine r_cSi1 hX fs_X5_71 ⟨Nat.le_of_ble_eq_true rfl, Nat.le_of_ble_eq_true rfl⟩ (c_X5_isSheet p1 h) (Nat.le_of_ble_eq_true rfl) dX5_lose_1 (fun r1 M2 h => ?_)
  refine r_if_ne hX 9 dX5_lose_4 (by decide) (fun hc => ?_) (fun hc => ?_)
  · have h := h.1 hc
    refine r_aload_n hX dX5_lose_9 rfl rfl ?_
    refine r_getR hX fg_X5_59 ly_0 rfl dX5_lose_10 ?_
    refine r_iload_n hX dX5_lose_13 rfl rfl ?_
    have hs3 := isS.of h.1
    refine r_aald hX h.1 dX5_lose_14 ?_
    have h := h.2
    refine r_cVi0 hX fv_X5_206 hs3.l0 rfl ⟨Nat.le_of_ble_eq_true rfl, Nat.le_of_ble_eq_true rfl⟩ (c_X4_drop (26 + p1.toNatClampNeg) hs3 h) (Nat.le_of_ble_eq_true rfl) dX5_lose_15 (fun r4 M5 h => ?_)
    refine r_if_eq hX 25 dX5_lose_18 (by decide) (fun hc => ?_) (fun hc => ?_)
    · have h := h.1 hc
      refine r_iconst (v := 0) hX dX5_lose_25 (by decide) ?_
      exact r_iret (hret _ _ rfl h) dX5_lose_26
    · have h := h.2 hc
      refine r_iconst (v := 1) hX dX5_lose_21 (by decide) ?_
      refine r_goto hX 26 dX5_lose_22 (by decide) ?_
      exact r_iret (hret _ _ rfl h) dX5_lose_26
  · have h := h.2 hc
    refine r_iconst (v := (-1)) hX dX5_lose_7 (by decide) ?_
    exact r_iret (hret _ _ rfl h) dX5_lose_8
set_option maxRecDepth 100000 in
theorem c_X5_lose {l : Launch} {D : va_G} {cs : CS3} {ad : Nat → Nat} (p1 : Int32) {M : Mem} {post : Int32 → Mem → Prop} (h : wp_X5_lose p1 M post) : CtI l D cs ad yX5_lose cX5_lose 2 (some .int) 2 41 [.ref (ad 0), .int p1] M post := met_I (k := 0) (fun ad => [.ref (ad 0), .int p1]) (fun ad => [some (.ref (ad 0)), some (.int p1)]) (by decide +kernel) (fun _ => Nat.le_of_ble_eq_true rfl) (fun _ => rfl) (fun _ => rfl) (fun X hX hret => wk_X5_lose p1 hX hret h)
def wp_X5_put (p1 : Int32) (p2 : Int32) (p3 : Int32) (M : Mem) (post : Int32 → Mem → Prop) : Prop := (∀ M1 : Mem, M1 = up2 M 0 9 0 → (wp_X5_isSheet p1 M1 (fun r2 M3 => ((¬ r2 = 0 → (vp_in p1 4 ∧ (wp_X4_faultOfPlace (26 + p1.toNatClampNeg) p2 M3 (fun r5 M6 => (∀ M7 : Mem, M7 = up2 M6 0 9 r5 → (((M7 0 9) = 0 → (vp_in p1 4 ∧ (wp_X4_write (26 + p1.toNatClampNeg) p2 p3 M7 (fun M10 => post 1 M10)))) ∧ (¬ (M7 0 9) = 0 → (wp_X5_faultAnswer M7 (fun r11 M12 => post r11 M12))))))))) ∧ (r2 = 0 → post (-1) M3)))))
set_option maxRecDepth 100000 in
theorem wk_X5_put {X : CT} (p1 : Int32) (p2 : Int32) (p3 : Int32) (hX : okX X RX5 cX5_put 2 43) {M : Mem} {post : Int32 → Mem → Prop} (hret : ∀ (r : Int32) (M' : Mem), narrow .int (.int r) = .int r → post r M' → RetI X cX5_put r M') (h : wp_X5_put p1 p2 p3 M post) : Z X M 0 [some (.ref (adX X 0)), some (.int p1), some (.int p2), some (.int p3)] [] := by
  unfold wp_X5_put at h
  refine r_aload_n hX dX5_put_0 rfl rfl ?_
  refine r_iconst (v := 0) hX dX5_put_1 (by decide) ?_
  refine r_putI hX fp_X5_68 ly_0 rfl dX5_put_2 ?_
  refine r_nmM (fun M1 eM1 => ?_)
  have h := h M1 eM1
  refine r_iload_n hX dX5_put_5 rfl rfl ?_
  refine r_cSi1 hX fs_X5_71 ⟨Nat.le_of_ble_eq_true rfl, Nat.le_of_ble_eq_true rfl⟩ (c_X5_isSheet p1 h) (Nat.le_of_ble_eq_true rfl) dX5_put_6 (fun r2 M3 h => ?_)
  refine r_if_ne hX 14 dX5_put_9 (by decide) (fun hc => ?_) (fun hc => ?_)
  · have h := h.1 hc
    refine r_aload_n hX dX5_put_14 rfl rfl ?_
    refine r_aload_n hX dX5_put_15 rfl rfl ?_
    refine r_getR hX fg_X5_59 ly_0 rfl dX5_put_16 ?_
    refine r_iload_n hX dX5_put_19 rfl rfl ?_
    have hs4 := isS.of h.1
    refine r_aald hX h.1 dX5_put_20 ?_
    have h := h.2
    refine r_iload_n hX dX5_put_21 rfl rfl ?_
    refine r_cVi1 hX fv_X5_209 hs4.l0 rfl ⟨Nat.le_of_ble_eq_true rfl, Nat.le_of_ble_eq_true rfl⟩ (c_X4_faultOfPlace (26 + p1.toNatClampNeg) p2 hs4 h) (Nat.le_of_ble_eq_true rfl) dX5_put_22 (fun r5 M6 h => ?_)
    refine r_putI hX fp_X5_68 ly_0 rfl dX5_put_25 ?_
    refine r_nmM (fun M7 eM7 => ?_)
    have h := h M7 eM7
    refine r_aload_n hX dX5_put_28 rfl rfl ?_
    refine r_getI hX fg_X5_68 ly_0 rfl dX5_put_29 ?_
    refine r_if_eq hX 40 dX5_put_32 (by decide) (fun hc => ?_) (fun hc => ?_)
    · have h := h.1 hc
      refine r_aload_n hX dX5_put_40 rfl rfl ?_
      refine r_getR hX fg_X5_59 ly_0 rfl dX5_put_41 ?_
      refine r_iload_n hX dX5_put_44 rfl rfl ?_
      have hs8 := isS.of h.1
      refine r_aald hX h.1 dX5_put_45 ?_
      have h := h.2
      refine r_iload_n hX dX5_put_46 rfl rfl ?_
      refine r_iload_n hX dX5_put_47 rfl rfl ?_
      refine r_cVv2 hX fv_X5_212 hs8.l0 rfl ⟨Nat.le_of_ble_eq_true rfl, Nat.le_of_ble_eq_true rfl⟩ (c_X4_write (26 + p1.toNatClampNeg) p2 p3 hs8 h) (Nat.le_of_ble_eq_true rfl) dX5_put_48 (fun M10 h => ?_)
      refine r_iconst (v := 1) hX dX5_put_51 (by decide) ?_
      exact r_iret (hret _ _ rfl h) dX5_put_52
    · have h := h.2 hc
      refine r_aload_n hX dX5_put_35 rfl rfl ?_
      refine r_cVi0 hX fv_X5_82 ly_0 rfl ⟨Nat.le_of_ble_eq_true rfl, Nat.le_of_ble_eq_true rfl⟩ (c_X5_faultAnswer h) (Nat.le_of_ble_eq_true rfl) dX5_put_36 (fun r11 M12 h => ?_)
      exact r_iret (hret _ _ rfl h) dX5_put_39
  · have h := h.2 hc
    refine r_iconst (v := (-1)) hX dX5_put_12 (by decide) ?_
    exact r_iret (hret _ _ rfl h) dX5_put_13
set_option maxRecDepth 100000 in
theorem c_X5_put {l : Launch} {D : va_G} {cs : CS3} {ad : Nat → Nat} (p1 : Int32) (p2 : Int32) (p3 : Int32) {M : Mem} {post : Int32 → Mem → Prop} (h : wp_X5_put p1 p2 p3 M post) : CtI l D cs ad yX5_put cX5_put 4 (some .int) 2 43 [.ref (ad 0), .int p1, .int p2, .int p3] M post := met_I (k := 0) (fun ad => [.ref (ad 0), .int p1, .int p2, .int p3]) (fun ad => [some (.ref (ad 0)), some (.int p1), some (.int p2), some (.int p3)]) (by decide +kernel) (fun _ => Nat.le_of_ble_eq_true rfl) (fun _ => rfl) (fun _ => rfl) (fun X hX hret => wk_X5_put p1 p2 p3 hX hret h)
def jn_X5_cell_58 (p1 : Int32) (p2 : Int32) (p3 : Int32) (post : Int64 → Mem → Prop) (M : Mem) : Prop := ((¬ (M 0 9) = 0 → post (-9223372036854775808) M) ∧ ((M 0 9) = 0 → (vp_in p1 4 ∧ (vp_in p2 60 ∧ post ((M ((26 + p1.toNatClampNeg) + 4) p2.toNatClampNeg).toInt64) M))))
set_option maxRecDepth 100000 in
theorem wj_X5_cell_58 {X : CT} (p1 : Int32) (p2 : Int32) (p3 : Int32) (hX : okX X RX5 cX5_cell 2 41) {post : Int64 → Mem → Prop} (hret : ∀ (r : Int64) (M' : Mem), post r M' → RetL X cX5_cell r M') (M : Mem) (h : jn_X5_cell_58 p1 p2 p3 post M) : Z X M 58 [some (.ref (adX X 0)), some (.int p1), some (.int p2), none] [] := by
  unfold jn_X5_cell_58 at h
  refine r_aload_n hX dX5_cell_58 rfl rfl ?_
  refine r_getI hX fg_X5_68 ly_0 rfl dX5_cell_59 ?_
  refine r_if_ne hX 80 dX5_cell_62 (by decide) (fun hc => ?_) (fun hc => ?_)
  · have h := h.1 hc
    refine r_ldc2 (v := (-9223372036854775808)) hX kw_X5_195 dX5_cell_80 ?_
    exact r_lret (hret _ _ h) dX5_cell_83
  · have h := h.2 hc
    refine r_aload_n hX dX5_cell_65 rfl rfl ?_
    refine r_getR hX fg_X5_59 ly_0 rfl dX5_cell_66 ?_
    refine r_iload_n hX dX5_cell_69 rfl rfl ?_
    have hs10 := isS.of h.1
    refine r_aald hX h.1 dX5_cell_70 ?_
    have h := h.2
    refine r_getR hX fg_X5_86 hs10.l0 rfl dX5_cell_71 ?_
    refine r_iload_n hX dX5_cell_74 rfl rfl ?_
    refine r_iald hX hs10.l4 h.1 dX5_cell_75 ?_
    have h := h.2
    refine r_i2l hX dX5_cell_76 ?_
    refine r_goto hX 83 dX5_cell_77 (by decide) ?_
    exact r_lret (hret _ _ h) dX5_cell_83
def wp_X5_cell (p1 : Int32) (p2 : Int32) (p3 : Int32) (M : Mem) (post : Int64 → Mem → Prop) : Prop := (∀ M1 : Mem, M1 = up2 M 0 9 0 → (wp_X5_isSheet p1 M1 (fun r2 M3 => ((r2 = 0 → post (-9223372036854775808) M3) ∧ (¬ r2 = 0 → (wp_X5_isLane p3 M3 (fun r4 M5 => ((¬ r4 = 0 → (vp_in p1 4 ∧ (wp_X4_faultOfLane (26 + p1.toNatClampNeg) p3 M5 (fun r7 M8 => (∀ M9 : Mem, M9 = up2 M8 0 9 r7 → ((¬ (M9 0 9) = 0 → jn_X5_cell_58 p1 p2 p3 post M9) ∧ ((M9 0 9) = 0 → (vp_in p1 4 ∧ (wp_X4_faultOfPlace (26 + p1.toNatClampNeg) p2 M9 (fun r12 M13 => (∀ M14 : Mem, M14 = up2 M13 0 9 r12 → jn_X5_cell_58 p1 p2 p3 post M14))))))))))) ∧ (r4 = 0 → post (-9223372036854775808) M5)))))))))
set_option maxRecDepth 100000 in
theorem wk_X5_cell {X : CT} (p1 : Int32) (p2 : Int32) (p3 : Int32) (hX : okX X RX5 cX5_cell 2 41) {M : Mem} {post : Int64 → Mem → Prop} (hret : ∀ (r : Int64) (M' : Mem), post r M' → RetL X cX5_cell r M') (h : wp_X5_cell p1 p2 p3 M post) : Z X M 0 [some (.ref (adX X 0)), some (.int p1), some (.int p2), some (.int p3)] [] := by
  unfold wp_X5_cell at h
  refine r_aload_n hX dX5_cell_0 rfl rfl ?_
  refine r_iconst (v := 0) hX dX5_cell_1 (by decide) ?_
  refine r_putI hX fp_X5_68 ly_0 rfl dX5_cell_2 ?_
  refine r_nmM (fun M1 eM1 => ?_)
  have h := h M1 eM1
  refine r_iload_n hX dX5_cell_5 rfl rfl ?_
  refine r_cSi1 hX fs_X5_71 ⟨Nat.le_of_ble_eq_true rfl, Nat.le_of_ble_eq_true rfl⟩ (c_X5_isSheet p1 h) (Nat.le_of_ble_eq_true rfl) dX5_cell_6 (fun r2 M3 h => ?_)
  refine r_if_eq hX 19 dX5_cell_9 (by decide) (fun hc => ?_) (fun hc => ?_)
  · have h := h.1 hc
    refine r_ldc2 (v := (-9223372036854775808)) hX kw_X5_195 dX5_cell_19 ?_
    exact r_lret (hret _ _ h) dX5_cell_22
  · have h := h.2 hc
    refine r_iload_n hX dX5_cell_12 rfl rfl ?_
    refine r_cSi1 hX fs_X5_75 ⟨Nat.le_of_ble_eq_true rfl, Nat.le_of_ble_eq_true rfl⟩ (c_X5_isLane p3 h) (Nat.le_of_ble_eq_true rfl) dX5_cell_13 (fun r4 M5 h => ?_)
    refine r_if_ne hX 23 dX5_cell_16 (by decide) (fun hc => ?_) (fun hc => ?_)
    · have h := h.1 hc
      refine r_aload_n hX dX5_cell_23 rfl rfl ?_
      refine r_aload_n hX dX5_cell_24 rfl rfl ?_
      refine r_getR hX fg_X5_59 ly_0 rfl dX5_cell_25 ?_
      refine r_iload_n hX dX5_cell_28 rfl rfl ?_
      have hs6 := isS.of h.1
      refine r_aald hX h.1 dX5_cell_29 ?_
      have h := h.2
      refine r_iload_n hX dX5_cell_30 rfl rfl ?_
      refine r_cVi1 hX fv_X5_215 hs6.l0 rfl ⟨Nat.le_of_ble_eq_true rfl, Nat.le_of_ble_eq_true rfl⟩ (c_X4_faultOfLane (26 + p1.toNatClampNeg) p3 hs6 h) (Nat.le_of_ble_eq_true rfl) dX5_cell_31 (fun r7 M8 h => ?_)
      refine r_putI hX fp_X5_68 ly_0 rfl dX5_cell_34 ?_
      refine r_nmM (fun M9 eM9 => ?_)
      have h := h M9 eM9
      refine r_aload_n hX dX5_cell_37 rfl rfl ?_
      refine r_getI hX fg_X5_68 ly_0 rfl dX5_cell_38 ?_
      refine r_if_ne hX 58 dX5_cell_41 (by decide) (fun hc => ?_) (fun hc => ?_)
      · have h := h.1 hc
        refine r_sub [some (.ref (adX X 0)), some (.int p1), some (.int p2), none] (And.intro rfl (And.intro rfl (And.intro rfl trivial))) ?_
        exact wj_X5_cell_58 p1 p2 p3 hX hret _ h
      · have h := h.2 hc
        refine r_aload_n hX dX5_cell_44 rfl rfl ?_
        refine r_aload_n hX dX5_cell_45 rfl rfl ?_
        refine r_getR hX fg_X5_59 ly_0 rfl dX5_cell_46 ?_
        refine r_iload_n hX dX5_cell_49 rfl rfl ?_
        have hs11 := isS.of h.1
        refine r_aald hX h.1 dX5_cell_50 ?_
        have h := h.2
        refine r_iload_n hX dX5_cell_51 rfl rfl ?_
        refine r_cVi1 hX fv_X5_209 hs11.l0 rfl ⟨Nat.le_of_ble_eq_true rfl, Nat.le_of_ble_eq_true rfl⟩ (c_X4_faultOfPlace (26 + p1.toNatClampNeg) p2 hs11 h) (Nat.le_of_ble_eq_true rfl) dX5_cell_52 (fun r12 M13 h => ?_)
        refine r_putI hX fp_X5_68 ly_0 rfl dX5_cell_55 ?_
        refine r_nmM (fun M14 eM14 => ?_)
        have h := h M14 eM14
        refine r_sub [some (.ref (adX X 0)), some (.int p1), some (.int p2), none] (And.intro rfl (And.intro rfl (And.intro rfl trivial))) ?_
        exact wj_X5_cell_58 p1 p2 p3 hX hret _ h
    · have h := h.2 hc
      refine r_ldc2 (v := (-9223372036854775808)) hX kw_X5_195 dX5_cell_19 ?_
      exact r_lret (hret _ _ h) dX5_cell_22
set_option maxRecDepth 100000 in
theorem c_X5_cell {l : Launch} {D : va_G} {cs : CS3} {ad : Nat → Nat} (p1 : Int32) (p2 : Int32) (p3 : Int32) {M : Mem} {post : Int64 → Mem → Prop} (h : wp_X5_cell p1 p2 p3 M post) : CtL l D cs ad yX5_cell cX5_cell 4 (some .long) 2 41 [.ref (ad 0), .int p1, .int p2, .int p3] M post := met_L (k := 0) (fun ad => [.ref (ad 0), .int p1, .int p2, .int p3]) (fun ad => [some (.ref (ad 0)), some (.int p1), some (.int p2), some (.int p3)]) (by decide +kernel) (fun _ => Nat.le_of_ble_eq_true rfl) (fun _ => rfl) (fun _ => rfl) (fun X hX hret => wk_X5_cell p1 p2 p3 hX hret h)
def wp_X5_faultOfCopy (c0 : Nat) (p1 : Int32) (c2 : Nat) (p3 : Int32) (p4 : Int32) (M : Mem) (post : Int32 → Mem → Prop) : Prop := (wp_X4_isEmpty c0 M (fun r1 M2 => ((¬ r1 = 0 → post 1 M2) ∧ (r1 = 0 → (wp_X4_isEmpty c2 M2 (fun r3 M4 => ((r3 = 0 → (((M4 c0 1) = (M4 c2 1) → (wp_X4_reaches c0 p1 p4 M4 (fun r5 M6 => ((r5 = 0 → post 3 M6) ∧ (¬ r5 = 0 → (wp_X4_reaches c2 p3 p4 M6 (fun r7 M8 => ((r7 = 0 → post 3 M8) ∧ (¬ r7 = 0 → post 0 M8))))))))) ∧ (¬ (M4 c0 1) = (M4 c2 1) → post 2 M4))) ∧ (¬ r3 = 0 → post 1 M4))))))))
set_option maxRecDepth 100000 in
theorem wk_X5_faultOfCopy {X : CT} (c0 : Nat) (p1 : Int32) (c2 : Nat) (p3 : Int32) (p4 : Int32) (hc0 : isS c0) (hc2 : isS c2) (hX : okX X RX5 cX5_faultOfCopy 1 22) {M : Mem} {post : Int32 → Mem → Prop} (hret : ∀ (r : Int32) (M' : Mem), narrow .int (.int r) = .int r → post r M' → RetI X cX5_faultOfCopy r M') (h : wp_X5_faultOfCopy c0 p1 c2 p3 p4 M post) : Z X M 0 [some (.ref (adX X c0)), some (.int p1), some (.ref (adX X c2)), some (.int p3), some (.int p4)] [] := by
  unfold wp_X5_faultOfCopy at h
  refine r_aload_n hX dX5_faultOfCopy_0 rfl rfl ?_
  refine r_cVi0 hX fv_X5_228 hc0.l0 rfl ⟨Nat.le_of_ble_eq_true rfl, Nat.le_of_ble_eq_true rfl⟩ (c_X4_isEmpty c0 hc0 h) (Nat.le_of_ble_eq_true rfl) dX5_faultOfCopy_1 (fun r1 M2 h => ?_)
  refine r_if_ne hX 14 dX5_faultOfCopy_4 (by decide) (fun hc => ?_) (fun hc => ?_)
  · have h := h.1 hc
    refine r_iconst (v := 1) hX dX5_faultOfCopy_14 (by decide) ?_
    exact r_iret (hret _ _ rfl h) dX5_faultOfCopy_15
  · have h := h.2 hc
    refine r_aload_n hX dX5_faultOfCopy_7 rfl rfl ?_
    refine r_cVi0 hX fv_X5_228 hc2.l0 rfl ⟨Nat.le_of_ble_eq_true rfl, Nat.le_of_ble_eq_true rfl⟩ (c_X4_isEmpty c2 hc2 h) (Nat.le_of_ble_eq_true rfl) dX5_faultOfCopy_8 (fun r3 M4 h => ?_)
    refine r_if_eq hX 16 dX5_faultOfCopy_11 (by decide) (fun hc => ?_) (fun hc => ?_)
    · have h := h.1 hc
      refine r_aload_n hX dX5_faultOfCopy_16 rfl rfl ?_
      refine r_getI hX fg_X5_231 hc0.l0 rfl dX5_faultOfCopy_17 ?_
      refine r_aload_n hX dX5_faultOfCopy_20 rfl rfl ?_
      refine r_getI hX fg_X5_231 hc2.l0 rfl dX5_faultOfCopy_21 ?_
      refine r_icmp_eq hX 29 dX5_faultOfCopy_24 (by decide) (fun hc => ?_) (fun hc => ?_)
      · have h := h.1 hc
        refine r_aload_n hX dX5_faultOfCopy_29 rfl rfl ?_
        refine r_iload_n hX dX5_faultOfCopy_30 rfl rfl ?_
        refine r_iload hX dX5_faultOfCopy_31 rfl ?_
        refine r_cVi2 hX fv_X5_234 hc0.l0 rfl ⟨Nat.le_of_ble_eq_true rfl, Nat.le_of_ble_eq_true rfl⟩ (c_X4_reaches c0 p1 p4 hc0 h) (Nat.le_of_ble_eq_true rfl) dX5_faultOfCopy_33 (fun r5 M6 h => ?_)
        refine r_if_eq hX 53 dX5_faultOfCopy_36 (by decide) (fun hc => ?_) (fun hc => ?_)
        · have h := h.1 hc
          refine r_iconst (v := 3) hX dX5_faultOfCopy_53 (by decide) ?_
          exact r_iret (hret _ _ rfl h) dX5_faultOfCopy_54
        · have h := h.2 hc
          refine r_aload_n hX dX5_faultOfCopy_39 rfl rfl ?_
          refine r_iload_n hX dX5_faultOfCopy_40 rfl rfl ?_
          refine r_iload hX dX5_faultOfCopy_41 rfl ?_
          refine r_cVi2 hX fv_X5_234 hc2.l0 rfl ⟨Nat.le_of_ble_eq_true rfl, Nat.le_of_ble_eq_true rfl⟩ (c_X4_reaches c2 p3 p4 hc2 h) (Nat.le_of_ble_eq_true rfl) dX5_faultOfCopy_43 (fun r7 M8 h => ?_)
          refine r_if_eq hX 53 dX5_faultOfCopy_46 (by decide) (fun hc => ?_) (fun hc => ?_)
          · have h := h.1 hc
            refine r_iconst (v := 3) hX dX5_faultOfCopy_53 (by decide) ?_
            exact r_iret (hret _ _ rfl h) dX5_faultOfCopy_54
          · have h := h.2 hc
            refine r_iconst (v := 0) hX dX5_faultOfCopy_49 (by decide) ?_
            refine r_goto hX 54 dX5_faultOfCopy_50 (by decide) ?_
            exact r_iret (hret _ _ rfl h) dX5_faultOfCopy_54
      · have h := h.2 hc
        refine r_iconst (v := 2) hX dX5_faultOfCopy_27 (by decide) ?_
        exact r_iret (hret _ _ rfl h) dX5_faultOfCopy_28
    · have h := h.2 hc
      refine r_iconst (v := 1) hX dX5_faultOfCopy_14 (by decide) ?_
      exact r_iret (hret _ _ rfl h) dX5_faultOfCopy_15
set_option maxRecDepth 100000 in
theorem c_X5_faultOfCopy {l : Launch} {D : va_G} {cs : CS3} {ad : Nat → Nat} (c0 : Nat) (p1 : Int32) (c2 : Nat) (p3 : Int32) (p4 : Int32) (hc0 : isS c0) (hc2 : isS c2) {M : Mem} {post : Int32 → Mem → Prop} (h : wp_X5_faultOfCopy c0 p1 c2 p3 p4 M post) : CtI l D cs ad yX5_faultOfCopy cX5_faultOfCopy 5 (some .int) 1 22 [.ref (ad c0), .int p1, .ref (ad c2), .int p3, .int p4] M post := met_I (k := 0) (fun ad => [.ref (ad c0), .int p1, .ref (ad c2), .int p3, .int p4]) (fun ad => [some (.ref (ad c0)), some (.int p1), some (.ref (ad c2)), some (.int p3), some (.int p4)]) (by decide +kernel) (fun _ => Nat.le_of_ble_eq_true rfl) (fun _ => rfl) (fun _ => rfl) (fun X hX hret => wk_X5_faultOfCopy c0 p1 c2 p3 p4 hc0 hc2 hX hret h)
def wp_X5_copy (p1 : Int32) (p2 : Int32) (p3 : Int32) (p4 : Int32) (p5 : Int32) (M : Mem) (post : Int32 → Mem → Prop) : Prop := (∀ M1 : Mem, M1 = up2 M 0 9 0 → (wp_X5_isSheet p1 M1 (fun r2 M3 => ((r2 = 0 → post (-1) M3) ∧ (¬ r2 = 0 → (wp_X5_isSheet p3 M3 (fun r4 M5 => ((¬ r4 = 0 → (vp_in p1 4 ∧ (vp_in p3 4 ∧ (wp_X5_faultOfCopy (26 + p1.toNatClampNeg) p2 (26 + p3.toNatClampNeg) p4 p5 M5 (fun r8 M9 => (∀ M10 : Mem, M10 = up2 M9 0 9 r8 → (((M10 0 9) = 0 → (vp_in p1 4 ∧ (vp_in p3 4 ∧ (¬ p2 < 0 ∧ ¬ p4 < 0 ∧ ¬ p5 < 0 ∧ p2.toNatClampNeg + p5.toNatClampNeg ≤ 60 ∧ p4.toNatClampNeg + p5.toNatClampNeg ≤ 60 ∧ ∀ M13 : Mem, M13 = upA M10 ((26 + p3.toNatClampNeg) + 4) (va_cpy (M10 ((26 + p1.toNatClampNeg) + 4)) (M10 ((26 + p3.toNatClampNeg) + 4)) p2.toNatClampNeg p4.toNatClampNeg p5.toNatClampNeg) → post p5 M13)))) ∧ (¬ (M10 0 9) = 0 → (wp_X5_faultAnswer M10 (fun r14 M15 => post r14 M15)))))))))) ∧ (r4 = 0 → post (-1) M5)))))))))
set_option maxRecDepth 100000 in
theorem wk_X5_copy {X : CT} (p1 : Int32) (p2 : Int32) (p3 : Int32) (p4 : Int32) (p5 : Int32) (hX : okX X RX5 cX5_copy 2 46) {M : Mem} {post : Int32 → Mem → Prop} (hret : ∀ (r : Int32) (M' : Mem), narrow .int (.int r) = .int r → post r M' → RetI X cX5_copy r M') (h : wp_X5_copy p1 p2 p3 p4 p5 M post) : Z X M 0 [some (.ref (adX X 0)), some (.int p1), some (.int p2), some (.int p3), some (.int p4), some (.int p5)] [] := by
  unfold wp_X5_copy at h
  refine r_aload_n hX dX5_copy_0 rfl rfl ?_
  refine r_iconst (v := 0) hX dX5_copy_1 (by decide) ?_
  refine r_putI hX fp_X5_68 ly_0 rfl dX5_copy_2 ?_
  refine r_nmM (fun M1 eM1 => ?_)
  have h := h M1 eM1
  refine r_iload_n hX dX5_copy_5 rfl rfl ?_
  refine r_cSi1 hX fs_X5_71 ⟨Nat.le_of_ble_eq_true rfl, Nat.le_of_ble_eq_true rfl⟩ (c_X5_isSheet p1 h) (Nat.le_of_ble_eq_true rfl) dX5_copy_6 (fun r2 M3 h => ?_)
  refine r_if_eq hX 19 dX5_copy_9 (by decide) (fun hc => ?_) (fun hc => ?_)
  · have h := h.1 hc
    refine r_iconst (v := (-1)) hX dX5_copy_19 (by decide) ?_
    exact r_iret (hret _ _ rfl h) dX5_copy_20
  · have h := h.2 hc
    refine r_iload_n hX dX5_copy_12 rfl rfl ?_
    refine r_cSi1 hX fs_X5_71 ⟨Nat.le_of_ble_eq_true rfl, Nat.le_of_ble_eq_true rfl⟩ (c_X5_isSheet p3 h) (Nat.le_of_ble_eq_true rfl) dX5_copy_13 (fun r4 M5 h => ?_)
    refine r_if_ne hX 21 dX5_copy_16 (by decide) (fun hc => ?_) (fun hc => ?_)
    · have h := h.1 hc
      refine r_aload_n hX dX5_copy_21 rfl rfl ?_
      refine r_aload_n hX dX5_copy_22 rfl rfl ?_
      refine r_getR hX fg_X5_59 ly_0 rfl dX5_copy_23 ?_
      refine r_iload_n hX dX5_copy_26 rfl rfl ?_
      have hs6 := isS.of h.1
      refine r_aald hX h.1 dX5_copy_27 ?_
      have h := h.2
      refine r_iload_n hX dX5_copy_28 rfl rfl ?_
      refine r_aload_n hX dX5_copy_29 rfl rfl ?_
      refine r_getR hX fg_X5_59 ly_0 rfl dX5_copy_30 ?_
      refine r_iload_n hX dX5_copy_33 rfl rfl ?_
      have hs7 := isS.of h.1
      refine r_aald hX h.1 dX5_copy_34 ?_
      have h := h.2
      refine r_iload hX dX5_copy_35 rfl ?_
      refine r_iload hX dX5_copy_37 rfl ?_
      refine r_cSi5 hX fs_X5_218 ⟨Nat.le_of_ble_eq_true rfl, Nat.le_of_ble_eq_true rfl⟩ (c_X5_faultOfCopy (26 + p1.toNatClampNeg) p2 (26 + p3.toNatClampNeg) p4 p5 hs6 hs7 h) (Nat.le_of_ble_eq_true rfl) dX5_copy_39 (fun r8 M9 h => ?_)
      refine r_putI hX fp_X5_68 ly_0 rfl dX5_copy_42 ?_
      refine r_nmM (fun M10 eM10 => ?_)
      have h := h M10 eM10
      refine r_aload_n hX dX5_copy_45 rfl rfl ?_
      refine r_getI hX fg_X5_68 ly_0 rfl dX5_copy_46 ?_
      refine r_if_eq hX 57 dX5_copy_49 (by decide) (fun hc => ?_) (fun hc => ?_)
      · have h := h.1 hc
        refine r_aload_n hX dX5_copy_57 rfl rfl ?_
        refine r_getR hX fg_X5_59 ly_0 rfl dX5_copy_58 ?_
        refine r_iload_n hX dX5_copy_61 rfl rfl ?_
        have hs11 := isS.of h.1
        refine r_aald hX h.1 dX5_copy_62 ?_
        have h := h.2
        refine r_getR hX fg_X5_86 hs11.l0 rfl dX5_copy_63 ?_
        refine r_iload_n hX dX5_copy_66 rfl rfl ?_
        refine r_aload_n hX dX5_copy_67 rfl rfl ?_
        refine r_getR hX fg_X5_59 ly_0 rfl dX5_copy_68 ?_
        refine r_iload_n hX dX5_copy_71 rfl rfl ?_
        have hs12 := isS.of h.1
        refine r_aald hX h.1 dX5_copy_72 ?_
        have h := h.2
        refine r_getR hX fg_X5_86 hs12.l0 rfl dX5_copy_73 ?_
        refine r_iload hX dX5_copy_76 rfl ?_
        refine r_iload hX dX5_copy_78 rfl ?_
        refine r_copy hX hs11.l4 hs12.l4 kw_copy_X5_222 h.1 h.2.1 h.2.2.1 h.2.2.2.1 h.2.2.2.2.1 (Nat.le_of_ble_eq_true rfl) (Nat.le_of_ble_eq_true rfl) dX5_copy_80 ?_
        refine r_nmM (fun M13 eM13 => ?_)
        have h := h.2.2.2.2.2 M13 eM13
        refine r_iload hX dX5_copy_83 rfl ?_
        exact r_iret (hret _ _ rfl h) dX5_copy_85
      · have h := h.2 hc
        refine r_aload_n hX dX5_copy_52 rfl rfl ?_
        refine r_cVi0 hX fv_X5_82 ly_0 rfl ⟨Nat.le_of_ble_eq_true rfl, Nat.le_of_ble_eq_true rfl⟩ (c_X5_faultAnswer h) (Nat.le_of_ble_eq_true rfl) dX5_copy_53 (fun r14 M15 h => ?_)
        exact r_iret (hret _ _ rfl h) dX5_copy_56
    · have h := h.2 hc
      refine r_iconst (v := (-1)) hX dX5_copy_19 (by decide) ?_
      exact r_iret (hret _ _ rfl h) dX5_copy_20
set_option maxRecDepth 100000 in
theorem c_X5_copy {l : Launch} {D : va_G} {cs : CS3} {ad : Nat → Nat} (p1 : Int32) (p2 : Int32) (p3 : Int32) (p4 : Int32) (p5 : Int32) {M : Mem} {post : Int32 → Mem → Prop} (h : wp_X5_copy p1 p2 p3 p4 p5 M post) : CtI l D cs ad yX5_copy cX5_copy 6 (some .int) 2 46 [.ref (ad 0), .int p1, .int p2, .int p3, .int p4, .int p5] M post := met_I (k := 0) (fun ad => [.ref (ad 0), .int p1, .int p2, .int p3, .int p4, .int p5]) (fun ad => [some (.ref (ad 0)), some (.int p1), some (.int p2), some (.int p3), some (.int p4), some (.int p5)]) (by decide +kernel) (fun _ => Nat.le_of_ble_eq_true rfl) (fun _ => rfl) (fun _ => rfl) (fun X hX hret => wk_X5_copy p1 p2 p3 p4 p5 hX hret h)
def wp_X5_leaveTrace (p1 : Int32) (M : Mem) (post : Mem → Prop) : Prop := (∀ M1 : Mem, M1 = up2 M 0 8 ((31 * (M 0 8)) + p1) → post M1)
set_option maxRecDepth 100000 in
theorem wk_X5_leaveTrace {X : CT} (p1 : Int32) (hX : okX X RX5 cX5_leaveTrace 0 0) {M : Mem} {post : Mem → Prop} (hret : ∀ (M' : Mem), post M' → RetV X cX5_leaveTrace M') (h : wp_X5_leaveTrace p1 M post) : Z X M 0 [some (.ref (adX X 0)), some (.int p1)] [] := by
  unfold wp_X5_leaveTrace at h
  refine r_aload_n hX dX5_leaveTrace_0 rfl rfl ?_
  refine r_bipush (v := 31) hX dX5_leaveTrace_1 (by decide) ?_
  refine r_aload_n hX dX5_leaveTrace_3 rfl rfl ?_
  refine r_getI hX fg_X5_64 ly_0 rfl dX5_leaveTrace_4 ?_
  refine r_imul hX dX5_leaveTrace_7 ?_
  refine r_iload_n hX dX5_leaveTrace_8 rfl rfl ?_
  refine r_iadd hX dX5_leaveTrace_9 ?_
  refine r_putI hX fp_X5_64 ly_0 rfl dX5_leaveTrace_10 ?_
  refine r_nmM (fun M1 eM1 => ?_)
  have h := h M1 eM1
  exact r_vret (hret _ h) dX5_leaveTrace_13
set_option maxRecDepth 100000 in
theorem c_X5_leaveTrace {l : Launch} {D : va_G} {cs : CS3} {ad : Nat → Nat} (p1 : Int32) {M : Mem} {post : Mem → Prop} (h : wp_X5_leaveTrace p1 M post) : CtV l D cs ad yX5_leaveTrace cX5_leaveTrace 2 none 0 0 [.ref (ad 0), .int p1] M post := met_V (k := 0) (fun ad => [.ref (ad 0), .int p1]) (fun ad => [some (.ref (ad 0)), some (.int p1)]) (by decide +kernel) (fun _ => Nat.le_of_ble_eq_true rfl) (fun _ => rfl) (fun _ => rfl) (fun X hX hret => wk_X5_leaveTrace p1 hX hret h)
def wp_X5_tellAsChair (p1 : Int32) (M : Mem) (post : Int32 → Mem → Prop) : Prop := (wp_X5_leaveTrace 1 M (fun M2 => (vp_in p1 5 ∧ post (M2 4 p1.toNatClampNeg) M2)))
set_option maxRecDepth 100000 in
theorem wk_X5_tellAsChair {X : CT} (p1 : Int32) (hX : okX X RX5 cX5_tellAsChair 1 21) {M : Mem} {post : Int32 → Mem → Prop} (hret : ∀ (r : Int32) (M' : Mem), narrow .int (.int r) = .int r → post r M' → RetI X cX5_tellAsChair r M') (h : wp_X5_tellAsChair p1 M post) : Z X M 0 [some (.ref (adX X 0)), some (.int p1)] [] := by
  unfold wp_X5_tellAsChair at h
  refine r_aload_n hX dX5_tellAsChair_0 rfl rfl ?_
  refine r_iconst (v := 1) hX dX5_tellAsChair_1 (by decide) ?_
  refine r_cVv1 hX fv_X5_246 ly_0 rfl ⟨Nat.le_of_ble_eq_true rfl, Nat.le_of_ble_eq_true rfl⟩ (c_X5_leaveTrace 1 h) (Nat.le_of_ble_eq_true rfl) dX5_tellAsChair_2 (fun M2 h => ?_)
  refine r_aload_n hX dX5_tellAsChair_5 rfl rfl ?_
  refine r_getR hX fg_X5_12 ly_0 rfl dX5_tellAsChair_6 ?_
  refine r_getR hX fg_X5_112 ly_1 rfl dX5_tellAsChair_9 ?_
  refine r_iload_n hX dX5_tellAsChair_12 rfl rfl ?_
  refine r_iald hX ly_4 h.1 dX5_tellAsChair_13 ?_
  have h := h.2
  exact r_iret (hret _ _ rfl h) dX5_tellAsChair_14
set_option maxRecDepth 100000 in
theorem c_X5_tellAsChair {l : Launch} {D : va_G} {cs : CS3} {ad : Nat → Nat} (p1 : Int32) {M : Mem} {post : Int32 → Mem → Prop} (h : wp_X5_tellAsChair p1 M post) : CtI l D cs ad yX5_tellAsChair cX5_tellAsChair 2 (some .int) 1 21 [.ref (ad 0), .int p1] M post := met_I (k := 0) (fun ad => [.ref (ad 0), .int p1]) (fun ad => [some (.ref (ad 0)), some (.int p1)]) (by decide +kernel) (fun _ => Nat.le_of_ble_eq_true rfl) (fun _ => rfl) (fun _ => rfl) (fun X hX hret => wk_X5_tellAsChair p1 hX hret h)
def wp_X5_tellAsBench (p1 : Int32) (M : Mem) (post : Int32 → Mem → Prop) : Prop := (wp_X5_leaveTrace 2 M (fun M2 => (wp_X5_tellAsChair p1 M2 (fun r3 M4 => post (r3 + 100) M4))))
set_option maxRecDepth 100000 in
theorem wk_X5_tellAsBench {X : CT} (p1 : Int32) (hX : okX X RX5 cX5_tellAsBench 2 42) {M : Mem} {post : Int32 → Mem → Prop} (hret : ∀ (r : Int32) (M' : Mem), narrow .int (.int r) = .int r → post r M' → RetI X cX5_tellAsBench r M') (h : wp_X5_tellAsBench p1 M post) : Z X M 0 [some (.ref (adX X 0)), some (.int p1)] [] := by
  unfold wp_X5_tellAsBench at h
  refine r_aload_n hX dX5_tellAsBench_0 rfl rfl ?_
  refine r_iconst (v := 2) hX dX5_tellAsBench_1 (by decide) ?_
  refine r_cVv1 hX fv_X5_246 ly_0 rfl ⟨Nat.le_of_ble_eq_true rfl, Nat.le_of_ble_eq_true rfl⟩ (c_X5_leaveTrace 2 h) (Nat.le_of_ble_eq_true rfl) dX5_tellAsBench_2 (fun M2 h => ?_)
  refine r_aload_n hX dX5_tellAsBench_5 rfl rfl ?_
  refine r_iload_n hX dX5_tellAsBench_6 rfl rfl ?_
  refine r_cVi1 hX fv_X5_243 ly_0 rfl ⟨Nat.le_of_ble_eq_true rfl, Nat.le_of_ble_eq_true rfl⟩ (c_X5_tellAsChair p1 h) (Nat.le_of_ble_eq_true rfl) dX5_tellAsBench_7 (fun r3 M4 h => ?_)
  refine r_bipush (v := 100) hX dX5_tellAsBench_10 (by decide) ?_
  refine r_iadd hX dX5_tellAsBench_12 ?_
  exact r_iret (hret _ _ rfl h) dX5_tellAsBench_13
set_option maxRecDepth 100000 in
theorem c_X5_tellAsBench {l : Launch} {D : va_G} {cs : CS3} {ad : Nat → Nat} (p1 : Int32) {M : Mem} {post : Int32 → Mem → Prop} (h : wp_X5_tellAsBench p1 M post) : CtI l D cs ad yX5_tellAsBench cX5_tellAsBench 2 (some .int) 2 42 [.ref (ad 0), .int p1] M post := met_I (k := 0) (fun ad => [.ref (ad 0), .int p1]) (fun ad => [some (.ref (ad 0)), some (.int p1)]) (by decide +kernel) (fun _ => Nat.le_of_ble_eq_true rfl) (fun _ => rfl) (fun _ => rfl) (fun X hX hret => wk_X5_tellAsBench p1 hX hret h)
def wp_X5_tellAsThrone (p1 : Int32) (M : Mem) (post : Int32 → Mem → Prop) : Prop := (wp_X5_leaveTrace 3 M (fun M2 => (wp_X5_tellAsBench p1 M2 (fun r3 M4 => (wp_X5_tellAsChair p1 M4 (fun r5 M6 => post (r3 + r5) M6))))))
set_option maxRecDepth 100000 in
theorem wk_X5_tellAsThrone {X : CT} (p1 : Int32) (hX : okX X RX5 cX5_tellAsThrone 3 63) {M : Mem} {post : Int32 → Mem → Prop} (hret : ∀ (r : Int32) (M' : Mem), narrow .int (.int r) = .int r → post r M' → RetI X cX5_tellAsThrone r M') (h : wp_X5_tellAsThrone p1 M post) : Z X M 0 [some (.ref (adX X 0)), some (.int p1), none] [] := by
  unfold wp_X5_tellAsThrone at h
  refine r_aload_n hX dX5_tellAsThrone_0 rfl rfl ?_
  refine r_iconst (v := 3) hX dX5_tellAsThrone_1 (by decide) ?_
  refine r_cVv1 hX fv_X5_246 ly_0 rfl ⟨Nat.le_of_ble_eq_true rfl, Nat.le_of_ble_eq_true rfl⟩ (c_X5_leaveTrace 3 h) (Nat.le_of_ble_eq_true rfl) dX5_tellAsThrone_2 (fun M2 h => ?_)
  refine r_aload_n hX dX5_tellAsThrone_5 rfl rfl ?_
  refine r_iload_n hX dX5_tellAsThrone_6 rfl rfl ?_
  refine r_cVi1 hX fv_X5_237 ly_0 rfl ⟨Nat.le_of_ble_eq_true rfl, Nat.le_of_ble_eq_true rfl⟩ (c_X5_tellAsBench p1 h) (Nat.le_of_ble_eq_true rfl) dX5_tellAsThrone_7 (fun r3 M4 h => ?_)
  refine r_istore_n (L' := [some (.ref (adX X 0)), some (.int p1), some (.int r3)]) hX dX5_tellAsThrone_10 rfl (Nat.lt_of_ble rfl) rfl rfl ?_
  refine r_iload_n hX dX5_tellAsThrone_11 rfl rfl ?_
  refine r_aload_n hX dX5_tellAsThrone_12 rfl rfl ?_
  refine r_iload_n hX dX5_tellAsThrone_13 rfl rfl ?_
  refine r_cVi1 hX fv_X5_243 ly_0 rfl ⟨Nat.le_of_ble_eq_true rfl, Nat.le_of_ble_eq_true rfl⟩ (c_X5_tellAsChair p1 h) (Nat.le_of_ble_eq_true rfl) dX5_tellAsThrone_14 (fun r5 M6 h => ?_)
  refine r_iadd hX dX5_tellAsThrone_17 ?_
  exact r_iret (hret _ _ rfl h) dX5_tellAsThrone_18
set_option maxRecDepth 100000 in
theorem c_X5_tellAsThrone {l : Launch} {D : va_G} {cs : CS3} {ad : Nat → Nat} (p1 : Int32) {M : Mem} {post : Int32 → Mem → Prop} (h : wp_X5_tellAsThrone p1 M post) : CtI l D cs ad yX5_tellAsThrone cX5_tellAsThrone 3 (some .int) 3 63 [.ref (ad 0), .int p1] M post := met_I (k := 1) (fun ad => [.ref (ad 0), .int p1]) (fun ad => [some (.ref (ad 0)), some (.int p1), none]) (by decide +kernel) (fun _ => Nat.le_of_ble_eq_true rfl) (fun _ => rfl) (fun _ => rfl) (fun X hX hret => wk_X5_tellAsThrone p1 hX hret h)
def wp_X5_tell (p1 : Int32) (M : Mem) (post : Int32 → Mem → Prop) : Prop := (wp_X0_hasChair p1 M (fun r1 M2 => ((¬ r1 = 0 → (vp_in p1 5 ∧ ((M2 2 p1.toNatClampNeg = 1 → (wp_X5_tellAsBench p1 M2 (fun r3 M4 => post r3 M4))) ∧ (M2 2 p1.toNatClampNeg = 2 → (wp_X5_tellAsThrone p1 M2 (fun r5 M6 => post r5 M6))) ∧ (¬ M2 2 p1.toNatClampNeg = 1 ∧ ¬ M2 2 p1.toNatClampNeg = 2 → (wp_X5_tellAsChair p1 M2 (fun r7 M8 => post r7 M8)))))) ∧ (r1 = 0 → post (-1) M2))))
set_option maxRecDepth 100000 in
theorem wk_X5_tell {X : CT} (p1 : Int32) (hX : okX X RX5 cX5_tell 4 85) {M : Mem} {post : Int32 → Mem → Prop} (hret : ∀ (r : Int32) (M' : Mem), narrow .int (.int r) = .int r → post r M' → RetI X cX5_tell r M') (h : wp_X5_tell p1 M post) : Z X M 0 [some (.ref (adX X 0)), some (.int p1)] [] := by
  unfold wp_X5_tell at h
  refine r_aload_n hX dX5_tell_0 rfl rfl ?_
  refine r_getR hX fg_X5_12 ly_0 rfl dX5_tell_1 ?_
  refine r_iload_n hX dX5_tell_4 rfl rfl ?_
  refine r_cVi1 hX fv_X5_103 ly_1 rfl ⟨Nat.le_of_ble_eq_true rfl, Nat.le_of_ble_eq_true rfl⟩ (c_X0_hasChair p1 h) (Nat.le_of_ble_eq_true rfl) dX5_tell_5 (fun r1 M2 h => ?_)
  refine r_if_ne hX 13 dX5_tell_8 (by decide) (fun hc => ?_) (fun hc => ?_)
  · have h := h.1 hc
    refine r_aload_n hX dX5_tell_13 rfl rfl ?_
    refine r_getR hX fg_X5_12 ly_0 rfl dX5_tell_14 ?_
    refine r_getR hX fg_X5_106 ly_1 rfl dX5_tell_17 ?_
    refine r_iload_n hX dX5_tell_20 rfl rfl ?_
    refine r_iald hX ly_2 h.1 dX5_tell_21 ?_
    have h := h.2
    by_cases hc1 : M2 2 p1.toNatClampNeg = 1
    · refine r_lsw hX 48 dX5_tell_22 (by decide) (by rw [hc1]; try rfl) (by decide) ?_
      have h := h.1 hc1
      refine r_aload_n hX dX5_tell_48 rfl rfl ?_
      refine r_iload_n hX dX5_tell_49 rfl rfl ?_
      refine r_cVi1 hX fv_X5_237 ly_0 rfl ⟨Nat.le_of_ble_eq_true rfl, Nat.le_of_ble_eq_true rfl⟩ (c_X5_tellAsBench p1 h) (Nat.le_of_ble_eq_true rfl) dX5_tell_50 (fun r3 M4 h => ?_)
      exact r_iret (hret _ _ rfl h) dX5_tell_53
    · by_cases hc2 : M2 2 p1.toNatClampNeg = 2
      · refine r_lsw hX 54 dX5_tell_22 (by decide) (by rw [hc2]; try rfl) (by decide) ?_
        have h := h.2.1 hc2
        refine r_aload_n hX dX5_tell_54 rfl rfl ?_
        refine r_iload_n hX dX5_tell_55 rfl rfl ?_
        refine r_cVi1 hX fv_X5_240 ly_0 rfl ⟨Nat.le_of_ble_eq_true rfl, Nat.le_of_ble_eq_true rfl⟩ (c_X5_tellAsThrone p1 h) (Nat.le_of_ble_eq_true rfl) dX5_tell_56 (fun r5 M6 h => ?_)
        exact r_iret (hret _ _ rfl h) dX5_tell_59
      · refine r_lsw hX 60 dX5_tell_22 (by decide) (sw_l12 hc1 hc2) (by decide) ?_
        have h := h.2.2 ⟨hc1, hc2⟩
        refine r_aload_n hX dX5_tell_60 rfl rfl ?_
        refine r_iload_n hX dX5_tell_61 rfl rfl ?_
        refine r_cVi1 hX fv_X5_243 ly_0 rfl ⟨Nat.le_of_ble_eq_true rfl, Nat.le_of_ble_eq_true rfl⟩ (c_X5_tellAsChair p1 h) (Nat.le_of_ble_eq_true rfl) dX5_tell_62 (fun r7 M8 h => ?_)
        exact r_iret (hret _ _ rfl h) dX5_tell_65
  · have h := h.2 hc
    refine r_iconst (v := (-1)) hX dX5_tell_11 (by decide) ?_
    exact r_iret (hret _ _ rfl h) dX5_tell_12
set_option maxRecDepth 100000 in
theorem c_X5_tell {l : Launch} {D : va_G} {cs : CS3} {ad : Nat → Nat} (p1 : Int32) {M : Mem} {post : Int32 → Mem → Prop} (h : wp_X5_tell p1 M post) : CtI l D cs ad yX5_tell cX5_tell 2 (some .int) 4 85 [.ref (ad 0), .int p1] M post := met_I (k := 0) (fun ad => [.ref (ad 0), .int p1]) (fun ad => [some (.ref (ad 0)), some (.int p1)]) (by decide +kernel) (fun _ => Nat.le_of_ble_eq_true rfl) (fun _ => rfl) (fun _ => rfl) (fun X hX hret => wk_X5_tell p1 hX hret h)
def wp_X5_creak (p1 : Int32) (M : Mem) (post : Int32 → Mem → Prop) : Prop := (wp_X0_hasChair p1 M (fun r1 M2 => ((¬ r1 = 0 → (vp_in p1 5 ∧ ((¬ (M2 2 p1.toNatClampNeg) = 2 → (wp_X5_leaveTrace 4 M2 (fun M4 => post p1 M4))) ∧ ((M2 2 p1.toNatClampNeg) = 2 → (wp_X5_leaveTrace 5 M2 (fun M6 => post 60 M6)))))) ∧ (r1 = 0 → post (-1) M2))))
set_option maxRecDepth 100000 in
theorem wk_X5_creak {X : CT} (p1 : Int32) (hX : okX X RX5 cX5_creak 1 21) {M : Mem} {post : Int32 → Mem → Prop} (hret : ∀ (r : Int32) (M' : Mem), narrow .int (.int r) = .int r → post r M' → RetI X cX5_creak r M') (h : wp_X5_creak p1 M post) : Z X M 0 [some (.ref (adX X 0)), some (.int p1)] [] := by
  unfold wp_X5_creak at h
  refine r_aload_n hX dX5_creak_0 rfl rfl ?_
  refine r_getR hX fg_X5_12 ly_0 rfl dX5_creak_1 ?_
  refine r_iload_n hX dX5_creak_4 rfl rfl ?_
  refine r_cVi1 hX fv_X5_103 ly_1 rfl ⟨Nat.le_of_ble_eq_true rfl, Nat.le_of_ble_eq_true rfl⟩ (c_X0_hasChair p1 h) (Nat.le_of_ble_eq_true rfl) dX5_creak_5 (fun r1 M2 h => ?_)
  refine r_if_ne hX 13 dX5_creak_8 (by decide) (fun hc => ?_) (fun hc => ?_)
  · have h := h.1 hc
    refine r_aload_n hX dX5_creak_13 rfl rfl ?_
    refine r_getR hX fg_X5_12 ly_0 rfl dX5_creak_14 ?_
    refine r_getR hX fg_X5_106 ly_1 rfl dX5_creak_17 ?_
    refine r_iload_n hX dX5_creak_20 rfl rfl ?_
    refine r_iald hX ly_2 h.1 dX5_creak_21 ?_
    have h := h.2
    refine r_iconst (v := 2) hX dX5_creak_22 (by decide) ?_
    refine r_icmp_ne hX 34 dX5_creak_23 (by decide) (fun hc => ?_) (fun hc => ?_)
    · have h := h.1 hc
      refine r_aload_n hX dX5_creak_34 rfl rfl ?_
      refine r_iconst (v := 4) hX dX5_creak_35 (by decide) ?_
      refine r_cVv1 hX fv_X5_246 ly_0 rfl ⟨Nat.le_of_ble_eq_true rfl, Nat.le_of_ble_eq_true rfl⟩ (c_X5_leaveTrace 4 h) (Nat.le_of_ble_eq_true rfl) dX5_creak_36 (fun M4 h => ?_)
      refine r_iload_n hX dX5_creak_39 rfl rfl ?_
      exact r_iret (hret _ _ rfl h) dX5_creak_40
    · have h := h.2 hc
      refine r_aload_n hX dX5_creak_26 rfl rfl ?_
      refine r_iconst (v := 5) hX dX5_creak_27 (by decide) ?_
      refine r_cVv1 hX fv_X5_246 ly_0 rfl ⟨Nat.le_of_ble_eq_true rfl, Nat.le_of_ble_eq_true rfl⟩ (c_X5_leaveTrace 5 h) (Nat.le_of_ble_eq_true rfl) dX5_creak_28 (fun M6 h => ?_)
      refine r_bipush (v := 60) hX dX5_creak_31 (by decide) ?_
      exact r_iret (hret _ _ rfl h) dX5_creak_33
  · have h := h.2 hc
    refine r_iconst (v := (-1)) hX dX5_creak_11 (by decide) ?_
    exact r_iret (hret _ _ rfl h) dX5_creak_12
set_option maxRecDepth 100000 in
theorem c_X5_creak {l : Launch} {D : va_G} {cs : CS3} {ad : Nat → Nat} (p1 : Int32) {M : Mem} {post : Int32 → Mem → Prop} (h : wp_X5_creak p1 M post) : CtI l D cs ad yX5_creak cX5_creak 2 (some .int) 1 21 [.ref (ad 0), .int p1] M post := met_I (k := 0) (fun ad => [.ref (ad 0), .int p1]) (fun ad => [some (.ref (ad 0)), some (.int p1)]) (by decide +kernel) (fun _ => Nat.le_of_ble_eq_true rfl) (fun _ => rfl) (fun _ => rfl) (fun X hX hret => wk_X5_creak p1 hX hret h)
def wp_X5_as (p1 : Int32) (p2 : Int32) (M : Mem) (post : Int32 → Mem → Prop) : Prop := (∀ M1 : Mem, M1 = up2 M 0 9 0 → (wp_X0_hasChair p1 M1 (fun r2 M3 => ((¬ r2 = 0 → ((p2 < 0 → post (-2) M3) ∧ (¬ p2 < 0 → ((p2 < 3 → (vp_in p1 5 ∧ ((p2 ≤ (M3 2 p1.toNatClampNeg) → post 1 M3) ∧ (¬ p2 ≤ (M3 2 p1.toNatClampNeg) → (∀ M4 : Mem, M4 = up2 M3 0 9 2 → (wp_X5_faultAnswer M4 (fun r5 M6 => post r5 M6))))))) ∧ (¬ p2 < 3 → post (-2) M3))))) ∧ (r2 = 0 → post (-1) M3)))))
set_option maxRecDepth 100000 in
theorem wk_X5_as {X : CT} (p1 : Int32) (p2 : Int32) (hX : okX X RX5 cX5_as 1 21) {M : Mem} {post : Int32 → Mem → Prop} (hret : ∀ (r : Int32) (M' : Mem), narrow .int (.int r) = .int r → post r M' → RetI X cX5_as r M') (h : wp_X5_as p1 p2 M post) : Z X M 0 [some (.ref (adX X 0)), some (.int p1), some (.int p2)] [] := by
  unfold wp_X5_as at h
  refine r_aload_n hX dX5_as_0 rfl rfl ?_
  refine r_iconst (v := 0) hX dX5_as_1 (by decide) ?_
  refine r_putI hX fp_X5_68 ly_0 rfl dX5_as_2 ?_
  refine r_nmM (fun M1 eM1 => ?_)
  have h := h M1 eM1
  refine r_aload_n hX dX5_as_5 rfl rfl ?_
  refine r_getR hX fg_X5_12 ly_0 rfl dX5_as_6 ?_
  refine r_iload_n hX dX5_as_9 rfl rfl ?_
  refine r_cVi1 hX fv_X5_103 ly_1 rfl ⟨Nat.le_of_ble_eq_true rfl, Nat.le_of_ble_eq_true rfl⟩ (c_X0_hasChair p1 h) (Nat.le_of_ble_eq_true rfl) dX5_as_10 (fun r2 M3 h => ?_)
  refine r_if_ne hX 18 dX5_as_13 (by decide) (fun hc => ?_) (fun hc => ?_)
  · have h := h.1 hc
    refine r_iload_n hX dX5_as_18 rfl rfl ?_
    refine r_if_lt hX 27 dX5_as_19 (by decide) (fun hc => ?_) (fun hc => ?_)
    · have h := h.1 hc
      refine r_bipush (v := (-2)) hX dX5_as_27 (by decide) ?_
      exact r_iret (hret _ _ rfl h) dX5_as_29
    · have h := h.2 hc
      refine r_iload_n hX dX5_as_22 rfl rfl ?_
      refine r_iconst (v := 3) hX dX5_as_23 (by decide) ?_
      refine r_icmp_lt hX 30 dX5_as_24 (by decide) (fun hc => ?_) (fun hc => ?_)
      · have h := h.1 hc
        refine r_iload_n hX dX5_as_30 rfl rfl ?_
        refine r_aload_n hX dX5_as_31 rfl rfl ?_
        refine r_getR hX fg_X5_12 ly_0 rfl dX5_as_32 ?_
        refine r_getR hX fg_X5_106 ly_1 rfl dX5_as_35 ?_
        refine r_iload_n hX dX5_as_38 rfl rfl ?_
        refine r_iald hX ly_2 h.1 dX5_as_39 ?_
        have h := h.2
        refine r_icmp_le hX 53 dX5_as_40 (by decide) (fun hc => ?_) (fun hc => ?_)
        · have h := h.1 hc
          refine r_iconst (v := 1) hX dX5_as_53 (by decide) ?_
          exact r_iret (hret _ _ rfl h) dX5_as_54
        · have h := h.2 hc
          refine r_aload_n hX dX5_as_43 rfl rfl ?_
          refine r_iconst (v := 2) hX dX5_as_44 (by decide) ?_
          refine r_putI hX fp_X5_68 ly_0 rfl dX5_as_45 ?_
          refine r_nmM (fun M4 eM4 => ?_)
          have h := h M4 eM4
          refine r_aload_n hX dX5_as_48 rfl rfl ?_
          refine r_cVi0 hX fv_X5_82 ly_0 rfl ⟨Nat.le_of_ble_eq_true rfl, Nat.le_of_ble_eq_true rfl⟩ (c_X5_faultAnswer h) (Nat.le_of_ble_eq_true rfl) dX5_as_49 (fun r5 M6 h => ?_)
          exact r_iret (hret _ _ rfl h) dX5_as_52
      · have h := h.2 hc
        refine r_bipush (v := (-2)) hX dX5_as_27 (by decide) ?_
        exact r_iret (hret _ _ rfl h) dX5_as_29
  · have h := h.2 hc
    refine r_iconst (v := (-1)) hX dX5_as_16 (by decide) ?_
    exact r_iret (hret _ _ rfl h) dX5_as_17
set_option maxRecDepth 100000 in
theorem c_X5_as {l : Launch} {D : va_G} {cs : CS3} {ad : Nat → Nat} (p1 : Int32) (p2 : Int32) {M : Mem} {post : Int32 → Mem → Prop} (h : wp_X5_as p1 p2 M post) : CtI l D cs ad yX5_as cX5_as 3 (some .int) 1 21 [.ref (ad 0), .int p1, .int p2] M post := met_I (k := 0) (fun ad => [.ref (ad 0), .int p1, .int p2]) (fun ad => [some (.ref (ad 0)), some (.int p1), some (.int p2)]) (by decide +kernel) (fun _ => Nat.le_of_ble_eq_true rfl) (fun _ => rfl) (fun _ => rfl) (fun X hX hret => wk_X5_as p1 p2 hX hret h)
def wp_X5_trace (M : Mem) (post : Int32 → Mem → Prop) : Prop := post (M 0 8) M
set_option maxRecDepth 100000 in
theorem wk_X5_trace {X : CT} (hX : okX X RX5 cX5_trace 0 0) {M : Mem} {post : Int32 → Mem → Prop} (hret : ∀ (r : Int32) (M' : Mem), narrow .int (.int r) = .int r → post r M' → RetI X cX5_trace r M') (h : wp_X5_trace M post) : Z X M 0 [some (.ref (adX X 0))] [] := by
  unfold wp_X5_trace at h
  refine r_aload_n hX dX5_trace_0 rfl rfl ?_
  refine r_getI hX fg_X5_64 ly_0 rfl dX5_trace_1 ?_
  exact r_iret (hret _ _ rfl h) dX5_trace_4
set_option maxRecDepth 100000 in
theorem c_X5_trace {l : Launch} {D : va_G} {cs : CS3} {ad : Nat → Nat} {M : Mem} {post : Int32 → Mem → Prop} (h : wp_X5_trace M post) : CtI l D cs ad yX5_trace cX5_trace 1 (some .int) 0 0 [.ref (ad 0)] M post := met_I (k := 0) (fun ad => [.ref (ad 0)]) (fun ad => [some (.ref (ad 0))]) (by decide +kernel) (fun _ => Nat.le_of_ble_eq_true rfl) (fun _ => rfl) (fun _ => rfl) (fun X hX hret => wk_X5_trace hX hret h)
def wp_X5_fault (M : Mem) (post : Int32 → Mem → Prop) : Prop := post (M 0 9) M
set_option maxRecDepth 100000 in
theorem wk_X5_fault {X : CT} (hX : okX X RX5 cX5_fault 0 0) {M : Mem} {post : Int32 → Mem → Prop} (hret : ∀ (r : Int32) (M' : Mem), narrow .int (.int r) = .int r → post r M' → RetI X cX5_fault r M') (h : wp_X5_fault M post) : Z X M 0 [some (.ref (adX X 0))] [] := by
  unfold wp_X5_fault at h
  refine r_aload_n hX dX5_fault_0 rfl rfl ?_
  refine r_getI hX fg_X5_68 ly_0 rfl dX5_fault_1 ?_
  exact r_iret (hret _ _ rfl h) dX5_fault_4
set_option maxRecDepth 100000 in
theorem c_X5_fault {l : Launch} {D : va_G} {cs : CS3} {ad : Nat → Nat} {M : Mem} {post : Int32 → Mem → Prop} (h : wp_X5_fault M post) : CtI l D cs ad yX5_fault cX5_fault 1 (some .int) 0 0 [.ref (ad 0)] M post := met_I (k := 0) (fun ad => [.ref (ad 0)]) (fun ad => [some (.ref (ad 0))]) (by decide +kernel) (fun _ => Nat.le_of_ble_eq_true rfl) (fun _ => rfl) (fun _ => rfl) (fun X hX hret => wk_X5_fault hX hret h)
def wp_X5_many (p1 : Int32) (M : Mem) (post : Int32 → Mem → Prop) : Prop := ((p1 = 0 → post (M 1 3) M) ∧ (p1 = 1 → post (M 1 4) M) ∧ (p1 = 2 → post (M 5 3) M) ∧ (p1 = 3 → post (M 9 3) M) ∧ (p1 = 4 → post (M 13 3) M) ∧ (¬ p1 = 0 ∧ ¬ p1 = 1 ∧ ¬ p1 = 2 ∧ ¬ p1 = 3 ∧ ¬ p1 = 4 → post (-2) M))
set_option maxRecDepth 100000 in
theorem wk_X5_many {X : CT} (p1 : Int32) (hX : okX X RX5 cX5_many 0 0) {M : Mem} {post : Int32 → Mem → Prop} (hret : ∀ (r : Int32) (M' : Mem), narrow .int (.int r) = .int r → post r M' → RetI X cX5_many r M') (h : wp_X5_many p1 M post) : Z X M 0 [some (.ref (adX X 0)), some (.int p1)] [] := by
  unfold wp_X5_many at h
  refine r_iload_n hX dX5_many_0 rfl rfl ?_
  by_cases hc0 : p1 = 0
  · refine r_tin (v := 0) hX 36 dX5_many_1 hc0 rfl rfl (by decide) ?_
    have h := h.1 hc0
    refine r_aload_n hX dX5_many_36 rfl rfl ?_
    refine r_getR hX fg_X5_12 ly_0 rfl dX5_many_37 ?_
    refine r_getI hX fg_X5_100 ly_1 rfl dX5_many_40 ?_
    exact r_iret (hret _ _ rfl h) dX5_many_43
  · by_cases hc1 : p1 = 1
    · refine r_tin (v := 1) hX 44 dX5_many_1 hc1 rfl rfl (by decide) ?_
      have h := h.2.1 hc1
      refine r_aload_n hX dX5_many_44 rfl rfl ?_
      refine r_getR hX fg_X5_12 ly_0 rfl dX5_many_45 ?_
      refine r_getI hX fg_X5_172 ly_1 rfl dX5_many_48 ?_
      exact r_iret (hret _ _ rfl h) dX5_many_51
    · by_cases hc2 : p1 = 2
      · refine r_tin (v := 2) hX 52 dX5_many_1 hc2 rfl rfl (by decide) ?_
        have h := h.2.2.1 hc2
        refine r_aload_n hX dX5_many_52 rfl rfl ?_
        refine r_getR hX fg_X5_21 ly_0 rfl dX5_many_53 ?_
        refine r_getI hX fg_X5_97 ly_5 rfl dX5_many_56 ?_
        exact r_iret (hret _ _ rfl h) dX5_many_59
      · by_cases hc3 : p1 = 3
        · refine r_tin (v := 3) hX 60 dX5_many_1 hc3 rfl rfl (by decide) ?_
          have h := h.2.2.2.1 hc3
          refine r_aload_n hX dX5_many_60 rfl rfl ?_
          refine r_getR hX fg_X5_25 ly_0 rfl dX5_many_61 ?_
          refine r_getI hX fg_X5_97 ly_9 rfl dX5_many_64 ?_
          exact r_iret (hret _ _ rfl h) dX5_many_67
        · by_cases hc4 : p1 = 4
          · refine r_tin (v := 4) hX 68 dX5_many_1 hc4 rfl rfl (by decide) ?_
            have h := h.2.2.2.2.1 hc4
            refine r_aload_n hX dX5_many_68 rfl rfl ?_
            refine r_getR hX fg_X5_28 ly_0 rfl dX5_many_69 ?_
            refine r_getI hX fg_X5_97 ly_13 rfl dX5_many_72 ?_
            exact r_iret (hret _ _ rfl h) dX5_many_75
          · refine r_tout hX 76 dX5_many_1 (sw_out5 hc0 hc1 hc2 hc3 hc4) (by decide) ?_
            have h := h.2.2.2.2.2 ⟨hc0, hc1, hc2, hc3, hc4⟩
            refine r_bipush (v := (-2)) hX dX5_many_76 (by decide) ?_
            exact r_iret (hret _ _ rfl h) dX5_many_78
set_option maxRecDepth 100000 in
theorem c_X5_many {l : Launch} {D : va_G} {cs : CS3} {ad : Nat → Nat} (p1 : Int32) {M : Mem} {post : Int32 → Mem → Prop} (h : wp_X5_many p1 M post) : CtI l D cs ad yX5_many cX5_many 2 (some .int) 0 0 [.ref (ad 0), .int p1] M post := met_I (k := 0) (fun ad => [.ref (ad 0), .int p1]) (fun ad => [some (.ref (ad 0)), some (.int p1)]) (by decide +kernel) (fun _ => Nat.le_of_ble_eq_true rfl) (fun _ => rfl) (fun _ => rfl) (fun X hX hret => wk_X5_many p1 hX hret h)
