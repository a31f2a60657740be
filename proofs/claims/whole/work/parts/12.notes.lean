def wp_X2_has (c0 : Nat) (p1 : Int32) (M : Mem) (post : Int32 → Mem → Prop) : Prop := ((p1 < 0 → post 0 M) ∧ (¬ p1 < 0 → (((M c0 3) ≤ p1 → post 0 M) ∧ (¬ (M c0 3) ≤ p1 → post 1 M))))
set_option maxRecDepth 100000 in
theorem wk_X2_has {X : CT} (c0 : Nat) (p1 : Int32) (hc0 : isN c0) (hX : okX X RX2 cX2_has 0 0) {M : Mem} {post : Int32 → Mem → Prop} (hret : ∀ (r : Int32) (M' : Mem), narrow .boolean (.int r) = .int r → post r M' → RetI X cX2_has r M') (h : wp_X2_has c0 p1 M post) : Z X M 0 [some (.ref (adX X c0)), some (.int p1)] [] := by
  unfold wp_X2_has at h
  refine r_iload_n hX dX2_has_0 rfl rfl ?_
  refine r_if_lt hX 16 dX2_has_1 (by decide) (fun hc => ?_) (fun hc => ?_)
  · have h := h.1 hc
    refine r_iconst (v := 0) hX dX2_has_16 (by decide) ?_
    exact r_iret (hret _ _ rfl h) dX2_has_17
  · have h := h.2 hc
    refine r_iload_n hX dX2_has_4 rfl rfl ?_
    refine r_aload_n hX dX2_has_5 rfl rfl ?_
    refine r_getI hX fg_X2_21 hc0.l0 rfl dX2_has_6 ?_
    refine r_icmp_ge hX 16 dX2_has_9 (by decide) (fun hc => ?_) (fun hc => ?_)
    · have h := h.1 hc
      refine r_iconst (v := 0) hX dX2_has_16 (by decide) ?_
      exact r_iret (hret _ _ rfl h) dX2_has_17
    · have h := h.2 hc
      refine r_iconst (v := 1) hX dX2_has_12 (by decide) ?_
      refine r_goto hX 17 dX2_has_13 (by decide) ?_
      exact r_iret (hret _ _ rfl h) dX2_has_17
set_option maxRecDepth 100000 in
theorem c_X2_has {l : Launch} {D : va_G} {cs : CS3} {ad : Nat → Nat} (c0 : Nat) (p1 : Int32) (hc0 : isN c0) {M : Mem} {post : Int32 → Mem → Prop} (h : wp_X2_has c0 p1 M post) : CtI l D cs ad yX2_has cX2_has 2 (some .boolean) 0 0 [.ref (ad c0), .int p1] M post := met_I (k := 0) (fun ad => [.ref (ad c0), .int p1]) (fun ad => [some (.ref (ad c0)), some (.int p1)]) (by decide +kernel) (fun _ => Nat.le_of_ble_eq_true rfl) (fun _ => rfl) (fun _ => rfl) (fun X hX hret => wk_X2_has c0 p1 hc0 hX hret h)
def wp_X2_add (c0 : Nat) (p1 : Int32) (p2 : Int32) (p3 : Int32) (M : Mem) (post : Int32 → Mem → Prop) : Prop := (((M c0 3) < 8 → (vp_in (M c0 3) 8 ∧ ∀ M1 : Mem, M1 = up2 M (c0 + 1) (M c0 3).toNatClampNeg p1 → (vp_in (M1 c0 3) 8 ∧ ∀ M2 : Mem, M2 = up2 M1 (c0 + 2) (M1 c0 3).toNatClampNeg p2 → (vp_in (M2 c0 3) 8 ∧ ∀ M3 : Mem, M3 = up2 M2 (c0 + 3) (M2 c0 3).toNatClampNeg p3 → (∀ M4 : Mem, M4 = up2 M3 c0 3 ((M3 c0 3) + 1) → post ((M4 c0 3) - 1) M4))))) ∧ (¬ (M c0 3) < 8 → post (-4) M))
set_option maxRecDepth 100000 in
theorem wk_X2_add {X : CT} (c0 : Nat) (p1 : Int32) (p2 : Int32) (p3 : Int32) (hc0 : isN c0) (hX : okX X RX2 cX2_add 0 0) {M : Mem} {post : Int32 → Mem → Prop} (hret : ∀ (r : Int32) (M' : Mem), narrow .int (.int r) = .int r → post r M' → RetI X cX2_add r M') (h : wp_X2_add c0 p1 p2 p3 M post) : Z X M 0 [some (.ref (adX X c0)), some (.int p1), some (.int p2), some (.int p3)] [] := by
  unfold wp_X2_add at h
  refine r_aload_n hX dX2_add_0 rfl rfl ?_
  refine r_getI hX fg_X2_21 hc0.l0 rfl dX2_add_1 ?_
  refine r_bipush (v := 8) hX dX2_add_4 (by decide) ?_
  refine r_icmp_lt hX 12 dX2_add_6 (by decide) (fun hc => ?_) (fun hc => ?_)
  · have h := h.1 hc
    refine r_aload_n hX dX2_add_12 rfl rfl ?_
    refine r_getR hX fg_X2_9 hc0.l0 rfl dX2_add_13 ?_
    refine r_aload_n hX dX2_add_16 rfl rfl ?_
    refine r_getI hX fg_X2_21 hc0.l0 rfl dX2_add_17 ?_
    refine r_iload_n hX dX2_add_20 rfl rfl ?_
    refine r_iast hX hc0.l1 h.1 dX2_add_21 ?_
    refine r_nmM (fun M1 eM1 => ?_)
    have h := h.2 M1 eM1
    refine r_aload_n hX dX2_add_22 rfl rfl ?_
    refine r_getR hX fg_X2_15 hc0.l0 rfl dX2_add_23 ?_
    refine r_aload_n hX dX2_add_26 rfl rfl ?_
    refine r_getI hX fg_X2_21 hc0.l0 rfl dX2_add_27 ?_
    refine r_iload_n hX dX2_add_30 rfl rfl ?_
    refine r_iast hX hc0.l2 h.1 dX2_add_31 ?_
    refine r_nmM (fun M2 eM2 => ?_)
    have h := h.2 M2 eM2
    refine r_aload_n hX dX2_add_32 rfl rfl ?_
    refine r_getR hX fg_X2_18 hc0.l0 rfl dX2_add_33 ?_
    refine r_aload_n hX dX2_add_36 rfl rfl ?_
    refine r_getI hX fg_X2_21 hc0.l0 rfl dX2_add_37 ?_
    refine r_iload_n hX dX2_add_40 rfl rfl ?_
    refine r_iast hX hc0.l3 h.1 dX2_add_41 ?_
    refine r_nmM (fun M3 eM3 => ?_)
    have h := h.2 M3 eM3
    refine r_aload_n hX dX2_add_42 rfl rfl ?_
    refine r_dup hX dX2_add_43 rfl ?_
    refine r_getI hX fg_X2_21 hc0.l0 rfl dX2_add_44 ?_
    refine r_iconst (v := 1) hX dX2_add_47 (by decide) ?_
    refine r_iadd hX dX2_add_48 ?_
    refine r_putI hX fp_X2_21 hc0.l0 rfl dX2_add_49 ?_
    refine r_nmM (fun M4 eM4 => ?_)
    have h := h M4 eM4
    refine r_aload_n hX dX2_add_52 rfl rfl ?_
    refine r_getI hX fg_X2_21 hc0.l0 rfl dX2_add_53 ?_
    refine r_iconst (v := 1) hX dX2_add_56 (by decide) ?_
    refine r_isub hX dX2_add_57 ?_
    exact r_iret (hret _ _ rfl h) dX2_add_58
  · have h := h.2 hc
    refine r_bipush (v := (-4)) hX dX2_add_9 (by decide) ?_
    exact r_iret (hret _ _ rfl h) dX2_add_11
set_option maxRecDepth 100000 in
theorem c_X2_add {l : Launch} {D : va_G} {cs : CS3} {ad : Nat → Nat} (c0 : Nat) (p1 : Int32) (p2 : Int32) (p3 : Int32) (hc0 : isN c0) {M : Mem} {post : Int32 → Mem → Prop} (h : wp_X2_add c0 p1 p2 p3 M post) : CtI l D cs ad yX2_add cX2_add 4 (some .int) 0 0 [.ref (ad c0), .int p1, .int p2, .int p3] M post := met_I (k := 0) (fun ad => [.ref (ad c0), .int p1, .int p2, .int p3]) (fun ad => [some (.ref (ad c0)), some (.int p1), some (.int p2), some (.int p3)]) (by decide +kernel) (fun _ => Nat.le_of_ble_eq_true rfl) (fun _ => rfl) (fun _ => rfl) (fun X hX hret => wk_X2_add c0 p1 p2 p3 hc0 hX hret h)
def wp_X2_dropLast (c0 : Nat) (p1 : Int32) (M : Mem) (post : Int32 → Mem → Prop) : Prop := ((p1 < 0 → post (-2) M) ∧ (¬ p1 < 0 → ((p1 ≤ (M c0 3) → (∀ M1 : Mem, M1 = up2 M c0 3 ((M c0 3) - p1) → post (M1 c0 3) M1)) ∧ (¬ p1 ≤ (M c0 3) → post (-2) M))))
set_option maxRecDepth 100000 in
theorem wk_X2_dropLast {X : CT} (c0 : Nat) (p1 : Int32) (hc0 : isN c0) (hX : okX X RX2 cX2_dropLast 0 0) {M : Mem} {post : Int32 → Mem → Prop} (hret : ∀ (r : Int32) (M' : Mem), narrow .int (.int r) = .int r → post r M' → RetI X cX2_dropLast r M') (h : wp_X2_dropLast c0 p1 M post) : Z X M 0 [some (.ref (adX X c0)), some (.int p1)] [] := by
  unfold wp_X2_dropLast at h
  refine r_iload_n hX dX2_dropLast_0 rfl rfl ?_
  refine r_if_lt hX 12 dX2_dropLast_1 (by decide) (fun hc => ?_) (fun hc => ?_)
  · have h := h.1 hc
    refine r_bipush (v := (-2)) hX dX2_dropLast_12 (by decide) ?_
    exact r_iret (hret _ _ rfl h) dX2_dropLast_14
  · have h := h.2 hc
    refine r_iload_n hX dX2_dropLast_4 rfl rfl ?_
    refine r_aload_n hX dX2_dropLast_5 rfl rfl ?_
    refine r_getI hX fg_X2_21 hc0.l0 rfl dX2_dropLast_6 ?_
    refine r_icmp_le hX 15 dX2_dropLast_9 (by decide) (fun hc => ?_) (fun hc => ?_)
    · have h := h.1 hc
      refine r_aload_n hX dX2_dropLast_15 rfl rfl ?_
      refine r_dup hX dX2_dropLast_16 rfl ?_
      refine r_getI hX fg_X2_21 hc0.l0 rfl dX2_dropLast_17 ?_
      refine r_iload_n hX dX2_dropLast_20 rfl rfl ?_
      refine r_isub hX dX2_dropLast_21 ?_
      refine r_putI hX fp_X2_21 hc0.l0 rfl dX2_dropLast_22 ?_
      refine r_nmM (fun M1 eM1 => ?_)
      have h := h M1 eM1
      refine r_aload_n hX dX2_dropLast_25 rfl rfl ?_
      refine r_getI hX fg_X2_21 hc0.l0 rfl dX2_dropLast_26 ?_
      exact r_iret (hret _ _ rfl h) dX2_dropLast_29
    · have h := h.2 hc
      refine r_bipush (v := (-2)) hX dX2_dropLast_12 (by decide) ?_
      exact r_iret (hret _ _ rfl h) dX2_dropLast_14
set_option maxRecDepth 100000 in
theorem c_X2_dropLast {l : Launch} {D : va_G} {cs : CS3} {ad : Nat → Nat} (c0 : Nat) (p1 : Int32) (hc0 : isN c0) {M : Mem} {post : Int32 → Mem → Prop} (h : wp_X2_dropLast c0 p1 M post) : CtI l D cs ad yX2_dropLast cX2_dropLast 2 (some .int) 0 0 [.ref (ad c0), .int p1] M post := met_I (k := 0) (fun ad => [.ref (ad c0), .int p1]) (fun ad => [some (.ref (ad c0)), some (.int p1)]) (by decide +kernel) (fun _ => Nat.le_of_ble_eq_true rfl) (fun _ => rfl) (fun _ => rfl) (fun X hX hret => wk_X2_dropLast c0 p1 hc0 hX hret h)
