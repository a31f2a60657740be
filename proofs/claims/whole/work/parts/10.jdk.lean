def wp_J9_min_7cf53 (p0 : Int32) (p1 : Int32) (M : Mem) (post : Int32 → Mem → Prop) : Prop := ((p1 < p0 → post p1 M) ∧ (¬ p1 < p0 → post p0 M))
set_option maxRecDepth 100000 in
theorem wk_J9_min_7cf53 {X : CT} (p0 : Int32) (p1 : Int32) (hX : okX X RJ9 cJ9_min_7cf53 0 0) {M : Mem} {post : Int32 → Mem → Prop} (hret : ∀ (r : Int32) (M' : Mem), narrow .int (.int r) = .int r → post r M' → RetI X cJ9_min_7cf53 r M') (h : wp_J9_min_7cf53 p0 p1 M post) : Z X M 0 [some (.int p0), some (.int p1)] [] := by
  unfold wp_J9_min_7cf53 at h
  refine r_iload_n hX dJ9_min_7cf53_0 rfl rfl ?_
  refine r_iload_n hX dJ9_min_7cf53_1 rfl rfl ?_
  refine r_icmp_gt hX 9 dJ9_min_7cf53_2 (by decide) (fun hc => ?_) (fun hc => ?_)
  · have h := h.1 hc
    refine r_iload_n hX dJ9_min_7cf53_9 rfl rfl ?_
    exact r_iret (hret _ _ rfl h) dJ9_min_7cf53_10
  · have h := h.2 hc
    refine r_iload_n hX dJ9_min_7cf53_5 rfl rfl ?_
    refine r_goto hX 10 dJ9_min_7cf53_6 (by decide) ?_
    exact r_iret (hret _ _ rfl h) dJ9_min_7cf53_10
set_option maxRecDepth 100000 in
theorem c_J9_min_7cf53 {l : Launch} {D : va_G} {cs : CS3} {ad : Nat → Nat} (p0 : Int32) (p1 : Int32) {M : Mem} {post : Int32 → Mem → Prop} (h : wp_J9_min_7cf53 p0 p1 M post) : CtI l D cs ad yJ9_min_7cf53 cJ9_min_7cf53 2 (some .int) 0 0 [.int p0, .int p1] M post := met_I (k := 0) (fun ad => [.int p0, .int p1]) (fun ad => [some (.int p0), some (.int p1)]) (by decide +kernel) (fun _ => Nat.le_of_ble_eq_true rfl) (fun _ => rfl) (fun _ => rfl) (fun X hX hret => wk_J9_min_7cf53 p0 p1 hX hret h)
def wp_J9_abs_0f7a4 (p0 : Int32) (M : Mem) (post : Int32 → Mem → Prop) : Prop := ((0 ≤ p0 → post p0 M) ∧ (¬ 0 ≤ p0 → post (-p0) M))
set_option maxRecDepth 100000 in
theorem wk_J9_abs_0f7a4 {X : CT} (p0 : Int32) (hX : okX X RJ9 cJ9_abs_0f7a4 0 0) {M : Mem} {post : Int32 → Mem → Prop} (hret : ∀ (r : Int32) (M' : Mem), narrow .int (.int r) = .int r → post r M' → RetI X cJ9_abs_0f7a4 r M') (h : wp_J9_abs_0f7a4 p0 M post) : Z X M 0 [some (.int p0)] [] := by
  unfold wp_J9_abs_0f7a4 at h
  refine r_iload_n hX dJ9_abs_0f7a4_0 rfl rfl ?_
  refine r_if_ge hX 9 dJ9_abs_0f7a4_1 (by decide) (fun hc => ?_) (fun hc => ?_)
  · have h := h.1 hc
    refine r_iload_n hX dJ9_abs_0f7a4_9 rfl rfl ?_
    exact r_iret (hret _ _ rfl h) dJ9_abs_0f7a4_10
  · have h := h.2 hc
    refine r_iload_n hX dJ9_abs_0f7a4_4 rfl rfl ?_
    refine r_ineg hX dJ9_abs_0f7a4_5 ?_
    refine r_goto hX 10 dJ9_abs_0f7a4_6 (by decide) ?_
    exact r_iret (hret _ _ rfl h) dJ9_abs_0f7a4_10
set_option maxRecDepth 100000 in
theorem c_J9_abs_0f7a4 {l : Launch} {D : va_G} {cs : CS3} {ad : Nat → Nat} (p0 : Int32) {M : Mem} {post : Int32 → Mem → Prop} (h : wp_J9_abs_0f7a4 p0 M post) : CtI l D cs ad yJ9_abs_0f7a4 cJ9_abs_0f7a4 1 (some .int) 0 0 [.int p0] M post := met_I (k := 0) (fun ad => [.int p0]) (fun ad => [some (.int p0)]) (by decide +kernel) (fun _ => Nat.le_of_ble_eq_true rfl) (fun _ => rfl) (fun _ => rfl) (fun X hX hret => wk_J9_abs_0f7a4 p0 hX hret h)
def wp_J6_bitCount_0f7a4 (p0 : Int32) (M : Mem) (post : Int32 → Mem → Prop) : Prop := (∀ v1 : Int32, v1 = p0 - (((p0.toUInt32 >>> ((1 : Int32).toUInt32 &&& Int32.toUInt32 31)).toInt32) &&& 1431655765) → (∀ v2 : Int32, v2 = (v1 &&& 858993459) + (((v1.toUInt32 >>> ((2 : Int32).toUInt32 &&& Int32.toUInt32 31)).toInt32) &&& 858993459) → (∀ v3 : Int32, v3 = (v2 + ((v2.toUInt32 >>> ((4 : Int32).toUInt32 &&& Int32.toUInt32 31)).toInt32)) &&& 252645135 → (∀ v4 : Int32, v4 = v3 + ((v3.toUInt32 >>> ((8 : Int32).toUInt32 &&& Int32.toUInt32 31)).toInt32) → (∀ v5 : Int32, v5 = v4 + ((v4.toUInt32 >>> ((16 : Int32).toUInt32 &&& Int32.toUInt32 31)).toInt32) → post (v5 &&& 63) M)))))
set_option maxRecDepth 100000 in
theorem wk_J6_bitCount_0f7a4 {X : CT} (p0 : Int32) (hX : okX X RJ6 cJ6_bitCount_0f7a4 0 0) {M : Mem} {post : Int32 → Mem → Prop} (hret : ∀ (r : Int32) (M' : Mem), narrow .int (.int r) = .int r → post r M' → RetI X cJ6_bitCount_0f7a4 r M') (h : wp_J6_bitCount_0f7a4 p0 M post) : Z X M 0 [some (.int p0)] [] := by
  unfold wp_J6_bitCount_0f7a4 at h
  refine r_iload_n hX dJ6_bitCount_0f7a4_0 rfl rfl ?_
  refine r_iload_n hX dJ6_bitCount_0f7a4_1 rfl rfl ?_
  refine r_iconst (v := 1) hX dJ6_bitCount_0f7a4_2 (by decide) ?_
  refine r_iushr hX dJ6_bitCount_0f7a4_3 ?_
  refine r_ldcw (v := 1431655765) hX kw_J6_265 dJ6_bitCount_0f7a4_4 ?_
  refine r_iand hX dJ6_bitCount_0f7a4_7 ?_
  refine r_isub hX dJ6_bitCount_0f7a4_8 ?_
  refine r_nm (fun v1 ev1 => ?_)
  have h := h v1 ev1
  refine r_istore_n (L' := [some (.int v1)]) hX dJ6_bitCount_0f7a4_9 rfl (Nat.lt_of_ble rfl) rfl rfl ?_
  refine r_iload_n hX dJ6_bitCount_0f7a4_10 rfl rfl ?_
  refine r_ldcw (v := 858993459) hX kw_J6_266 dJ6_bitCount_0f7a4_11 ?_
  refine r_iand hX dJ6_bitCount_0f7a4_14 ?_
  refine r_iload_n hX dJ6_bitCount_0f7a4_15 rfl rfl ?_
  refine r_iconst (v := 2) hX dJ6_bitCount_0f7a4_16 (by decide) ?_
  refine r_iushr hX dJ6_bitCount_0f7a4_17 ?_
  refine r_ldcw (v := 858993459) hX kw_J6_266 dJ6_bitCount_0f7a4_18 ?_
  refine r_iand hX dJ6_bitCount_0f7a4_21 ?_
  refine r_iadd hX dJ6_bitCount_0f7a4_22 ?_
  refine r_nm (fun v2 ev2 => ?_)
  have h := h v2 ev2
  refine r_istore_n (L' := [some (.int v2)]) hX dJ6_bitCount_0f7a4_23 rfl (Nat.lt_of_ble rfl) rfl rfl ?_
  refine r_iload_n hX dJ6_bitCount_0f7a4_24 rfl rfl ?_
  refine r_iload_n hX dJ6_bitCount_0f7a4_25 rfl rfl ?_
  refine r_iconst (v := 4) hX dJ6_bitCount_0f7a4_26 (by decide) ?_
  refine r_iushr hX dJ6_bitCount_0f7a4_27 ?_
  refine r_iadd hX dJ6_bitCount_0f7a4_28 ?_
  refine r_ldcw (v := 252645135) hX kw_J6_267 dJ6_bitCount_0f7a4_29 ?_
  refine r_iand hX dJ6_bitCount_0f7a4_32 ?_
  refine r_nm (fun v3 ev3 => ?_)
  have h := h v3 ev3
  refine r_istore_n (L' := [some (.int v3)]) hX dJ6_bitCount_0f7a4_33 rfl (Nat.lt_of_ble rfl) rfl rfl ?_
  refine r_iload_n hX dJ6_bitCount_0f7a4_34 rfl rfl ?_
  refine r_iload_n hX dJ6_bitCount_0f7a4_35 rfl rfl ?_
  refine r_bipush (v := 8) hX dJ6_bitCount_0f7a4_36 (by decide) ?_
  refine r_iushr hX dJ6_bitCount_0f7a4_38 ?_
  refine r_iadd hX dJ6_bitCount_0f7a4_39 ?_
  refine r_nm (fun v4 ev4 => ?_)
  have h := h v4 ev4
  refine r_istore_n (L' := [some (.int v4)]) hX dJ6_bitCount_0f7a4_40 rfl (Nat.lt_of_ble rfl) rfl rfl ?_
  refine r_iload_n hX dJ6_bitCount_0f7a4_41 rfl rfl ?_
  refine r_iload_n hX dJ6_bitCount_0f7a4_42 rfl rfl ?_
  refine r_bipush (v := 16) hX dJ6_bitCount_0f7a4_43 (by decide) ?_
  refine r_iushr hX dJ6_bitCount_0f7a4_45 ?_
  refine r_iadd hX dJ6_bitCount_0f7a4_46 ?_
  refine r_nm (fun v5 ev5 => ?_)
  have h := h v5 ev5
  refine r_istore_n (L' := [some (.int v5)]) hX dJ6_bitCount_0f7a4_47 rfl (Nat.lt_of_ble rfl) rfl rfl ?_
  refine r_iload_n hX dJ6_bitCount_0f7a4_48 rfl rfl ?_
  refine r_bipush (v := 63) hX dJ6_bitCount_0f7a4_49 (by decide) ?_
  refine r_iand hX dJ6_bitCount_0f7a4_51 ?_
  exact r_iret (hret _ _ rfl h) dJ6_bitCount_0f7a4_52
set_option maxRecDepth 100000 in
theorem c_J6_bitCount_0f7a4 {l : Launch} {D : va_G} {cs : CS3} {ad : Nat → Nat} (p0 : Int32) {M : Mem} {post : Int32 → Mem → Prop} (h : wp_J6_bitCount_0f7a4 p0 M post) : CtI l D cs ad yJ6_bitCount_0f7a4 cJ6_bitCount_0f7a4 1 (some .int) 0 0 [.int p0] M post := met_I (k := 0) (fun ad => [.int p0]) (fun ad => [some (.int p0)]) (by decide +kernel) (fun _ => Nat.le_of_ble_eq_true rfl) (fun _ => rfl) (fun _ => rfl) (fun X hX hret => wk_J6_bitCount_0f7a4 p0 hX hret h)
