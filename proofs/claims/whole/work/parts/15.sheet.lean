def wp_X4_isEmpty (c0 : Nat) (M : Mem) (post : Int32 → Mem → Prop) : Prop := ((¬ (M c0 2) = (-1) → post 0 M) ∧ ((M c0 2) = (-1) → post 1 M))
set_option maxRecDepth 100000 in
theorem wk_X4_isEmpty {X : CT} (c0 : Nat) (hc0 : isS c0) (hX : okX X RX4 cX4_isEmpty 0 0) {M : Mem} {post : Int32 → Mem → Prop} (hret : ∀ (r : Int32) (M' : Mem), narrow .boolean (.int r) = .int r → post r M' → RetI X cX4_isEmpty r M') (h : wp_X4_isEmpty c0 M post) : Z X M 0 [some (.ref (adX X c0))] [] := by
  unfold wp_X4_isEmpty at h
  refine r_aload_n hX dX4_isEmpty_0 rfl rfl ?_
  refine r_getI hX fg_X4_19 hc0.l0 rfl dX4_isEmpty_1 ?_
  refine r_iconst (v := (-1)) hX dX4_isEmpty_4 (by decide) ?_
  refine r_icmp_ne hX 12 dX4_isEmpty_5 (by decide) (fun hc => ?_) (fun hc => ?_)
  · have h := h.1 hc
    refine r_iconst (v := 0) hX dX4_isEmpty_12 (by decide) ?_
    exact r_iret (hret _ _ rfl h) dX4_isEmpty_13
  · have h := h.2 hc
    refine r_iconst (v := 1) hX dX4_isEmpty_8 (by decide) ?_
    refine r_goto hX 13 dX4_isEmpty_9 (by decide) ?_
    exact r_iret (hret _ _ rfl h) dX4_isEmpty_13
set_option maxRecDepth 100000 in
theorem c_X4_isEmpty {l : Launch} {D : va_G} {cs : CS3} {ad : Nat → Nat} (c0 : Nat) (hc0 : isS c0) {M : Mem} {post : Int32 → Mem → Prop} (h : wp_X4_isEmpty c0 M post) : CtI l D cs ad yX4_isEmpty cX4_isEmpty 1 (some .boolean) 0 0 [.ref (ad c0)] M post := met_I (k := 0) (fun ad => [.ref (ad c0)]) (fun ad => [some (.ref (ad c0))]) (by decide +kernel) (fun _ => Nat.le_of_ble_eq_true rfl) (fun _ => rfl) (fun _ => rfl) (fun X hX hret => wk_X4_isEmpty c0 hc0 hX hret h)
def lp_X4_begin_12 (c0 : Nat) (p1 : Int32) (p2 : Int32) (post : Mem → Prop) : Nat → Int32 → Mem → Prop
  | 0, _, _ => False
  | n + 1, x3, M => ((60 ≤ x3 → post M) ∧ (¬ 60 ≤ x3 → (vp_in x3 60 ∧ ∀ M3 : Mem, M3 = up2 M (c0 + 4) x3.toNatClampNeg 0 → lp_X4_begin_12 c0 p1 p2 post n (x3 + 1) M3)))
set_option maxRecDepth 100000 in
theorem wl_X4_begin_12 {X : CT} (c0 : Nat) (p1 : Int32) (p2 : Int32) (hc0 : isS c0) (hX : okX X RX4 cX4_begin 0 0) {post : Mem → Prop} (hret : ∀ (M' : Mem), post M' → RetV X cX4_begin M') : ∀ (n : Nat) (x3 : Int32) (M : Mem), lp_X4_begin_12 c0 p1 p2 post n x3 M → Z X M 12 [some (.ref (adX X c0)), none, none, some (.int x3)] [] := by
  intro n
  induction n with
  | zero =>
    intro x3 M h
    exact False.elim h
  | succ n ih =>
    intro x3 M h
    unfold lp_X4_begin_12 at h
    refine r_iload_n hX dX4_begin_12 rfl rfl ?_
    refine r_bipush (v := 60) hX dX4_begin_13 (by decide) ?_
    refine r_icmp_ge hX 31 dX4_begin_15 (by decide) (fun hc => ?_) (fun hc => ?_)
    · have h := h.1 hc
      exact r_vret (hret _ h) dX4_begin_31
    · have h := h.2 hc
      refine r_aload_n hX dX4_begin_18 rfl rfl ?_
      refine r_getR hX fg_X4_9 hc0.l0 rfl dX4_begin_19 ?_
      refine r_iload_n hX dX4_begin_22 rfl rfl ?_
      refine r_iconst (v := 0) hX dX4_begin_23 (by decide) ?_
      refine r_iast hX hc0.l4 h.1 dX4_begin_24 ?_
      refine r_nmM (fun M3 eM3 => ?_)
      have h := h.2 M3 eM3
      refine r_iinc (v := x3 + 1) (L' := [some (.ref (adX X c0)), none, none, some (.int (x3 + 1))]) hX dX4_begin_25 rfl rfl rfl rfl ?_
      refine r_goto hX 12 dX4_begin_28 (by decide) ?_
      refine r_sub [some (.ref (adX X c0)), none, none, some (.int (x3 + 1))] (And.intro rfl (And.intro rfl trivial)) ?_
      exact ih _ _ h
def wp_X4_begin (c0 : Nat) (p1 : Int32) (p2 : Int32) (M : Mem) (post : Mem → Prop) : Prop := (∀ M1 : Mem, M1 = up2 M c0 1 p1 → (∀ M2 : Mem, M2 = up2 M1 c0 2 p2 → (∃ k, lp_X4_begin_12 c0 p1 p2 post k 0 M2)))
set_option maxRecDepth 100000 in
theorem wk_X4_begin {X : CT} (c0 : Nat) (p1 : Int32) (p2 : Int32) (hc0 : isS c0) (hX : okX X RX4 cX4_begin 0 0) {M : Mem} {post : Mem → Prop} (hret : ∀ (M' : Mem), post M' → RetV X cX4_begin M') (h : wp_X4_begin c0 p1 p2 M post) : Z X M 0 [some (.ref (adX X c0)), some (.int p1), some (.int p2), none] [] := by
  unfold wp_X4_begin at h
  refine r_aload_n hX dX4_begin_0 rfl rfl ?_
  refine r_iload_n hX dX4_begin_1 rfl rfl ?_
  refine r_putI hX fp_X4_15 hc0.l0 rfl dX4_begin_2 ?_
  refine r_nmM (fun M1 eM1 => ?_)
  have h := h M1 eM1
  refine r_aload_n hX dX4_begin_5 rfl rfl ?_
  refine r_iload_n hX dX4_begin_6 rfl rfl ?_
  refine r_putI hX fp_X4_19 hc0.l0 rfl dX4_begin_7 ?_
  refine r_nmM (fun M2 eM2 => ?_)
  have h := h M2 eM2
  refine r_iconst (v := 0) hX dX4_begin_10 (by decide) ?_
  refine r_istore_n (L' := [some (.ref (adX X c0)), some (.int p1), some (.int p2), some (.int 0)]) hX dX4_begin_11 rfl (Nat.lt_of_ble rfl) rfl rfl ?_
  obtain ⟨n4, h⟩ := h
  refine r_sub [some (.ref (adX X c0)), none, none, some (.int 0)] (And.intro rfl (And.intro rfl trivial)) ?_
  exact wl_X4_begin_12 c0 p1 p2 hc0 hX hret n4 _ _ h
set_option maxRecDepth 100000 in
theorem c_X4_begin {l : Launch} {D : va_G} {cs : CS3} {ad : Nat → Nat} (c0 : Nat) (p1 : Int32) (p2 : Int32) (hc0 : isS c0) {M : Mem} {post : Mem → Prop} (h : wp_X4_begin c0 p1 p2 M post) : CtV l D cs ad yX4_begin cX4_begin 4 none 0 0 [.ref (ad c0), .int p1, .int p2] M post := met_V (k := 1) (fun ad => [.ref (ad c0), .int p1, .int p2]) (fun ad => [some (.ref (ad c0)), some (.int p1), some (.int p2), none]) (by decide +kernel) (fun _ => Nat.le_of_ble_eq_true rfl) (fun _ => rfl) (fun _ => rfl) (fun X hX hret => wk_X4_begin c0 p1 p2 hc0 hX hret h)
def jn_X4_drop_12 (c0 : Nat) (post : Int32 → Mem → Prop) (s0 : Int32) (M : Mem) : Prop := (∀ M3 : Mem, M3 = up2 M c0 2 (-1) → (narrow .boolean (.int s0) = .int s0 ∧ post s0 M3))
set_option maxRecDepth 100000 in
theorem wj_X4_drop_12 {X : CT} (c0 : Nat) (hc0 : isS c0) (hX : okX X RX4 cX4_drop 1 20) {post : Int32 → Mem → Prop} (hret : ∀ (r : Int32) (M' : Mem), narrow .boolean (.int r) = .int r → post r M' → RetI X cX4_drop r M') (s0 : Int32) (M : Mem) (h : jn_X4_drop_12 c0 post s0 M) : Z X M 12 [some (.ref (adX X c0)), none] [.int s0] := by
  unfold jn_X4_drop_12 at h
  refine r_istore_n (L' := [some (.ref (adX X c0)), some (.int s0)]) hX dX4_drop_12 rfl (Nat.lt_of_ble rfl) rfl rfl ?_
  refine r_aload_n hX dX4_drop_13 rfl rfl ?_
  refine r_iconst (v := (-1)) hX dX4_drop_14 (by decide) ?_
  refine r_putI hX fp_X4_19 hc0.l0 rfl dX4_drop_15 ?_
  refine r_nmM (fun M3 eM3 => ?_)
  have h := h M3 eM3
  refine r_iload_n hX dX4_drop_18 rfl rfl ?_
  exact r_iret (hret _ _ h.1 h.2) dX4_drop_19
def wp_X4_drop (c0 : Nat) (M : Mem) (post : Int32 → Mem → Prop) : Prop := (wp_X4_isEmpty c0 M (fun r1 M2 => ((¬ r1 = 0 → jn_X4_drop_12 c0 post 0 M2) ∧ (r1 = 0 → jn_X4_drop_12 c0 post 1 M2))))
set_option maxRecDepth 100000 in
theorem wk_X4_drop {X : CT} (c0 : Nat) (hc0 : isS c0) (hX : okX X RX4 cX4_drop 1 20) {M : Mem} {post : Int32 → Mem → Prop} (hret : ∀ (r : Int32) (M' : Mem), narrow .boolean (.int r) = .int r → post r M' → RetI X cX4_drop r M') (h : wp_X4_drop c0 M post) : Z X M 0 [some (.ref (adX X c0)), none] [] := by
  unfold wp_X4_drop at h
  refine r_aload_n hX dX4_drop_0 rfl rfl ?_
  refine r_cVi0 hX fv_X4_22 hc0.l0 rfl ⟨Nat.le_of_ble_eq_true rfl, Nat.le_of_ble_eq_true rfl⟩ (c_X4_isEmpty c0 hc0 h) (Nat.le_of_ble_eq_true rfl) dX4_drop_1 (fun r1 M2 h => ?_)
  refine r_if_ne hX 11 dX4_drop_4 (by decide) (fun hc => ?_) (fun hc => ?_)
  · have h := h.1 hc
    refine r_iconst (v := 0) hX dX4_drop_11 (by decide) ?_
    refine r_sub [some (.ref (adX X c0)), none] (And.intro rfl trivial) ?_
    exact wj_X4_drop_12 c0 hc0 hX hret _ _ h
  · have h := h.2 hc
    refine r_iconst (v := 1) hX dX4_drop_7 (by decide) ?_
    refine r_goto hX 12 dX4_drop_8 (by decide) ?_
    refine r_sub [some (.ref (adX X c0)), none] (And.intro rfl trivial) ?_
    exact wj_X4_drop_12 c0 hc0 hX hret _ _ h
set_option maxRecDepth 100000 in
theorem c_X4_drop {l : Launch} {D : va_G} {cs : CS3} {ad : Nat → Nat} (c0 : Nat) (hc0 : isS c0) {M : Mem} {post : Int32 → Mem → Prop} (h : wp_X4_drop c0 M post) : CtI l D cs ad yX4_drop cX4_drop 2 (some .boolean) 1 20 [.ref (ad c0)] M post := met_I (k := 1) (fun ad => [.ref (ad c0)]) (fun ad => [some (.ref (ad c0)), none]) (by decide +kernel) (fun _ => Nat.le_of_ble_eq_true rfl) (fun _ => rfl) (fun _ => rfl) (fun X hX hret => wk_X4_drop c0 hc0 hX hret h)
def wp_X4_reaches (c0 : Nat) (p1 : Int32) (p2 : Int32) (M : Mem) (post : Int32 → Mem → Prop) : Prop := ((p1 < 0 → post 0 M) ∧ (¬ p1 < 0 → (((M c0 2) < p1 → post 0 M) ∧ (¬ (M c0 2) < p1 → ((p2 < 0 → post 0 M) ∧ (¬ p2 < 0 → ((((M c0 2) - p1) < p2 → post 0 M) ∧ (¬ ((M c0 2) - p1) < p2 → post 1 M))))))))
set_option maxRecDepth 100000 in
theorem wk_X4_reaches {X : CT} (c0 : Nat) (p1 : Int32) (p2 : Int32) (hc0 : isS c0) (hX : okX X RX4 cX4_reaches 0 0) {M : Mem} {post : Int32 → Mem → Prop} (hret : ∀ (r : Int32) (M' : Mem), narrow .boolean (.int r) = .int r → post r M' → RetI X cX4_reaches r M') (h : wp_X4_reaches c0 p1 p2 M post) : Z X M 0 [some (.ref (adX X c0)), some (.int p1), some (.int p2)] [] := by
  unfold wp_X4_reaches at h
  refine r_iload_n hX dX4_reaches_0 rfl rfl ?_
  refine r_if_lt hX 30 dX4_reaches_1 (by decide) (fun hc => ?_) (fun hc => ?_)
  · have h := h.1 hc
    refine r_iconst (v := 0) hX dX4_reaches_30 (by decide) ?_
    exact r_iret (hret _ _ rfl h) dX4_reaches_31
  · have h := h.2 hc
    refine r_iload_n hX dX4_reaches_4 rfl rfl ?_
    refine r_aload_n hX dX4_reaches_5 rfl rfl ?_
    refine r_getI hX fg_X4_19 hc0.l0 rfl dX4_reaches_6 ?_
    refine r_icmp_gt hX 30 dX4_reaches_9 (by decide) (fun hc => ?_) (fun hc => ?_)
    · have h := h.1 hc
      refine r_iconst (v := 0) hX dX4_reaches_30 (by decide) ?_
      exact r_iret (hret _ _ rfl h) dX4_reaches_31
    · have h := h.2 hc
      refine r_iload_n hX dX4_reaches_12 rfl rfl ?_
      refine r_if_lt hX 30 dX4_reaches_13 (by decide) (fun hc => ?_) (fun hc => ?_)
      · have h := h.1 hc
        refine r_iconst (v := 0) hX dX4_reaches_30 (by decide) ?_
        exact r_iret (hret _ _ rfl h) dX4_reaches_31
      · have h := h.2 hc
        refine r_iload_n hX dX4_reaches_16 rfl rfl ?_
        refine r_aload_n hX dX4_reaches_17 rfl rfl ?_
        refine r_getI hX fg_X4_19 hc0.l0 rfl dX4_reaches_18 ?_
        refine r_iload_n hX dX4_reaches_21 rfl rfl ?_
        refine r_isub hX dX4_reaches_22 ?_
        refine r_icmp_gt hX 30 dX4_reaches_23 (by decide) (fun hc => ?_) (fun hc => ?_)
        · have h := h.1 hc
          refine r_iconst (v := 0) hX dX4_reaches_30 (by decide) ?_
          exact r_iret (hret _ _ rfl h) dX4_reaches_31
        · have h := h.2 hc
          refine r_iconst (v := 1) hX dX4_reaches_26 (by decide) ?_
          refine r_goto hX 31 dX4_reaches_27 (by decide) ?_
          exact r_iret (hret _ _ rfl h) dX4_reaches_31
set_option maxRecDepth 100000 in
theorem c_X4_reaches {l : Launch} {D : va_G} {cs : CS3} {ad : Nat → Nat} (c0 : Nat) (p1 : Int32) (p2 : Int32) (hc0 : isS c0) {M : Mem} {post : Int32 → Mem → Prop} (h : wp_X4_reaches c0 p1 p2 M post) : CtI l D cs ad yX4_reaches cX4_reaches 3 (some .boolean) 0 0 [.ref (ad c0), .int p1, .int p2] M post := met_I (k := 0) (fun ad => [.ref (ad c0), .int p1, .int p2]) (fun ad => [some (.ref (ad c0)), some (.int p1), some (.int p2)]) (by decide +kernel) (fun _ => Nat.le_of_ble_eq_true rfl) (fun _ => rfl) (fun _ => rfl) (fun X hX hret => wk_X4_reaches c0 p1 p2 hc0 hX hret h)
def wp_X4_faultOfLane (c0 : Nat) (p1 : Int32) (M : Mem) (post : Int32 → Mem → Prop) : Prop := (wp_X4_isEmpty c0 M (fun r1 M2 => ((r1 = 0 → ((¬ (M2 c0 1) = p1 → post 2 M2) ∧ ((M2 c0 1) = p1 → post 0 M2))) ∧ (¬ r1 = 0 → post 1 M2))))
set_option maxRecDepth 100000 in
theorem wk_X4_faultOfLane {X : CT} (c0 : Nat) (p1 : Int32) (hc0 : isS c0) (hX : okX X RX4 cX4_faultOfLane 1 20) {M : Mem} {post : Int32 → Mem → Prop} (hret : ∀ (r : Int32) (M' : Mem), narrow .int (.int r) = .int r → post r M' → RetI X cX4_faultOfLane r M') (h : wp_X4_faultOfLane c0 p1 M post) : Z X M 0 [some (.ref (adX X c0)), some (.int p1)] [] := by
  unfold wp_X4_faultOfLane at h
  refine r_aload_n hX dX4_faultOfLane_0 rfl rfl ?_
  refine r_cVi0 hX fv_X4_22 hc0.l0 rfl ⟨Nat.le_of_ble_eq_true rfl, Nat.le_of_ble_eq_true rfl⟩ (c_X4_isEmpty c0 hc0 h) (Nat.le_of_ble_eq_true rfl) dX4_faultOfLane_1 (fun r1 M2 h => ?_)
  refine r_if_eq hX 9 dX4_faultOfLane_4 (by decide) (fun hc => ?_) (fun hc => ?_)
  · have h := h.1 hc
    refine r_aload_n hX dX4_faultOfLane_9 rfl rfl ?_
    refine r_getI hX fg_X4_15 hc0.l0 rfl dX4_faultOfLane_10 ?_
    refine r_iload_n hX dX4_faultOfLane_13 rfl rfl ?_
    refine r_icmp_ne hX 21 dX4_faultOfLane_14 (by decide) (fun hc => ?_) (fun hc => ?_)
    · have h := h.1 hc
      refine r_iconst (v := 2) hX dX4_faultOfLane_21 (by decide) ?_
      exact r_iret (hret _ _ rfl h) dX4_faultOfLane_22
    · have h := h.2 hc
      refine r_iconst (v := 0) hX dX4_faultOfLane_17 (by decide) ?_
      refine r_goto hX 22 dX4_faultOfLane_18 (by decide) ?_
      exact r_iret (hret _ _ rfl h) dX4_faultOfLane_22
  · have h := h.2 hc
    refine r_iconst (v := 1) hX dX4_faultOfLane_7 (by decide) ?_
    exact r_iret (hret _ _ rfl h) dX4_faultOfLane_8
set_option maxRecDepth 100000 in
theorem c_X4_faultOfLane {l : Launch} {D : va_G} {cs : CS3} {ad : Nat → Nat} (c0 : Nat) (p1 : Int32) (hc0 : isS c0) {M : Mem} {post : Int32 → Mem → Prop} (h : wp_X4_faultOfLane c0 p1 M post) : CtI l D cs ad yX4_faultOfLane cX4_faultOfLane 2 (some .int) 1 20 [.ref (ad c0), .int p1] M post := met_I (k := 0) (fun ad => [.ref (ad c0), .int p1]) (fun ad => [some (.ref (ad c0)), some (.int p1)]) (by decide +kernel) (fun _ => Nat.le_of_ble_eq_true rfl) (fun _ => rfl) (fun _ => rfl) (fun X hX hret => wk_X4_faultOfLane c0 p1 hc0 hX hret h)
def wp_X4_faultOfPlace (c0 : Nat) (p1 : Int32) (M : Mem) (post : Int32 → Mem → Prop) : Prop := (wp_X4_isEmpty c0 M (fun r1 M2 => ((r1 = 0 → ((p1 < 0 → post 3 M2) ∧ (¬ p1 < 0 → (((M2 c0 2) ≤ p1 → post 3 M2) ∧ (¬ (M2 c0 2) ≤ p1 → post 0 M2))))) ∧ (¬ r1 = 0 → post 1 M2))))
set_option maxRecDepth 100000 in
theorem wk_X4_faultOfPlace {X : CT} (c0 : Nat) (p1 : Int32) (hc0 : isS c0) (hX : okX X RX4 cX4_faultOfPlace 1 20) {M : Mem} {post : Int32 → Mem → Prop} (hret : ∀ (r : Int32) (M' : Mem), narrow .int (.int r) = .int r → post r M' → RetI X cX4_faultOfPlace r M') (h : wp_X4_faultOfPlace c0 p1 M post) : Z X M 0 [some (.ref (adX X c0)), some (.int p1)] [] := by
  unfold wp_X4_faultOfPlace at h
  refine r_aload_n hX dX4_faultOfPlace_0 rfl rfl ?_
  refine r_cVi0 hX fv_X4_22 hc0.l0 rfl ⟨Nat.le_of_ble_eq_true rfl, Nat.le_of_ble_eq_true rfl⟩ (c_X4_isEmpty c0 hc0 h) (Nat.le_of_ble_eq_true rfl) dX4_faultOfPlace_1 (fun r1 M2 h => ?_)
  refine r_if_eq hX 9 dX4_faultOfPlace_4 (by decide) (fun hc => ?_) (fun hc => ?_)
  · have h := h.1 hc
    refine r_iload_n hX dX4_faultOfPlace_9 rfl rfl ?_
    refine r_if_lt hX 25 dX4_faultOfPlace_10 (by decide) (fun hc => ?_) (fun hc => ?_)
    · have h := h.1 hc
      refine r_iconst (v := 3) hX dX4_faultOfPlace_25 (by decide) ?_
      exact r_iret (hret _ _ rfl h) dX4_faultOfPlace_26
    · have h := h.2 hc
      refine r_iload_n hX dX4_faultOfPlace_13 rfl rfl ?_
      refine r_aload_n hX dX4_faultOfPlace_14 rfl rfl ?_
      refine r_getI hX fg_X4_19 hc0.l0 rfl dX4_faultOfPlace_15 ?_
      refine r_icmp_ge hX 25 dX4_faultOfPlace_18 (by decide) (fun hc => ?_) (fun hc => ?_)
      · have h := h.1 hc
        refine r_iconst (v := 3) hX dX4_faultOfPlace_25 (by decide) ?_
        exact r_iret (hret _ _ rfl h) dX4_faultOfPlace_26
      · have h := h.2 hc
        refine r_iconst (v := 0) hX dX4_faultOfPlace_21 (by decide) ?_
        refine r_goto hX 26 dX4_faultOfPlace_22 (by decide) ?_
        exact r_iret (hret _ _ rfl h) dX4_faultOfPlace_26
  · have h := h.2 hc
    refine r_iconst (v := 1) hX dX4_faultOfPlace_7 (by decide) ?_
    exact r_iret (hret _ _ rfl h) dX4_faultOfPlace_8
set_option maxRecDepth 100000 in
theorem c_X4_faultOfPlace {l : Launch} {D : va_G} {cs : CS3} {ad : Nat → Nat} (c0 : Nat) (p1 : Int32) (hc0 : isS c0) {M : Mem} {post : Int32 → Mem → Prop} (h : wp_X4_faultOfPlace c0 p1 M post) : CtI l D cs ad yX4_faultOfPlace cX4_faultOfPlace 2 (some .int) 1 20 [.ref (ad c0), .int p1] M post := met_I (k := 0) (fun ad => [.ref (ad c0), .int p1]) (fun ad => [some (.ref (ad c0)), some (.int p1)]) (by decide +kernel) (fun _ => Nat.le_of_ble_eq_true rfl) (fun _ => rfl) (fun _ => rfl) (fun X hX hret => wk_X4_faultOfPlace c0 p1 hc0 hX hret h)
def wp_X4_faultOfCells (c0 : Nat) (p1 : Int32) (p2 : Int32) (p3 : Int32) (M : Mem) (post : Int32 → Mem → Prop) : Prop := (wp_X4_faultOfLane c0 p1 M (fun r1 M2 => ((r1 = 0 → ((0 ≤ p3 → (wp_X4_reaches c0 p2 p3 M2 (fun r3 M4 => ((r3 = 0 → post 3 M4) ∧ (¬ r3 = 0 → post 0 M4))))) ∧ (¬ 0 ≤ p3 → post 4 M2))) ∧ (¬ r1 = 0 → post r1 M2))))
set_option maxRecDepth 100000 in
theorem wk_X4_faultOfCells {X : CT} (c0 : Nat) (p1 : Int32) (p2 : Int32) (p3 : Int32) (hc0 : isS c0) (hX : okX X RX4 cX4_faultOfCells 2 41) {M : Mem} {post : Int32 → Mem → Prop} (hret : ∀ (r : Int32) (M' : Mem), narrow .int (.int r) = .int r → post r M' → RetI X cX4_faultOfCells r M') (h : wp_X4_faultOfCells c0 p1 p2 p3 M post) : Z X M 0 [some (.ref (adX X c0)), some (.int p1), some (.int p2), some (.int p3), none] [] := by
  unfold wp_X4_faultOfCells at h
  refine r_aload_n hX dX4_faultOfCells_0 rfl rfl ?_
  refine r_iload_n hX dX4_faultOfCells_1 rfl rfl ?_
  refine r_cVi1 hX fv_X4_26 hc0.l0 rfl ⟨Nat.le_of_ble_eq_true rfl, Nat.le_of_ble_eq_true rfl⟩ (c_X4_faultOfLane c0 p1 hc0 h) (Nat.le_of_ble_eq_true rfl) dX4_faultOfCells_2 (fun r1 M2 h => ?_)
  refine r_istore (L' := [some (.ref (adX X c0)), some (.int p1), some (.int p2), some (.int p3), some (.int r1)]) hX dX4_faultOfCells_5 (Nat.lt_of_ble rfl) rfl rfl ?_
  refine r_iload hX dX4_faultOfCells_7 rfl ?_
  refine r_if_eq hX 15 dX4_faultOfCells_9 (by decide) (fun hc => ?_) (fun hc => ?_)
  · have h := h.1 hc
    refine r_iload_n hX dX4_faultOfCells_15 rfl rfl ?_
    refine r_if_ge hX 21 dX4_faultOfCells_16 (by decide) (fun hc => ?_) (fun hc => ?_)
    · have h := h.1 hc
      refine r_aload_n hX dX4_faultOfCells_21 rfl rfl ?_
      refine r_iload_n hX dX4_faultOfCells_22 rfl rfl ?_
      refine r_iload_n hX dX4_faultOfCells_23 rfl rfl ?_
      refine r_cVi2 hX fv_X4_30 hc0.l0 rfl ⟨Nat.le_of_ble_eq_true rfl, Nat.le_of_ble_eq_true rfl⟩ (c_X4_reaches c0 p2 p3 hc0 h) (Nat.le_of_ble_eq_true rfl) dX4_faultOfCells_24 (fun r3 M4 h => ?_)
      refine r_if_eq hX 34 dX4_faultOfCells_27 (by decide) (fun hc => ?_) (fun hc => ?_)
      · have h := h.1 hc
        refine r_iconst (v := 3) hX dX4_faultOfCells_34 (by decide) ?_
        exact r_iret (hret _ _ rfl h) dX4_faultOfCells_35
      · have h := h.2 hc
        refine r_iconst (v := 0) hX dX4_faultOfCells_30 (by decide) ?_
        refine r_goto hX 35 dX4_faultOfCells_31 (by decide) ?_
        exact r_iret (hret _ _ rfl h) dX4_faultOfCells_35
    · have h := h.2 hc
      refine r_iconst (v := 4) hX dX4_faultOfCells_19 (by decide) ?_
      exact r_iret (hret _ _ rfl h) dX4_faultOfCells_20
  · have h := h.2 hc
    refine r_iload hX dX4_faultOfCells_12 rfl ?_
    exact r_iret (hret _ _ rfl h) dX4_faultOfCells_14
set_option maxRecDepth 100000 in
theorem c_X4_faultOfCells {l : Launch} {D : va_G} {cs : CS3} {ad : Nat → Nat} (c0 : Nat) (p1 : Int32) (p2 : Int32) (p3 : Int32) (hc0 : isS c0) {M : Mem} {post : Int32 → Mem → Prop} (h : wp_X4_faultOfCells c0 p1 p2 p3 M post) : CtI l D cs ad yX4_faultOfCells cX4_faultOfCells 5 (some .int) 2 41 [.ref (ad c0), .int p1, .int p2, .int p3] M post := met_I (k := 1) (fun ad => [.ref (ad c0), .int p1, .int p2, .int p3]) (fun ad => [some (.ref (ad c0)), some (.int p1), some (.int p2), some (.int p3), none]) (by decide +kernel) (fun _ => Nat.le_of_ble_eq_true rfl) (fun _ => rfl) (fun _ => rfl) (fun X hX hret => wk_X4_faultOfCells c0 p1 p2 p3 hc0 hX hret h)
def wp_X4_cut (c0 : Nat) (p1 : Int32) (M : Mem) (post : Int32 → Mem → Prop) : Prop := ((¬ (M c0 1) = 0 → ((¬ (M c0 1) = 1 → post p1 M) ∧ ((M c0 1) = 1 → post p1.toInt16.toInt32 M))) ∧ ((M c0 1) = 0 → post p1.toInt8.toInt32 M))
set_option maxRecDepth 100000 in
theorem wk_X4_cut {X : CT} (c0 : Nat) (p1 : Int32) (hc0 : isS c0) (hX : okX X RX4 cX4_cut 0 0) {M : Mem} {post : Int32 → Mem → Prop} (hret : ∀ (r : Int32) (M' : Mem), narrow .int (.int r) = .int r → post r M' → RetI X cX4_cut r M') (h : wp_X4_cut c0 p1 M post) : Z X M 0 [some (.ref (adX X c0)), some (.int p1)] [] := by
  unfold wp_X4_cut at h
  refine r_aload_n hX dX4_cut_0 rfl rfl ?_
  refine r_getI hX fg_X4_15 hc0.l0 rfl dX4_cut_1 ?_
  refine r_if_ne hX 10 dX4_cut_4 (by decide) (fun hc => ?_) (fun hc => ?_)
  · have h := h.1 hc
    refine r_aload_n hX dX4_cut_10 rfl rfl ?_
    refine r_getI hX fg_X4_15 hc0.l0 rfl dX4_cut_11 ?_
    refine r_iconst (v := 1) hX dX4_cut_14 (by decide) ?_
    refine r_icmp_ne hX 23 dX4_cut_15 (by decide) (fun hc => ?_) (fun hc => ?_)
    · have h := h.1 hc
      refine r_iload_n hX dX4_cut_23 rfl rfl ?_
      exact r_iret (hret _ _ rfl h) dX4_cut_24
    · have h := h.2 hc
      refine r_iload_n hX dX4_cut_18 rfl rfl ?_
      refine r_i2s hX dX4_cut_19 ?_
      refine r_goto hX 24 dX4_cut_20 (by decide) ?_
      exact r_iret (hret _ _ rfl h) dX4_cut_24
  · have h := h.2 hc
    refine r_iload_n hX dX4_cut_7 rfl rfl ?_
    refine r_i2b hX dX4_cut_8 ?_
    exact r_iret (hret _ _ rfl h) dX4_cut_9
set_option maxRecDepth 100000 in
theorem c_X4_cut {l : Launch} {D : va_G} {cs : CS3} {ad : Nat → Nat} (c0 : Nat) (p1 : Int32) (hc0 : isS c0) {M : Mem} {post : Int32 → Mem → Prop} (h : wp_X4_cut c0 p1 M post) : CtI l D cs ad yX4_cut cX4_cut 2 (some .int) 0 0 [.ref (ad c0), .int p1] M post := met_I (k := 0) (fun ad => [.ref (ad c0), .int p1]) (fun ad => [some (.ref (ad c0)), some (.int p1)]) (by decide +kernel) (fun _ => Nat.le_of_ble_eq_true rfl) (fun _ => rfl) (fun _ => rfl) (fun X hX hret => wk_X4_cut c0 p1 hc0 hX hret h)
def wp_X4_write (c0 : Nat) (p1 : Int32) (p2 : Int32) (M : Mem) (post : Mem → Prop) : Prop := (wp_X4_cut c0 p2 M (fun r1 M2 => (vp_in p1 60 ∧ ∀ M3 : Mem, M3 = up2 M2 (c0 + 4) p1.toNatClampNeg r1 → post M3)))
set_option maxRecDepth 100000 in
theorem wk_X4_write {X : CT} (c0 : Nat) (p1 : Int32) (p2 : Int32) (hc0 : isS c0) (hX : okX X RX4 cX4_write 1 21) {M : Mem} {post : Mem → Prop} (hret : ∀ (M' : Mem), post M' → RetV X cX4_write M') (h : wp_X4_write c0 p1 p2 M post) : Z X M 0 [some (.ref (adX X c0)), some (.int p1), some (.int p2)] [] := by
  unfold wp_X4_write at h
  refine r_aload_n hX dX4_write_0 rfl rfl ?_
  refine r_getR hX fg_X4_9 hc0.l0 rfl dX4_write_1 ?_
  refine r_iload_n hX dX4_write_4 rfl rfl ?_
  refine r_aload_n hX dX4_write_5 rfl rfl ?_
  refine r_iload_n hX dX4_write_6 rfl rfl ?_
  refine r_cVi1 hX fv_X4_34 hc0.l0 rfl ⟨Nat.le_of_ble_eq_true rfl, Nat.le_of_ble_eq_true rfl⟩ (c_X4_cut c0 p2 hc0 h) (Nat.le_of_ble_eq_true rfl) dX4_write_7 (fun r1 M2 h => ?_)
  refine r_iast hX hc0.l4 h.1 dX4_write_10 ?_
  refine r_nmM (fun M3 eM3 => ?_)
  have h := h.2 M3 eM3
  exact r_vret (hret _ h) dX4_write_11
set_option maxRecDepth 100000 in
theorem c_X4_write {l : Launch} {D : va_G} {cs : CS3} {ad : Nat → Nat} (c0 : Nat) (p1 : Int32) (p2 : Int32) (hc0 : isS c0) {M : Mem} {post : Mem → Prop} (h : wp_X4_write c0 p1 p2 M post) : CtV l D cs ad yX4_write cX4_write 3 none 1 21 [.ref (ad c0), .int p1, .int p2] M post := met_V (k := 0) (fun ad => [.ref (ad c0), .int p1, .int p2]) (fun ad => [some (.ref (ad c0)), some (.int p1), some (.int p2)]) (by decide +kernel) (fun _ => Nat.le_of_ble_eq_true rfl) (fun _ => rfl) (fun _ => rfl) (fun X hX hret => wk_X4_write c0 p1 p2 hc0 hX hret h)
