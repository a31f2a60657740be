def lwX (X : CT) (b Ls : Nat) (xs : Nat → Int32) : Prop := match X with
  | ((_, _, _, _, s, _, _, _, _, _), (A, _, _, _, _, _, _)) => va_X b Ls xs s s.heap ∧ b < s.heap.size ∧ ¬ A b
theorem r_sld {X : CT} {own : String} {cc : ByteArray} {f lo : Nat} {M : Mem} {pc : Nat} {L : List (Option Value)} {st : List Value} (hX : okX X own cc f lo) {b Ls : Nat} {xs : Nat → Int32} {i : Int32} (hlw : lwX X b Ls xs) (hi : vp_in i Ls) (hd : decode cc pc = .ok (.iaload, 1)) (kk : Z X M (pc + 1) L (.int (xs i.toNatClampNeg) :: st)) : Z X M pc L (.int i :: .ref b :: st) := by
  obtain ⟨⟨p, l, e, R, s, m, args, below, meth, c⟩, A, ad, cs, D, cells, slots, Q⟩ := X
  obtain ⟨hx, hb, hown, hts, hK, hA, hR⟩ := hX
  intro H locs ls hP hS hl
  exact va_sld hx hb hlw.1 hlw.2.1 hlw.2.2 hS hi hd (kk H locs ls hP hS hl)
theorem r_slen {X : CT} {own : String} {cc : ByteArray} {f lo : Nat} {M : Mem} {pc : Nat} {L : List (Option Value)} {st : List Value} (hX : okX X own cc f lo) {b Ls : Nat} {xs : Nat → Int32} (hlw : lwX X b Ls xs) (hd : decode cc pc = .ok (.arraylength, 1)) (kk : Z X M (pc + 1) L (.int (Int32.ofNat Ls) :: st)) : Z X M pc L (.ref b :: st) := by
  obtain ⟨⟨p, l, e, R, s, m, args, below, meth, c⟩, A, ad, cs, D, cells, slots, Q⟩ := X
  obtain ⟨hx, hb, hown, hts, hK, hA, hR⟩ := hX
  intro H locs ls hP hS hl
  exact va_slen hx hb hlw.1 hlw.2.1 hlw.2.2 hS hd (kk H locs ls hP hS hl)
theorem sw_out33 {x : Int32} (h0 : ¬ x = 0) (h1 : ¬ x = 1) (h2 : ¬ x = 2) (h3 : ¬ x = 3) (h4 : ¬ x = 4) (h5 : ¬ x = 5) (h6 : ¬ x = 6) (h7 : ¬ x = 7) (h8 : ¬ x = 8) (h9 : ¬ x = 9) (h10 : ¬ x = 10) (h11 : ¬ x = 11) (h12 : ¬ x = 12) (h13 : ¬ x = 13) (h14 : ¬ x = 14) (h15 : ¬ x = 15) (h16 : ¬ x = 16) (h17 : ¬ x = 17) (h18 : ¬ x = 18) (h19 : ¬ x = 19) (h20 : ¬ x = 20) (h21 : ¬ x = 21) (h22 : ¬ x = 22) (h23 : ¬ x = 23) (h24 : ¬ x = 24) (h25 : ¬ x = 25) (h26 : ¬ x = 26) (h27 : ¬ x = 27) (h28 : ¬ x = 28) (h29 : ¬ x = 29) (h30 : ¬ x = 30) (h31 : ¬ x = 31) (h32 : ¬ x = 32) : x.toInt < 0 ∨ 32 < x.toInt := by
  have a0 := sw_ne h0 (a := 0) (by decide)
  have a1 := sw_ne h1 (a := 1) (by decide)
  have a2 := sw_ne h2 (a := 2) (by decide)
  have a3 := sw_ne h3 (a := 3) (by decide)
  have a4 := sw_ne h4 (a := 4) (by decide)
  have a5 := sw_ne h5 (a := 5) (by decide)
  have a6 := sw_ne h6 (a := 6) (by decide)
  have a7 := sw_ne h7 (a := 7) (by decide)
  have a8 := sw_ne h8 (a := 8) (by decide)
  have a9 := sw_ne h9 (a := 9) (by decide)
  have a10 := sw_ne h10 (a := 10) (by decide)
  have a11 := sw_ne h11 (a := 11) (by decide)
  have a12 := sw_ne h12 (a := 12) (by decide)
  have a13 := sw_ne h13 (a := 13) (by decide)
  have a14 := sw_ne h14 (a := 14) (by decide)
  have a15 := sw_ne h15 (a := 15) (by decide)
  have a16 := sw_ne h16 (a := 16) (by decide)
  have a17 := sw_ne h17 (a := 17) (by decide)
  have a18 := sw_ne h18 (a := 18) (by decide)
  have a19 := sw_ne h19 (a := 19) (by decide)
  have a20 := sw_ne h20 (a := 20) (by decide)
  have a21 := sw_ne h21 (a := 21) (by decide)
  have a22 := sw_ne h22 (a := 22) (by decide)
  have a23 := sw_ne h23 (a := 23) (by decide)
  have a24 := sw_ne h24 (a := 24) (by decide)
  have a25 := sw_ne h25 (a := 25) (by decide)
  have a26 := sw_ne h26 (a := 26) (by decide)
  have a27 := sw_ne h27 (a := 27) (by decide)
  have a28 := sw_ne h28 (a := 28) (by decide)
  have a29 := sw_ne h29 (a := 29) (by decide)
  have a30 := sw_ne h30 (a := 30) (by decide)
  have a31 := sw_ne h31 (a := 31) (by decide)
  have a32 := sw_ne h32 (a := 32) (by decide)
  omega
theorem fv_L_13 : FV RL 13 RX5 yX5_hall cX5_hall 7 (some .int) 4 := ⟨in_g (List.mem_append_right _ (List.mem_of_getElem? (i := 184) (by decide +kernel))) rfl, in_g (List.mem_append_right _ (List.mem_of_getElem? (i := 185) (by decide +kernel))) rfl, in_g (List.mem_append_right _ (List.mem_of_getElem? (i := 186) (by decide +kernel))) rfl, in_g (List.mem_append_right _ (List.mem_of_getElem? (i := 1) (by decide +kernel))) rfl, in_g (List.mem_append_right _ (List.mem_of_getElem? (i := 187) (by decide +kernel))) rfl, rfl, by decide +kernel⟩
theorem fv_L_17 : FV RL 17 RX6 yX6_hall cX6_hall 8 (some .int) 4 := ⟨in_g (List.mem_append_right _ (List.mem_of_getElem? (i := 641) (by decide +kernel))) rfl, in_g (List.mem_append_right _ (List.mem_of_getElem? (i := 642) (by decide +kernel))) rfl, in_g (List.mem_append_right _ (List.mem_of_getElem? (i := 643) (by decide +kernel))) rfl, in_g (List.mem_append_right _ (List.mem_of_getElem? (i := 7) (by decide +kernel))) rfl, in_g (List.mem_append_right _ (List.mem_of_getElem? (i := 644) (by decide +kernel))) rfl, rfl, by decide +kernel⟩
theorem fv_L_18 : FV RL 18 RX5 yX5_ofChair cX5_ofChair 3 (some .int) 2 := ⟨in_g (List.mem_append_right _ (List.mem_of_getElem? (i := 230) (by decide +kernel))) rfl, in_g (List.mem_append_right _ (List.mem_of_getElem? (i := 231) (by decide +kernel))) rfl, in_g (List.mem_append_right _ (List.mem_of_getElem? (i := 232) (by decide +kernel))) rfl, in_g (List.mem_append_right _ (List.mem_of_getElem? (i := 1) (by decide +kernel))) rfl, in_g (List.mem_append_right _ (List.mem_of_getElem? (i := 233) (by decide +kernel))) rfl, rfl, by decide +kernel⟩
theorem fv_L_22 : FV RL 22 RX6 yX6_ofChair cX6_ofChair 3 (some .int) 2 := ⟨in_g (List.mem_append_right _ (List.mem_of_getElem? (i := 678) (by decide +kernel))) rfl, in_g (List.mem_append_right _ (List.mem_of_getElem? (i := 679) (by decide +kernel))) rfl, in_g (List.mem_append_right _ (List.mem_of_getElem? (i := 680) (by decide +kernel))) rfl, in_g (List.mem_append_right _ (List.mem_of_getElem? (i := 7) (by decide +kernel))) rfl, in_g (List.mem_append_right _ (List.mem_of_getElem? (i := 681) (by decide +kernel))) rfl, rfl, by decide +kernel⟩
theorem fv_L_23 : FV RL 23 RX5 yX5_slip cX5_slip 4 (some .int) 3 := ⟨in_g (List.mem_append_right _ (List.mem_of_getElem? (i := 238) (by decide +kernel))) rfl, in_g (List.mem_append_right _ (List.mem_of_getElem? (i := 239) (by decide +kernel))) rfl, in_g (List.mem_append_right _ (List.mem_of_getElem? (i := 240) (by decide +kernel))) rfl, in_g (List.mem_append_right _ (List.mem_of_getElem? (i := 1) (by decide +kernel))) rfl, in_g (List.mem_append_right _ (List.mem_of_getElem? (i := 241) (by decide +kernel))) rfl, rfl, by decide +kernel⟩
theorem fv_L_27 : FV RL 27 RX6 yX6_slip cX6_slip 4 (some .int) 3 := ⟨in_g (List.mem_append_right _ (List.mem_of_getElem? (i := 686) (by decide +kernel))) rfl, in_g (List.mem_append_right _ (List.mem_of_getElem? (i := 687) (by decide +kernel))) rfl, in_g (List.mem_append_right _ (List.mem_of_getElem? (i := 688) (by decide +kernel))) rfl, in_g (List.mem_append_right _ (List.mem_of_getElem? (i := 7) (by decide +kernel))) rfl, in_g (List.mem_append_right _ (List.mem_of_getElem? (i := 689) (by decide +kernel))) rfl, rfl, by decide +kernel⟩
theorem fv_L_28 : FV RL 28 RX5 yX5_ofSlip cX5_ofSlip 3 (some .int) 2 := ⟨in_g (List.mem_append_right _ (List.mem_of_getElem? (i := 257) (by decide +kernel))) rfl, in_g (List.mem_append_right _ (List.mem_of_getElem? (i := 258) (by decide +kernel))) rfl, in_g (List.mem_append_right _ (List.mem_of_getElem? (i := 259) (by decide +kernel))) rfl, in_g (List.mem_append_right _ (List.mem_of_getElem? (i := 1) (by decide +kernel))) rfl, in_g (List.mem_append_right _ (List.mem_of_getElem? (i := 260) (by decide +kernel))) rfl, rfl, by decide +kernel⟩
theorem fv_L_31 : FV RL 31 RX6 yX6_ofSlip cX6_ofSlip 3 (some .int) 2 := ⟨in_g (List.mem_append_right _ (List.mem_of_getElem? (i := 697) (by decide +kernel))) rfl, in_g (List.mem_append_right _ (List.mem_of_getElem? (i := 698) (by decide +kernel))) rfl, in_g (List.mem_append_right _ (List.mem_of_getElem? (i := 699) (by decide +kernel))) rfl, in_g (List.mem_append_right _ (List.mem_of_getElem? (i := 7) (by decide +kernel))) rfl, in_g (List.mem_append_right _ (List.mem_of_getElem? (i := 700) (by decide +kernel))) rfl, rfl, by decide +kernel⟩
theorem fv_L_32 : FV RL 32 RX5 yX5_unsay cX5_unsay 2 (some .int) 1 := ⟨in_g (List.mem_append_right _ (List.mem_of_getElem? (i := 265) (by decide +kernel))) rfl, in_g (List.mem_append_right _ (List.mem_of_getElem? (i := 266) (by decide +kernel))) rfl, in_g (List.mem_append_right _ (List.mem_of_getElem? (i := 267) (by decide +kernel))) rfl, in_g (List.mem_append_right _ (List.mem_of_getElem? (i := 1) (by decide +kernel))) rfl, in_g (List.mem_append_right _ (List.mem_of_getElem? (i := 268) (by decide +kernel))) rfl, rfl, by decide +kernel⟩
theorem fv_L_36 : FV RL 36 RX6 yX6_unsay cX6_unsay 2 (some .int) 1 := ⟨in_g (List.mem_append_right _ (List.mem_of_getElem? (i := 705) (by decide +kernel))) rfl, in_g (List.mem_append_right _ (List.mem_of_getElem? (i := 706) (by decide +kernel))) rfl, in_g (List.mem_append_right _ (List.mem_of_getElem? (i := 707) (by decide +kernel))) rfl, in_g (List.mem_append_right _ (List.mem_of_getElem? (i := 7) (by decide +kernel))) rfl, in_g (List.mem_append_right _ (List.mem_of_getElem? (i := 708) (by decide +kernel))) rfl, rfl, by decide +kernel⟩
theorem fv_L_37 : FV RL 37 RX5 yX5_butter cX5_butter 4 (some .int) 3 := ⟨in_g (List.mem_append_right _ (List.mem_of_getElem? (i := 273) (by decide +kernel))) rfl, in_g (List.mem_append_right _ (List.mem_of_getElem? (i := 274) (by decide +kernel))) rfl, in_g (List.mem_append_right _ (List.mem_of_getElem? (i := 275) (by decide +kernel))) rfl, in_g (List.mem_append_right _ (List.mem_of_getElem? (i := 1) (by decide +kernel))) rfl, in_g (List.mem_append_right _ (List.mem_of_getElem? (i := 276) (by decide +kernel))) rfl, rfl, by decide +kernel⟩
theorem fv_L_40 : FV RL 40 RX6 yX6_butter cX6_butter 4 (some .int) 3 := ⟨in_g (List.mem_append_right _ (List.mem_of_getElem? (i := 709) (by decide +kernel))) rfl, in_g (List.mem_append_right _ (List.mem_of_getElem? (i := 710) (by decide +kernel))) rfl, in_g (List.mem_append_right _ (List.mem_of_getElem? (i := 711) (by decide +kernel))) rfl, in_g (List.mem_append_right _ (List.mem_of_getElem? (i := 7) (by decide +kernel))) rfl, in_g (List.mem_append_right _ (List.mem_of_getElem? (i := 712) (by decide +kernel))) rfl, rfl, by decide +kernel⟩
theorem fv_L_41 : FV RL 41 RX5 yX5_melt cX5_melt 2 (some .int) 1 := ⟨in_g (List.mem_append_right _ (List.mem_of_getElem? (i := 277) (by decide +kernel))) rfl, in_g (List.mem_append_right _ (List.mem_of_getElem? (i := 278) (by decide +kernel))) rfl, in_g (List.mem_append_right _ (List.mem_of_getElem? (i := 279) (by decide +kernel))) rfl, in_g (List.mem_append_right _ (List.mem_of_getElem? (i := 1) (by decide +kernel))) rfl, in_g (List.mem_append_right _ (List.mem_of_getElem? (i := 280) (by decide +kernel))) rfl, rfl, by decide +kernel⟩
theorem fv_L_44 : FV RL 44 RX6 yX6_melt cX6_melt 2 (some .int) 1 := ⟨in_g (List.mem_append_right _ (List.mem_of_getElem? (i := 713) (by decide +kernel))) rfl, in_g (List.mem_append_right _ (List.mem_of_getElem? (i := 714) (by decide +kernel))) rfl, in_g (List.mem_append_right _ (List.mem_of_getElem? (i := 715) (by decide +kernel))) rfl, in_g (List.mem_append_right _ (List.mem_of_getElem? (i := 7) (by decide +kernel))) rfl, in_g (List.mem_append_right _ (List.mem_of_getElem? (i := 716) (by decide +kernel))) rfl, rfl, by decide +kernel⟩
theorem fv_L_45 : FV RL 45 RX5 yX5_bears cX5_bears 4 (some .int) 3 := ⟨in_g (List.mem_append_right _ (List.mem_of_getElem? (i := 281) (by decide +kernel))) rfl, in_g (List.mem_append_right _ (List.mem_of_getElem? (i := 282) (by decide +kernel))) rfl, in_g (List.mem_append_right _ (List.mem_of_getElem? (i := 283) (by decide +kernel))) rfl, in_g (List.mem_append_right _ (List.mem_of_getElem? (i := 1) (by decide +kernel))) rfl, in_g (List.mem_append_right _ (List.mem_of_getElem? (i := 284) (by decide +kernel))) rfl, rfl, by decide +kernel⟩
theorem fv_L_48 : FV RL 48 RX6 yX6_bears cX6_bears 4 (some .int) 3 := ⟨in_g (List.mem_append_right _ (List.mem_of_getElem? (i := 717) (by decide +kernel))) rfl, in_g (List.mem_append_right _ (List.mem_of_getElem? (i := 718) (by decide +kernel))) rfl, in_g (List.mem_append_right _ (List.mem_of_getElem? (i := 719) (by decide +kernel))) rfl, in_g (List.mem_append_right _ (List.mem_of_getElem? (i := 7) (by decide +kernel))) rfl, in_g (List.mem_append_right _ (List.mem_of_getElem? (i := 720) (by decide +kernel))) rfl, rfl, by decide +kernel⟩
theorem fv_L_49 : FV RL 49 RX5 yX5_whom cX5_whom 3 (some .int) 2 := ⟨in_g (List.mem_append_right _ (List.mem_of_getElem? (i := 316) (by decide +kernel))) rfl, in_g (List.mem_append_right _ (List.mem_of_getElem? (i := 317) (by decide +kernel))) rfl, in_g (List.mem_append_right _ (List.mem_of_getElem? (i := 318) (by decide +kernel))) rfl, in_g (List.mem_append_right _ (List.mem_of_getElem? (i := 1) (by decide +kernel))) rfl, in_g (List.mem_append_right _ (List.mem_of_getElem? (i := 319) (by decide +kernel))) rfl, rfl, by decide +kernel⟩
theorem fv_L_52 : FV RL 52 RX6 yX6_whom cX6_whom 5 (some .int) 2 := ⟨in_g (List.mem_append_right _ (List.mem_of_getElem? (i := 733) (by decide +kernel))) rfl, in_g (List.mem_append_right _ (List.mem_of_getElem? (i := 734) (by decide +kernel))) rfl, in_g (List.mem_append_right _ (List.mem_of_getElem? (i := 735) (by decide +kernel))) rfl, in_g (List.mem_append_right _ (List.mem_of_getElem? (i := 7) (by decide +kernel))) rfl, in_g (List.mem_append_right _ (List.mem_of_getElem? (i := 736) (by decide +kernel))) rfl, rfl, by decide +kernel⟩
theorem fv_L_53 : FV RL 53 RX5 yX5_seats cX5_seats 5 (some .int) 2 := ⟨in_g (List.mem_append_right _ (List.mem_of_getElem? (i := 320) (by decide +kernel))) rfl, in_g (List.mem_append_right _ (List.mem_of_getElem? (i := 321) (by decide +kernel))) rfl, in_g (List.mem_append_right _ (List.mem_of_getElem? (i := 322) (by decide +kernel))) rfl, in_g (List.mem_append_right _ (List.mem_of_getElem? (i := 1) (by decide +kernel))) rfl, in_g (List.mem_append_right _ (List.mem_of_getElem? (i := 323) (by decide +kernel))) rfl, rfl, by decide +kernel⟩
theorem fv_L_56 : FV RL 56 RX6 yX6_seats cX6_seats 6 (some .int) 2 := ⟨in_g (List.mem_append_right _ (List.mem_of_getElem? (i := 737) (by decide +kernel))) rfl, in_g (List.mem_append_right _ (List.mem_of_getElem? (i := 738) (by decide +kernel))) rfl, in_g (List.mem_append_right _ (List.mem_of_getElem? (i := 739) (by decide +kernel))) rfl, in_g (List.mem_append_right _ (List.mem_of_getElem? (i := 7) (by decide +kernel))) rfl, in_g (List.mem_append_right _ (List.mem_of_getElem? (i := 740) (by decide +kernel))) rfl, rfl, by decide +kernel⟩
theorem fv_L_57 : FV RL 57 RX5 yX5_few cX5_few 3 (some .int) 1 := ⟨in_g (List.mem_append_right _ (List.mem_of_getElem? (i := 355) (by decide +kernel))) rfl, in_g (List.mem_append_right _ (List.mem_of_getElem? (i := 356) (by decide +kernel))) rfl, in_g (List.mem_append_right _ (List.mem_of_getElem? (i := 357) (by decide +kernel))) rfl, in_g (List.mem_append_right _ (List.mem_of_getElem? (i := 1) (by decide +kernel))) rfl, in_g (List.mem_append_right _ (List.mem_of_getElem? (i := 358) (by decide +kernel))) rfl, rfl, by decide +kernel⟩
theorem fv_L_60 : FV RL 60 RX6 yX6_few cX6_few 6 (some .int) 1 := ⟨in_g (List.mem_append_right _ (List.mem_of_getElem? (i := 765) (by decide +kernel))) rfl, in_g (List.mem_append_right _ (List.mem_of_getElem? (i := 766) (by decide +kernel))) rfl, in_g (List.mem_append_right _ (List.mem_of_getElem? (i := 767) (by decide +kernel))) rfl, in_g (List.mem_append_right _ (List.mem_of_getElem? (i := 7) (by decide +kernel))) rfl, in_g (List.mem_append_right _ (List.mem_of_getElem? (i := 768) (by decide +kernel))) rfl, rfl, by decide +kernel⟩
theorem fv_L_61 : FV RL 61 RX5 yX5_tipped cX5_tipped 7 (some .int) 5 := ⟨in_g (List.mem_append_right _ (List.mem_of_getElem? (i := 373) (by decide +kernel))) rfl, in_g (List.mem_append_right _ (List.mem_of_getElem? (i := 374) (by decide +kernel))) rfl, in_g (List.mem_append_right _ (List.mem_of_getElem? (i := 375) (by decide +kernel))) rfl, in_g (List.mem_append_right _ (List.mem_of_getElem? (i := 1) (by decide +kernel))) rfl, in_g (List.mem_append_right _ (List.mem_of_getElem? (i := 376) (by decide +kernel))) rfl, rfl, by decide +kernel⟩
theorem fv_L_65 : FV RL 65 RX6 yX6_tipped cX6_tipped 9 (some .int) 5 := ⟨in_g (List.mem_append_right _ (List.mem_of_getElem? (i := 772) (by decide +kernel))) rfl, in_g (List.mem_append_right _ (List.mem_of_getElem? (i := 773) (by decide +kernel))) rfl, in_g (List.mem_append_right _ (List.mem_of_getElem? (i := 774) (by decide +kernel))) rfl, in_g (List.mem_append_right _ (List.mem_of_getElem? (i := 7) (by decide +kernel))) rfl, in_g (List.mem_append_right _ (List.mem_of_getElem? (i := 775) (by decide +kernel))) rfl, rfl, by decide +kernel⟩
theorem fv_L_66 : FV RL 66 RX5 yX5_least cX5_least 5 (some .int) 2 := ⟨in_g (List.mem_append_right _ (List.mem_of_getElem? (i := 387) (by decide +kernel))) rfl, in_g (List.mem_append_right _ (List.mem_of_getElem? (i := 388) (by decide +kernel))) rfl, in_g (List.mem_append_right _ (List.mem_of_getElem? (i := 389) (by decide +kernel))) rfl, in_g (List.mem_append_right _ (List.mem_of_getElem? (i := 1) (by decide +kernel))) rfl, in_g (List.mem_append_right _ (List.mem_of_getElem? (i := 390) (by decide +kernel))) rfl, rfl, by decide +kernel⟩
theorem fv_L_69 : FV RL 69 RX6 yX6_least cX6_least 7 (some .int) 2 := ⟨in_g (List.mem_append_right _ (List.mem_of_getElem? (i := 780) (by decide +kernel))) rfl, in_g (List.mem_append_right _ (List.mem_of_getElem? (i := 781) (by decide +kernel))) rfl, in_g (List.mem_append_right _ (List.mem_of_getElem? (i := 782) (by decide +kernel))) rfl, in_g (List.mem_append_right _ (List.mem_of_getElem? (i := 7) (by decide +kernel))) rfl, in_g (List.mem_append_right _ (List.mem_of_getElem? (i := 783) (by decide +kernel))) rfl, rfl, by decide +kernel⟩
theorem fv_L_70 : FV RL 70 RX5 yX5_when cX5_when 4 (some .int) 1 := ⟨in_g (List.mem_append_right _ (List.mem_of_getElem? (i := 395) (by decide +kernel))) rfl, in_g (List.mem_append_right _ (List.mem_of_getElem? (i := 396) (by decide +kernel))) rfl, in_g (List.mem_append_right _ (List.mem_of_getElem? (i := 397) (by decide +kernel))) rfl, in_g (List.mem_append_right _ (List.mem_of_getElem? (i := 1) (by decide +kernel))) rfl, in_g (List.mem_append_right _ (List.mem_of_getElem? (i := 398) (by decide +kernel))) rfl, rfl, by decide +kernel⟩
theorem fv_L_73 : FV RL 73 RX6 yX6_when cX6_when 3 (some .int) 1 := ⟨in_g (List.mem_append_right _ (List.mem_of_getElem? (i := 784) (by decide +kernel))) rfl, in_g (List.mem_append_right _ (List.mem_of_getElem? (i := 785) (by decide +kernel))) rfl, in_g (List.mem_append_right _ (List.mem_of_getElem? (i := 786) (by decide +kernel))) rfl, in_g (List.mem_append_right _ (List.mem_of_getElem? (i := 7) (by decide +kernel))) rfl, in_g (List.mem_append_right _ (List.mem_of_getElem? (i := 787) (by decide +kernel))) rfl, rfl, by decide +kernel⟩
theorem fv_L_74 : FV RL 74 RX5 yX5_fresh cX5_fresh 4 (some .int) 2 := ⟨in_g (List.mem_append_right _ (List.mem_of_getElem? (i := 403) (by decide +kernel))) rfl, in_g (List.mem_append_right _ (List.mem_of_getElem? (i := 404) (by decide +kernel))) rfl, in_g (List.mem_append_right _ (List.mem_of_getElem? (i := 405) (by decide +kernel))) rfl, in_g (List.mem_append_right _ (List.mem_of_getElem? (i := 1) (by decide +kernel))) rfl, in_g (List.mem_append_right _ (List.mem_of_getElem? (i := 406) (by decide +kernel))) rfl, rfl, by decide +kernel⟩
theorem fv_L_77 : FV RL 77 RX6 yX6_fresh cX6_fresh 5 (some .int) 2 := ⟨in_g (List.mem_append_right _ (List.mem_of_getElem? (i := 796) (by decide +kernel))) rfl, in_g (List.mem_append_right _ (List.mem_of_getElem? (i := 797) (by decide +kernel))) rfl, in_g (List.mem_append_right _ (List.mem_of_getElem? (i := 798) (by decide +kernel))) rfl, in_g (List.mem_append_right _ (List.mem_of_getElem? (i := 7) (by decide +kernel))) rfl, in_g (List.mem_append_right _ (List.mem_of_getElem? (i := 799) (by decide +kernel))) rfl, rfl, by decide +kernel⟩
theorem fv_L_78 : FV RL 78 RX5 yX5_reading cX5_reading 6 (some .int) 4 := ⟨in_g (List.mem_append_right _ (List.mem_of_getElem? (i := 408) (by decide +kernel))) rfl, in_g (List.mem_append_right _ (List.mem_of_getElem? (i := 409) (by decide +kernel))) rfl, in_g (List.mem_append_right _ (List.mem_of_getElem? (i := 410) (by decide +kernel))) rfl, in_g (List.mem_append_right _ (List.mem_of_getElem? (i := 1) (by decide +kernel))) rfl, in_g (List.mem_append_right _ (List.mem_of_getElem? (i := 411) (by decide +kernel))) rfl, rfl, by decide +kernel⟩
theorem fv_L_82 : FV RL 82 RX6 yX6_reading cX6_reading 5 (some .int) 4 := ⟨in_g (List.mem_append_right _ (List.mem_of_getElem? (i := 800) (by decide +kernel))) rfl, in_g (List.mem_append_right _ (List.mem_of_getElem? (i := 801) (by decide +kernel))) rfl, in_g (List.mem_append_right _ (List.mem_of_getElem? (i := 802) (by decide +kernel))) rfl, in_g (List.mem_append_right _ (List.mem_of_getElem? (i := 7) (by decide +kernel))) rfl, in_g (List.mem_append_right _ (List.mem_of_getElem? (i := 803) (by decide +kernel))) rfl, rfl, by decide +kernel⟩
theorem fv_L_83 : FV RL 83 RX5 yX5_back cX5_back 2 (some .int) 1 := ⟨in_g (List.mem_append_right _ (List.mem_of_getElem? (i := 412) (by decide +kernel))) rfl, in_g (List.mem_append_right _ (List.mem_of_getElem? (i := 413) (by decide +kernel))) rfl, in_g (List.mem_append_right _ (List.mem_of_getElem? (i := 414) (by decide +kernel))) rfl, in_g (List.mem_append_right _ (List.mem_of_getElem? (i := 1) (by decide +kernel))) rfl, in_g (List.mem_append_right _ (List.mem_of_getElem? (i := 415) (by decide +kernel))) rfl, rfl, by decide +kernel⟩
theorem fv_L_86 : FV RL 86 RX6 yX6_back cX6_back 2 (some .int) 1 := ⟨in_g (List.mem_append_right _ (List.mem_of_getElem? (i := 804) (by decide +kernel))) rfl, in_g (List.mem_append_right _ (List.mem_of_getElem? (i := 805) (by decide +kernel))) rfl, in_g (List.mem_append_right _ (List.mem_of_getElem? (i := 806) (by decide +kernel))) rfl, in_g (List.mem_append_right _ (List.mem_of_getElem? (i := 7) (by decide +kernel))) rfl, in_g (List.mem_append_right _ (List.mem_of_getElem? (i := 807) (by decide +kernel))) rfl, rfl, by decide +kernel⟩
theorem fv_L_87 : FV RL 87 RX5 yX5_times cX5_times 2 (some .int) 1 := ⟨in_g (List.mem_append_right _ (List.mem_of_getElem? (i := 416) (by decide +kernel))) rfl, in_g (List.mem_append_right _ (List.mem_of_getElem? (i := 417) (by decide +kernel))) rfl, in_g (List.mem_append_right _ (List.mem_of_getElem? (i := 418) (by decide +kernel))) rfl, in_g (List.mem_append_right _ (List.mem_of_getElem? (i := 1) (by decide +kernel))) rfl, in_g (List.mem_append_right _ (List.mem_of_getElem? (i := 419) (by decide +kernel))) rfl, rfl, by decide +kernel⟩
theorem fv_L_90 : FV RL 90 RX6 yX6_times cX6_times 5 (some .int) 1 := ⟨in_g (List.mem_append_right _ (List.mem_of_getElem? (i := 808) (by decide +kernel))) rfl, in_g (List.mem_append_right _ (List.mem_of_getElem? (i := 809) (by decide +kernel))) rfl, in_g (List.mem_append_right _ (List.mem_of_getElem? (i := 810) (by decide +kernel))) rfl, in_g (List.mem_append_right _ (List.mem_of_getElem? (i := 7) (by decide +kernel))) rfl, in_g (List.mem_append_right _ (List.mem_of_getElem? (i := 811) (by decide +kernel))) rfl, rfl, by decide +kernel⟩
theorem fv_L_91 : FV RL 91 RX5 yX5_grudges cX5_grudges 2 (some .int) 1 := ⟨in_g (List.mem_append_right _ (List.mem_of_getElem? (i := 428) (by decide +kernel))) rfl, in_g (List.mem_append_right _ (List.mem_of_getElem? (i := 429) (by decide +kernel))) rfl, in_g (List.mem_append_right _ (List.mem_of_getElem? (i := 430) (by decide +kernel))) rfl, in_g (List.mem_append_right _ (List.mem_of_getElem? (i := 1) (by decide +kernel))) rfl, in_g (List.mem_append_right _ (List.mem_of_getElem? (i := 431) (by decide +kernel))) rfl, rfl, by decide +kernel⟩
theorem fv_L_94 : FV RL 94 RX6 yX6_grudges cX6_grudges 5 (some .int) 1 := ⟨in_g (List.mem_append_right _ (List.mem_of_getElem? (i := 816) (by decide +kernel))) rfl, in_g (List.mem_append_right _ (List.mem_of_getElem? (i := 817) (by decide +kernel))) rfl, in_g (List.mem_append_right _ (List.mem_of_getElem? (i := 818) (by decide +kernel))) rfl, in_g (List.mem_append_right _ (List.mem_of_getElem? (i := 7) (by decide +kernel))) rfl, in_g (List.mem_append_right _ (List.mem_of_getElem? (i := 819) (by decide +kernel))) rfl, rfl, by decide +kernel⟩
theorem fv_L_95 : FV RL 95 RX5 yX5_ears cX5_ears 2 (some .int) 1 := ⟨in_g (List.mem_append_right _ (List.mem_of_getElem? (i := 432) (by decide +kernel))) rfl, in_g (List.mem_append_right _ (List.mem_of_getElem? (i := 433) (by decide +kernel))) rfl, in_g (List.mem_append_right _ (List.mem_of_getElem? (i := 434) (by decide +kernel))) rfl, in_g (List.mem_append_right _ (List.mem_of_getElem? (i := 1) (by decide +kernel))) rfl, in_g (List.mem_append_right _ (List.mem_of_getElem? (i := 435) (by decide +kernel))) rfl, rfl, by decide +kernel⟩
theorem fv_L_98 : FV RL 98 RX6 yX6_ears cX6_ears 5 (some .int) 1 := ⟨in_g (List.mem_append_right _ (List.mem_of_getElem? (i := 820) (by decide +kernel))) rfl, in_g (List.mem_append_right _ (List.mem_of_getElem? (i := 821) (by decide +kernel))) rfl, in_g (List.mem_append_right _ (List.mem_of_getElem? (i := 822) (by decide +kernel))) rfl, in_g (List.mem_append_right _ (List.mem_of_getElem? (i := 7) (by decide +kernel))) rfl, in_g (List.mem_append_right _ (List.mem_of_getElem? (i := 823) (by decide +kernel))) rfl, rfl, by decide +kernel⟩
theorem fv_L_99 : FV RL 99 RX5 yX5_kinds cX5_kinds 2 (some .int) 1 := ⟨in_g (List.mem_append_right _ (List.mem_of_getElem? (i := 436) (by decide +kernel))) rfl, in_g (List.mem_append_right _ (List.mem_of_getElem? (i := 437) (by decide +kernel))) rfl, in_g (List.mem_append_right _ (List.mem_of_getElem? (i := 438) (by decide +kernel))) rfl, in_g (List.mem_append_right _ (List.mem_of_getElem? (i := 1) (by decide +kernel))) rfl, in_g (List.mem_append_right _ (List.mem_of_getElem? (i := 439) (by decide +kernel))) rfl, rfl, by decide +kernel⟩
theorem fv_L_102 : FV RL 102 RX6 yX6_kinds cX6_kinds 5 (some .int) 1 := ⟨in_g (List.mem_append_right _ (List.mem_of_getElem? (i := 824) (by decide +kernel))) rfl, in_g (List.mem_append_right _ (List.mem_of_getElem? (i := 825) (by decide +kernel))) rfl, in_g (List.mem_append_right _ (List.mem_of_getElem? (i := 826) (by decide +kernel))) rfl, in_g (List.mem_append_right _ (List.mem_of_getElem? (i := 7) (by decide +kernel))) rfl, in_g (List.mem_append_right _ (List.mem_of_getElem? (i := 827) (by decide +kernel))) rfl, rfl, by decide +kernel⟩
theorem fv_L_103 : FV RL 103 RX5 yX5_odds cX5_odds 6 (some .long) 2 := ⟨in_g (List.mem_append_right _ (List.mem_of_getElem? (i := 440) (by decide +kernel))) rfl, in_g (List.mem_append_right _ (List.mem_of_getElem? (i := 441) (by decide +kernel))) rfl, in_g (List.mem_append_right _ (List.mem_of_getElem? (i := 442) (by decide +kernel))) rfl, in_g (List.mem_append_right _ (List.mem_of_getElem? (i := 1) (by decide +kernel))) rfl, in_g (List.mem_append_right _ (List.mem_of_getElem? (i := 443) (by decide +kernel))) rfl, rfl, by decide +kernel⟩
theorem fv_L_107 : FV RL 107 RX6 yX6_odds cX6_odds 5 (some .long) 2 := ⟨in_g (List.mem_append_right _ (List.mem_of_getElem? (i := 828) (by decide +kernel))) rfl, in_g (List.mem_append_right _ (List.mem_of_getElem? (i := 829) (by decide +kernel))) rfl, in_g (List.mem_append_right _ (List.mem_of_getElem? (i := 830) (by decide +kernel))) rfl, in_g (List.mem_append_right _ (List.mem_of_getElem? (i := 7) (by decide +kernel))) rfl, in_g (List.mem_append_right _ (List.mem_of_getElem? (i := 831) (by decide +kernel))) rfl, rfl, by decide +kernel⟩
theorem fv_L_108 : FV RL 108 RX5 yX5_sheet cX5_sheet 4 (some .int) 3 := ⟨in_g (List.mem_append_right _ (List.mem_of_getElem? (i := 446) (by decide +kernel))) rfl, in_g (List.mem_append_right _ (List.mem_of_getElem? (i := 447) (by decide +kernel))) rfl, in_g (List.mem_append_right _ (List.mem_of_getElem? (i := 448) (by decide +kernel))) rfl, in_g (List.mem_append_right _ (List.mem_of_getElem? (i := 1) (by decide +kernel))) rfl, in_g (List.mem_append_right _ (List.mem_of_getElem? (i := 449) (by decide +kernel))) rfl, rfl, by decide +kernel⟩
theorem fv_L_111 : FV RL 111 RX6 yX6_sheet cX6_sheet 5 (some .int) 3 := ⟨in_g (List.mem_append_right _ (List.mem_of_getElem? (i := 836) (by decide +kernel))) rfl, in_g (List.mem_append_right _ (List.mem_of_getElem? (i := 837) (by decide +kernel))) rfl, in_g (List.mem_append_right _ (List.mem_of_getElem? (i := 838) (by decide +kernel))) rfl, in_g (List.mem_append_right _ (List.mem_of_getElem? (i := 7) (by decide +kernel))) rfl, in_g (List.mem_append_right _ (List.mem_of_getElem? (i := 839) (by decide +kernel))) rfl, rfl, by decide +kernel⟩
theorem fv_L_112 : FV RL 112 RX5 yX5_lose cX5_lose 2 (some .int) 1 := ⟨in_g (List.mem_append_right _ (List.mem_of_getElem? (i := 454) (by decide +kernel))) rfl, in_g (List.mem_append_right _ (List.mem_of_getElem? (i := 455) (by decide +kernel))) rfl, in_g (List.mem_append_right _ (List.mem_of_getElem? (i := 456) (by decide +kernel))) rfl, in_g (List.mem_append_right _ (List.mem_of_getElem? (i := 1) (by decide +kernel))) rfl, in_g (List.mem_append_right _ (List.mem_of_getElem? (i := 457) (by decide +kernel))) rfl, rfl, by decide +kernel⟩
theorem fv_L_115 : FV RL 115 RX6 yX6_lose cX6_lose 3 (some .int) 1 := ⟨in_g (List.mem_append_right _ (List.mem_of_getElem? (i := 840) (by decide +kernel))) rfl, in_g (List.mem_append_right _ (List.mem_of_getElem? (i := 841) (by decide +kernel))) rfl, in_g (List.mem_append_right _ (List.mem_of_getElem? (i := 842) (by decide +kernel))) rfl, in_g (List.mem_append_right _ (List.mem_of_getElem? (i := 7) (by decide +kernel))) rfl, in_g (List.mem_append_right _ (List.mem_of_getElem? (i := 843) (by decide +kernel))) rfl, rfl, by decide +kernel⟩
theorem fv_L_116 : FV RL 116 RX5 yX5_put cX5_put 4 (some .int) 3 := ⟨in_g (List.mem_append_right _ (List.mem_of_getElem? (i := 462) (by decide +kernel))) rfl, in_g (List.mem_append_right _ (List.mem_of_getElem? (i := 463) (by decide +kernel))) rfl, in_g (List.mem_append_right _ (List.mem_of_getElem? (i := 464) (by decide +kernel))) rfl, in_g (List.mem_append_right _ (List.mem_of_getElem? (i := 1) (by decide +kernel))) rfl, in_g (List.mem_append_right _ (List.mem_of_getElem? (i := 465) (by decide +kernel))) rfl, rfl, by decide +kernel⟩
theorem fv_L_119 : FV RL 119 RX6 yX6_put cX6_put 4 (some .int) 3 := ⟨in_g (List.mem_append_right _ (List.mem_of_getElem? (i := 844) (by decide +kernel))) rfl, in_g (List.mem_append_right _ (List.mem_of_getElem? (i := 845) (by decide +kernel))) rfl, in_g (List.mem_append_right _ (List.mem_of_getElem? (i := 846) (by decide +kernel))) rfl, in_g (List.mem_append_right _ (List.mem_of_getElem? (i := 7) (by decide +kernel))) rfl, in_g (List.mem_append_right _ (List.mem_of_getElem? (i := 847) (by decide +kernel))) rfl, rfl, by decide +kernel⟩
theorem fv_L_120 : FV RL 120 RX5 yX5_cell cX5_cell 4 (some .long) 3 := ⟨in_g (List.mem_append_right _ (List.mem_of_getElem? (i := 478) (by decide +kernel))) rfl, in_g (List.mem_append_right _ (List.mem_of_getElem? (i := 479) (by decide +kernel))) rfl, in_g (List.mem_append_right _ (List.mem_of_getElem? (i := 480) (by decide +kernel))) rfl, in_g (List.mem_append_right _ (List.mem_of_getElem? (i := 1) (by decide +kernel))) rfl, in_g (List.mem_append_right _ (List.mem_of_getElem? (i := 481) (by decide +kernel))) rfl, rfl, by decide +kernel⟩
theorem fv_L_124 : FV RL 124 RX6 yX6_cell cX6_cell 4 (some .long) 3 := ⟨in_g (List.mem_append_right _ (List.mem_of_getElem? (i := 848) (by decide +kernel))) rfl, in_g (List.mem_append_right _ (List.mem_of_getElem? (i := 849) (by decide +kernel))) rfl, in_g (List.mem_append_right _ (List.mem_of_getElem? (i := 850) (by decide +kernel))) rfl, in_g (List.mem_append_right _ (List.mem_of_getElem? (i := 7) (by decide +kernel))) rfl, in_g (List.mem_append_right _ (List.mem_of_getElem? (i := 851) (by decide +kernel))) rfl, rfl, by decide +kernel⟩
theorem fv_L_125 : FV RL 125 RX5 yX5_copy cX5_copy 6 (some .int) 5 := ⟨in_g (List.mem_append_right _ (List.mem_of_getElem? (i := 483) (by decide +kernel))) rfl, in_g (List.mem_append_right _ (List.mem_of_getElem? (i := 484) (by decide +kernel))) rfl, in_g (List.mem_append_right _ (List.mem_of_getElem? (i := 485) (by decide +kernel))) rfl, in_g (List.mem_append_right _ (List.mem_of_getElem? (i := 1) (by decide +kernel))) rfl, in_g (List.mem_append_right _ (List.mem_of_getElem? (i := 486) (by decide +kernel))) rfl, rfl, by decide +kernel⟩
theorem fv_L_128 : FV RL 128 RX6 yX6_copy cX6_copy 10 (some .int) 5 := ⟨in_g (List.mem_append_right _ (List.mem_of_getElem? (i := 856) (by decide +kernel))) rfl, in_g (List.mem_append_right _ (List.mem_of_getElem? (i := 857) (by decide +kernel))) rfl, in_g (List.mem_append_right _ (List.mem_of_getElem? (i := 858) (by decide +kernel))) rfl, in_g (List.mem_append_right _ (List.mem_of_getElem? (i := 7) (by decide +kernel))) rfl, in_g (List.mem_append_right _ (List.mem_of_getElem? (i := 859) (by decide +kernel))) rfl, rfl, by decide +kernel⟩
theorem fv_L_129 : FV RL 129 RX5 yX5_tell cX5_tell 2 (some .int) 1 := ⟨in_g (List.mem_append_right _ (List.mem_of_getElem? (i := 495) (by decide +kernel))) rfl, in_g (List.mem_append_right _ (List.mem_of_getElem? (i := 496) (by decide +kernel))) rfl, in_g (List.mem_append_right _ (List.mem_of_getElem? (i := 497) (by decide +kernel))) rfl, in_g (List.mem_append_right _ (List.mem_of_getElem? (i := 1) (by decide +kernel))) rfl, in_g (List.mem_append_right _ (List.mem_of_getElem? (i := 498) (by decide +kernel))) rfl, rfl, by decide +kernel⟩
theorem fv_L_132 : FV RL 132 RX6 yX6_tell cX6_tell 3 (some .int) 1 := ⟨in_g (List.mem_append_right _ (List.mem_of_getElem? (i := 860) (by decide +kernel))) rfl, in_g (List.mem_append_right _ (List.mem_of_getElem? (i := 861) (by decide +kernel))) rfl, in_g (List.mem_append_right _ (List.mem_of_getElem? (i := 862) (by decide +kernel))) rfl, in_g (List.mem_append_right _ (List.mem_of_getElem? (i := 7) (by decide +kernel))) rfl, in_g (List.mem_append_right _ (List.mem_of_getElem? (i := 863) (by decide +kernel))) rfl, rfl, by decide +kernel⟩
theorem fv_L_133 : FV RL 133 RX5 yX5_creak cX5_creak 2 (some .int) 1 := ⟨in_g (List.mem_append_right _ (List.mem_of_getElem? (i := 515) (by decide +kernel))) rfl, in_g (List.mem_append_right _ (List.mem_of_getElem? (i := 516) (by decide +kernel))) rfl, in_g (List.mem_append_right _ (List.mem_of_getElem? (i := 517) (by decide +kernel))) rfl, in_g (List.mem_append_right _ (List.mem_of_getElem? (i := 1) (by decide +kernel))) rfl, in_g (List.mem_append_right _ (List.mem_of_getElem? (i := 518) (by decide +kernel))) rfl, rfl, by decide +kernel⟩
theorem fv_L_136 : FV RL 136 RX6 yX6_creak cX6_creak 2 (some .int) 1 := ⟨in_g (List.mem_append_right _ (List.mem_of_getElem? (i := 868) (by decide +kernel))) rfl, in_g (List.mem_append_right _ (List.mem_of_getElem? (i := 869) (by decide +kernel))) rfl, in_g (List.mem_append_right _ (List.mem_of_getElem? (i := 870) (by decide +kernel))) rfl, in_g (List.mem_append_right _ (List.mem_of_getElem? (i := 7) (by decide +kernel))) rfl, in_g (List.mem_append_right _ (List.mem_of_getElem? (i := 871) (by decide +kernel))) rfl, rfl, by decide +kernel⟩
theorem fv_L_137 : FV RL 137 RX5 yX5_as cX5_as 3 (some .int) 2 := ⟨in_g (List.mem_append_right _ (List.mem_of_getElem? (i := 519) (by decide +kernel))) rfl, in_g (List.mem_append_right _ (List.mem_of_getElem? (i := 520) (by decide +kernel))) rfl, in_g (List.mem_append_right _ (List.mem_of_getElem? (i := 521) (by decide +kernel))) rfl, in_g (List.mem_append_right _ (List.mem_of_getElem? (i := 1) (by decide +kernel))) rfl, in_g (List.mem_append_right _ (List.mem_of_getElem? (i := 522) (by decide +kernel))) rfl, rfl, by decide +kernel⟩
theorem fv_L_140 : FV RL 140 RX6 yX6_as cX6_as 3 (some .int) 2 := ⟨in_g (List.mem_append_right _ (List.mem_of_getElem? (i := 872) (by decide +kernel))) rfl, in_g (List.mem_append_right _ (List.mem_of_getElem? (i := 873) (by decide +kernel))) rfl, in_g (List.mem_append_right _ (List.mem_of_getElem? (i := 874) (by decide +kernel))) rfl, in_g (List.mem_append_right _ (List.mem_of_getElem? (i := 7) (by decide +kernel))) rfl, in_g (List.mem_append_right _ (List.mem_of_getElem? (i := 875) (by decide +kernel))) rfl, rfl, by decide +kernel⟩
theorem fv_L_141 : FV RL 141 RX5 yX5_trace cX5_trace 1 (some .int) 0 := ⟨in_g (List.mem_append_right _ (List.mem_of_getElem? (i := 523) (by decide +kernel))) rfl, in_g (List.mem_append_right _ (List.mem_of_getElem? (i := 524) (by decide +kernel))) rfl, in_g (List.mem_append_right _ (List.mem_of_getElem? (i := 525) (by decide +kernel))) rfl, in_g (List.mem_append_right _ (List.mem_of_getElem? (i := 1) (by decide +kernel))) rfl, in_g (List.mem_append_right _ (List.mem_of_getElem? (i := 526) (by decide +kernel))) rfl, rfl, by decide +kernel⟩
theorem fv_L_145 : FV RL 145 RX6 yX6_trace cX6_trace 1 (some .int) 0 := ⟨in_g (List.mem_append_right _ (List.mem_of_getElem? (i := 876) (by decide +kernel))) rfl, in_g (List.mem_append_right _ (List.mem_of_getElem? (i := 877) (by decide +kernel))) rfl, in_g (List.mem_append_right _ (List.mem_of_getElem? (i := 878) (by decide +kernel))) rfl, in_g (List.mem_append_right _ (List.mem_of_getElem? (i := 7) (by decide +kernel))) rfl, in_g (List.mem_append_right _ (List.mem_of_getElem? (i := 879) (by decide +kernel))) rfl, rfl, by decide +kernel⟩
theorem fv_L_146 : FV RL 146 RX5 yX5_fault cX5_fault 1 (some .int) 0 := ⟨in_g (List.mem_append_right _ (List.mem_of_getElem? (i := 527) (by decide +kernel))) rfl, in_g (List.mem_append_right _ (List.mem_of_getElem? (i := 528) (by decide +kernel))) rfl, in_g (List.mem_append_right _ (List.mem_of_getElem? (i := 529) (by decide +kernel))) rfl, in_g (List.mem_append_right _ (List.mem_of_getElem? (i := 1) (by decide +kernel))) rfl, in_g (List.mem_append_right _ (List.mem_of_getElem? (i := 530) (by decide +kernel))) rfl, rfl, by decide +kernel⟩
theorem fv_L_149 : FV RL 149 RX6 yX6_fault cX6_fault 1 (some .int) 0 := ⟨in_g (List.mem_append_right _ (List.mem_of_getElem? (i := 880) (by decide +kernel))) rfl, in_g (List.mem_append_right _ (List.mem_of_getElem? (i := 881) (by decide +kernel))) rfl, in_g (List.mem_append_right _ (List.mem_of_getElem? (i := 882) (by decide +kernel))) rfl, in_g (List.mem_append_right _ (List.mem_of_getElem? (i := 7) (by decide +kernel))) rfl, in_g (List.mem_append_right _ (List.mem_of_getElem? (i := 883) (by decide +kernel))) rfl, rfl, by decide +kernel⟩
theorem fv_L_150 : FV RL 150 RX5 yX5_many cX5_many 2 (some .int) 1 := ⟨in_g (List.mem_append_right _ (List.mem_of_getElem? (i := 531) (by decide +kernel))) rfl, in_g (List.mem_append_right _ (List.mem_of_getElem? (i := 532) (by decide +kernel))) rfl, in_g (List.mem_append_right _ (List.mem_of_getElem? (i := 533) (by decide +kernel))) rfl, in_g (List.mem_append_right _ (List.mem_of_getElem? (i := 1) (by decide +kernel))) rfl, in_g (List.mem_append_right _ (List.mem_of_getElem? (i := 534) (by decide +kernel))) rfl, rfl, by decide +kernel⟩
theorem fv_L_153 : FV RL 153 RX6 yX6_many cX6_many 2 (some .int) 1 := ⟨in_g (List.mem_append_right _ (List.mem_of_getElem? (i := 884) (by decide +kernel))) rfl, in_g (List.mem_append_right _ (List.mem_of_getElem? (i := 885) (by decide +kernel))) rfl, in_g (List.mem_append_right _ (List.mem_of_getElem? (i := 886) (by decide +kernel))) rfl, in_g (List.mem_append_right _ (List.mem_of_getElem? (i := 7) (by decide +kernel))) rfl, in_g (List.mem_append_right _ (List.mem_of_getElem? (i := 887) (by decide +kernel))) rfl, rfl, by decide +kernel⟩
def jn_L_law_776 (b : Nat) (Ls : Nat) (xs : Nat → Int32) (post : Int32 → Mem → Prop) (B_18 : Int32 → Mem → Prop) (x3 : Int32) (s0 : Int32) (s1 : Int32) (s2 : Int32) (s3 : Int32) (s5 : Int32) (M : Mem) : Prop := (wp_X6_reading s3 s2 s1 s0 M (fun r63 M64 => ((s5 = r63 → B_18 (x3 + 6) M64) ∧ (¬ s5 = r63 → post 0 M64))))
set_option maxRecDepth 100000 in
theorem wj_L_law_776 {X : CT} (b : Nat) (Ls : Nat) (xs : Nat → Int32) (hlw : lwX X b Ls xs) (hX : okX X RL cL_law 9 324) {post : Int32 → Mem → Prop} (hret : ∀ (r : Int32) (M' : Mem), narrow .boolean (.int r) = .int r → post r M' → RetI X cL_law r M') {B_18 : Int32 → Mem → Prop} (hB_18 : ∀ (x3 : Int32) (M : Mem), B_18 x3 M → Z X M 18 [some (.ref b), some (.ref (adX X 0)), some (.ref (adX X 34)), some (.int x3)] []) (x3 : Int32) (s0 : Int32) (s1 : Int32) (s2 : Int32) (s3 : Int32) (s5 : Int32) (M : Mem) (h : jn_L_law_776 b Ls xs post B_18 x3 s0 s1 s2 s3 s5 M) : Z X M 776 [some (.ref b), some (.ref (adX X 0)), some (.ref (adX X 34)), some (.int x3)] [.int s0, .int s1, .int s2, .int s3, .ref (adX X 34), .int s5] := by
  unfold jn_L_law_776 at h
  refine r_cVi4 hX fv_L_82 ly_34 rfl ⟨Nat.le_of_ble_eq_true rfl, Nat.le_of_ble_eq_true rfl⟩ (c_X6_reading s3 s2 s1 s0 h) (Nat.le_of_ble_eq_true rfl) dL_law_776 (fun r63 M64 h => ?_)
  refine r_icmp_eq hX 1277 dL_law_779 (by decide) (fun hc => ?_) (fun hc => ?_)
  · have h := h.1 hc
    refine r_iinc (v := x3 + 6) (L' := [some (.ref b), some (.ref (adX X 0)), some (.ref (adX X 34)), some (.int (x3 + 6))]) hX dL_law_1277 rfl rfl rfl rfl ?_
    refine r_goto hX 18 dL_law_1280 (by decide) ?_
    refine r_sub [some (.ref b), some (.ref (adX X 0)), some (.ref (adX X 34)), some (.int (x3 + 6))] (And.intro rfl (And.intro rfl (And.intro rfl (And.intro rfl trivial)))) ?_
    exact hB_18 _ _ h
  · have h := h.2 hc
    refine r_iconst (v := 0) hX dL_law_782 (by decide) ?_
    exact r_iret (hret _ _ rfl h) dL_law_783
def jn_L_law_744 (b : Nat) (Ls : Nat) (xs : Nat → Int32) (post : Int32 → Mem → Prop) (B_18 : Int32 → Mem → Prop) (x3 : Int32) (s0 : Int32) (s1 : Int32) (s2 : Int32) (s3 : Int32) (M : Mem) : Prop := (wp_X5_reading s3 s2 s1 s0 M (fun r61 M62 => (vp_in (x3 + 1) Ls ∧ (vp_in (x3 + 2) Ls ∧ (vp_in (x3 + 3) Ls ∧ (vp_in (x3 + 4) Ls ∧ (((xs (x3 + 4).toNatClampNeg) = 0 → jn_L_law_776 b Ls xs post B_18 x3 0 (xs (x3 + 3).toNatClampNeg) (xs (x3 + 2).toNatClampNeg) (xs (x3 + 1).toNatClampNeg) r61 M62) ∧ (¬ (xs (x3 + 4).toNatClampNeg) = 0 → jn_L_law_776 b Ls xs post B_18 x3 1 (xs (x3 + 3).toNatClampNeg) (xs (x3 + 2).toNatClampNeg) (xs (x3 + 1).toNatClampNeg) r61 M62))))))))
set_option maxRecDepth 100000 in
theorem wj_L_law_744 {X : CT} (b : Nat) (Ls : Nat) (xs : Nat → Int32) (hlw : lwX X b Ls xs) (hX : okX X RL cL_law 9 324) {post : Int32 → Mem → Prop} (hret : ∀ (r : Int32) (M' : Mem), narrow .boolean (.int r) = .int r → post r M' → RetI X cL_law r M') {B_18 : Int32 → Mem → Prop} (hB_18 : ∀ (x3 : Int32) (M : Mem), B_18 x3 M → Z X M 18 [some (.ref b), some (.ref (adX X 0)), some (.ref (adX X 34)), some (.int x3)] []) (x3 : Int32) (s0 : Int32) (s1 : Int32) (s2 : Int32) (s3 : Int32) (M : Mem) (h : jn_L_law_744 b Ls xs post B_18 x3 s0 s1 s2 s3 M) : Z X M 744 [some (.ref b), some (.ref (adX X 0)), some (.ref (adX X 34)), some (.int x3)] [.int s0, .int s1, .int s2, .int s3, .ref (adX X 0)] := by
  unfold jn_L_law_744 at h
  refine r_cVi4 hX fv_L_78 ly_0 rfl ⟨Nat.le_of_ble_eq_true rfl, Nat.le_of_ble_eq_true rfl⟩ (c_X5_reading s3 s2 s1 s0 h) (Nat.le_of_ble_eq_true rfl) dL_law_744 (fun r61 M62 h => ?_)
  refine r_aload_n hX dL_law_747 rfl rfl ?_
  refine r_aload_n hX dL_law_748 rfl rfl ?_
  refine r_iload_n hX dL_law_749 rfl rfl ?_
  refine r_iconst (v := 1) hX dL_law_750 (by decide) ?_
  refine r_iadd hX dL_law_751 ?_
  refine r_sld hX hlw h.1 dL_law_752 ?_
  have h := h.2
  refine r_aload_n hX dL_law_753 rfl rfl ?_
  refine r_iload_n hX dL_law_754 rfl rfl ?_
  refine r_iconst (v := 2) hX dL_law_755 (by decide) ?_
  refine r_iadd hX dL_law_756 ?_
  refine r_sld hX hlw h.1 dL_law_757 ?_
  have h := h.2
  refine r_aload_n hX dL_law_758 rfl rfl ?_
  refine r_iload_n hX dL_law_759 rfl rfl ?_
  refine r_iconst (v := 3) hX dL_law_760 (by decide) ?_
  refine r_iadd hX dL_law_761 ?_
  refine r_sld hX hlw h.1 dL_law_762 ?_
  have h := h.2
  refine r_aload_n hX dL_law_763 rfl rfl ?_
  refine r_iload_n hX dL_law_764 rfl rfl ?_
  refine r_iconst (v := 4) hX dL_law_765 (by decide) ?_
  refine r_iadd hX dL_law_766 ?_
  refine r_sld hX hlw h.1 dL_law_767 ?_
  have h := h.2
  refine r_if_eq hX 775 dL_law_768 (by decide) (fun hc => ?_) (fun hc => ?_)
  · have h := h.1 hc
    refine r_iconst (v := 0) hX dL_law_775 (by decide) ?_
    refine r_sub [some (.ref b), some (.ref (adX X 0)), some (.ref (adX X 34)), some (.int x3)] (And.intro rfl (And.intro rfl (And.intro rfl (And.intro rfl trivial)))) ?_
    exact wj_L_law_776 b Ls xs hlw hX hret hB_18 _ _ _ _ _ _ _ h
  · have h := h.2 hc
    refine r_iconst (v := 1) hX dL_law_771 (by decide) ?_
    refine r_goto hX 776 dL_law_772 (by decide) ?_
    refine r_sub [some (.ref b), some (.ref (adX X 0)), some (.ref (adX X 34)), some (.int x3)] (And.intro rfl (And.intro rfl (And.intro rfl (And.intro rfl trivial)))) ?_
    exact wj_L_law_776 b Ls xs hlw hX hret hB_18 _ _ _ _ _ _ _ h
def lp_L_law_18 (b : Nat) (Ls : Nat) (xs : Nat → Int32) (post : Int32 → Mem → Prop) : Nat → Int32 → Mem → Prop
  | 0, _, _ => False
  | n + 1, x3, M => ((((Int32.ofNat Ls) - 6) < x3 → post 1 M) ∧ (¬ ((Int32.ofNat Ls) - 6) < x3 → (vp_in x3 Ls ∧ (((xs x3.toNatClampNeg) &&& 63 = 0 → (vp_in (x3 + 1) Ls ∧ (vp_in (x3 + 2) Ls ∧ (vp_in (x3 + 3) Ls ∧ (vp_in (x3 + 4) Ls ∧ (wp_X5_hall (xs (x3 + 1).toNatClampNeg) (xs (x3 + 2).toNatClampNeg) (xs (x3 + 3).toNatClampNeg) (xs (x3 + 4).toNatClampNeg) M (fun r1 M2 => (vp_in (x3 + 1) Ls ∧ (vp_in (x3 + 2) Ls ∧ (vp_in (x3 + 3) Ls ∧ (vp_in (x3 + 4) Ls ∧ (wp_X6_hall (xs (x3 + 1).toNatClampNeg) (xs (x3 + 2).toNatClampNeg) (xs (x3 + 3).toNatClampNeg) (xs (x3 + 4).toNatClampNeg) M2 (fun r3 M4 => ((r1 = r3 → lp_L_law_18 b Ls xs post n (x3 + 6) M4) ∧ (¬ r1 = r3 → post 0 M4))))))))))))))) ∧ ((xs x3.toNatClampNeg) &&& 63 = 1 → (vp_in (x3 + 1) Ls ∧ (vp_in (x3 + 2) Ls ∧ (wp_X5_ofChair (xs (x3 + 1).toNatClampNeg) (xs (x3 + 2).toNatClampNeg) M (fun r5 M6 => (vp_in (x3 + 1) Ls ∧ (vp_in (x3 + 2) Ls ∧ (wp_X6_ofChair (xs (x3 + 1).toNatClampNeg) (xs (x3 + 2).toNatClampNeg) M6 (fun r7 M8 => ((r5 = r7 → lp_L_law_18 b Ls xs post n (x3 + 6) M8) ∧ (¬ r5 = r7 → post 0 M8))))))))))) ∧ ((xs x3.toNatClampNeg) &&& 63 = 2 → (vp_in (x3 + 1) Ls ∧ (vp_in (x3 + 2) Ls ∧ (vp_in (x3 + 3) Ls ∧ (wp_X5_slip (xs (x3 + 1).toNatClampNeg) (xs (x3 + 2).toNatClampNeg) (xs (x3 + 3).toNatClampNeg) M (fun r9 M10 => (vp_in (x3 + 1) Ls ∧ (vp_in (x3 + 2) Ls ∧ (vp_in (x3 + 3) Ls ∧ (wp_X6_slip (xs (x3 + 1).toNatClampNeg) (xs (x3 + 2).toNatClampNeg) (xs (x3 + 3).toNatClampNeg) M10 (fun r11 M12 => ((r9 = r11 → lp_L_law_18 b Ls xs post n (x3 + 6) M12) ∧ (¬ r9 = r11 → post 0 M12))))))))))))) ∧ ((xs x3.toNatClampNeg) &&& 63 = 3 → (vp_in (x3 + 1) Ls ∧ (vp_in (x3 + 2) Ls ∧ (wp_X5_ofSlip (xs (x3 + 1).toNatClampNeg) (xs (x3 + 2).toNatClampNeg) M (fun r13 M14 => (vp_in (x3 + 1) Ls ∧ (vp_in (x3 + 2) Ls ∧ (wp_X6_ofSlip (xs (x3 + 1).toNatClampNeg) (xs (x3 + 2).toNatClampNeg) M14 (fun r15 M16 => ((r13 = r15 → lp_L_law_18 b Ls xs post n (x3 + 6) M16) ∧ (¬ r13 = r15 → post 0 M16))))))))))) ∧ ((xs x3.toNatClampNeg) &&& 63 = 4 → (vp_in (x3 + 1) Ls ∧ (wp_X5_unsay (xs (x3 + 1).toNatClampNeg) M (fun r17 M18 => (vp_in (x3 + 1) Ls ∧ (wp_X6_unsay (xs (x3 + 1).toNatClampNeg) M18 (fun r19 M20 => ((r17 = r19 → lp_L_law_18 b Ls xs post n (x3 + 6) M20) ∧ (¬ r17 = r19 → post 0 M20))))))))) ∧ ((xs x3.toNatClampNeg) &&& 63 = 5 → (vp_in (x3 + 1) Ls ∧ (vp_in (x3 + 2) Ls ∧ (vp_in (x3 + 3) Ls ∧ (wp_X5_butter (xs (x3 + 1).toNatClampNeg) (xs (x3 + 2).toNatClampNeg) (xs (x3 + 3).toNatClampNeg) M (fun r21 M22 => (vp_in (x3 + 1) Ls ∧ (vp_in (x3 + 2) Ls ∧ (vp_in (x3 + 3) Ls ∧ (wp_X6_butter (xs (x3 + 1).toNatClampNeg) (xs (x3 + 2).toNatClampNeg) (xs (x3 + 3).toNatClampNeg) M22 (fun r23 M24 => ((r21 = r23 → lp_L_law_18 b Ls xs post n (x3 + 6) M24) ∧ (¬ r21 = r23 → post 0 M24))))))))))))) ∧ ((xs x3.toNatClampNeg) &&& 63 = 6 → (vp_in (x3 + 1) Ls ∧ (wp_X5_melt (xs (x3 + 1).toNatClampNeg) M (fun r25 M26 => (vp_in (x3 + 1) Ls ∧ (wp_X6_melt (xs (x3 + 1).toNatClampNeg) M26 (fun r27 M28 => ((r25 = r27 → lp_L_law_18 b Ls xs post n (x3 + 6) M28) ∧ (¬ r25 = r27 → post 0 M28))))))))) ∧ ((xs x3.toNatClampNeg) &&& 63 = 7 → (vp_in (x3 + 1) Ls ∧ (vp_in (x3 + 2) Ls ∧ (vp_in (x3 + 3) Ls ∧ (wp_X5_bears (xs (x3 + 1).toNatClampNeg) (xs (x3 + 2).toNatClampNeg) (xs (x3 + 3).toNatClampNeg) M (fun r29 M30 => (vp_in (x3 + 1) Ls ∧ (vp_in (x3 + 2) Ls ∧ (vp_in (x3 + 3) Ls ∧ (wp_X6_bears (xs (x3 + 1).toNatClampNeg) (xs (x3 + 2).toNatClampNeg) (xs (x3 + 3).toNatClampNeg) M30 (fun r31 M32 => ((r29 = r31 → lp_L_law_18 b Ls xs post n (x3 + 6) M32) ∧ (¬ r29 = r31 → post 0 M32))))))))))))) ∧ ((xs x3.toNatClampNeg) &&& 63 = 8 → (vp_in (x3 + 1) Ls ∧ (vp_in (x3 + 2) Ls ∧ (wp_X5_whom (xs (x3 + 1).toNatClampNeg) (xs (x3 + 2).toNatClampNeg) M (fun r33 M34 => (vp_in (x3 + 1) Ls ∧ (vp_in (x3 + 2) Ls ∧ (wp_X6_whom (xs (x3 + 1).toNatClampNeg) (xs (x3 + 2).toNatClampNeg) M34 (fun r35 M36 => ((r33 = r35 → lp_L_law_18 b Ls xs post n (x3 + 6) M36) ∧ (¬ r33 = r35 → post 0 M36))))))))))) ∧ ((xs x3.toNatClampNeg) &&& 63 = 9 → (vp_in (x3 + 1) Ls ∧ (vp_in (x3 + 2) Ls ∧ (wp_X5_seats (xs (x3 + 1).toNatClampNeg) (xs (x3 + 2).toNatClampNeg) M (fun r37 M38 => (vp_in (x3 + 1) Ls ∧ (vp_in (x3 + 2) Ls ∧ (wp_X6_seats (xs (x3 + 1).toNatClampNeg) (xs (x3 + 2).toNatClampNeg) M38 (fun r39 M40 => ((r37 = r39 → lp_L_law_18 b Ls xs post n (x3 + 6) M40) ∧ (¬ r37 = r39 → post 0 M40))))))))))) ∧ ((xs x3.toNatClampNeg) &&& 63 = 10 → (vp_in (x3 + 1) Ls ∧ (wp_X5_few (xs (x3 + 1).toNatClampNeg) M (fun r41 M42 => (vp_in (x3 + 1) Ls ∧ (wp_X6_few (xs (x3 + 1).toNatClampNeg) M42 (fun r43 M44 => ((r41 = r43 → lp_L_law_18 b Ls xs post n (x3 + 6) M44) ∧ (¬ r41 = r43 → post 0 M44))))))))) ∧ ((xs x3.toNatClampNeg) &&& 63 = 11 → (vp_in (x3 + 1) Ls ∧ (vp_in (x3 + 2) Ls ∧ (vp_in (x3 + 3) Ls ∧ (vp_in (x3 + 4) Ls ∧ (vp_in (x3 + 5) Ls ∧ (wp_X5_tipped (xs (x3 + 1).toNatClampNeg) (xs (x3 + 2).toNatClampNeg) (xs (x3 + 3).toNatClampNeg) (xs (x3 + 4).toNatClampNeg) (xs (x3 + 5).toNatClampNeg) M (fun r45 M46 => (vp_in (x3 + 1) Ls ∧ (vp_in (x3 + 2) Ls ∧ (vp_in (x3 + 3) Ls ∧ (vp_in (x3 + 4) Ls ∧ (vp_in (x3 + 5) Ls ∧ (wp_X6_tipped (xs (x3 + 1).toNatClampNeg) (xs (x3 + 2).toNatClampNeg) (xs (x3 + 3).toNatClampNeg) (xs (x3 + 4).toNatClampNeg) (xs (x3 + 5).toNatClampNeg) M46 (fun r47 M48 => ((r45 = r47 → lp_L_law_18 b Ls xs post n (x3 + 6) M48) ∧ (¬ r45 = r47 → post 0 M48))))))))))))))))) ∧ ((xs x3.toNatClampNeg) &&& 63 = 12 → (vp_in (x3 + 1) Ls ∧ (vp_in (x3 + 2) Ls ∧ (wp_X5_least (xs (x3 + 1).toNatClampNeg) (xs (x3 + 2).toNatClampNeg) M (fun r49 M50 => (vp_in (x3 + 1) Ls ∧ (vp_in (x3 + 2) Ls ∧ (wp_X6_least (xs (x3 + 1).toNatClampNeg) (xs (x3 + 2).toNatClampNeg) M50 (fun r51 M52 => ((r49 = r51 → lp_L_law_18 b Ls xs post n (x3 + 6) M52) ∧ (¬ r49 = r51 → post 0 M52))))))))))) ∧ ((xs x3.toNatClampNeg) &&& 63 = 13 → (vp_in (x3 + 1) Ls ∧ (wp_X5_when (xs (x3 + 1).toNatClampNeg) M (fun r53 M54 => (vp_in (x3 + 1) Ls ∧ (wp_X6_when (xs (x3 + 1).toNatClampNeg) M54 (fun r55 M56 => ((r53 = r55 → lp_L_law_18 b Ls xs post n (x3 + 6) M56) ∧ (¬ r53 = r55 → post 0 M56))))))))) ∧ ((xs x3.toNatClampNeg) &&& 63 = 14 → (vp_in (x3 + 1) Ls ∧ (vp_in (x3 + 2) Ls ∧ (wp_X5_fresh (xs (x3 + 1).toNatClampNeg) (xs (x3 + 2).toNatClampNeg) M (fun r57 M58 => (vp_in (x3 + 1) Ls ∧ (vp_in (x3 + 2) Ls ∧ (wp_X6_fresh (xs (x3 + 1).toNatClampNeg) (xs (x3 + 2).toNatClampNeg) M58 (fun r59 M60 => ((r57 = r59 → lp_L_law_18 b Ls xs post n (x3 + 6) M60) ∧ (¬ r57 = r59 → post 0 M60))))))))))) ∧ ((xs x3.toNatClampNeg) &&& 63 = 15 → (vp_in (x3 + 1) Ls ∧ (vp_in (x3 + 2) Ls ∧ (vp_in (x3 + 3) Ls ∧ (vp_in (x3 + 4) Ls ∧ (((xs (x3 + 4).toNatClampNeg) = 0 → jn_L_law_744 b Ls xs post (fun y3 M' => lp_L_law_18 b Ls xs post n y3 M') x3 0 (xs (x3 + 3).toNatClampNeg) (xs (x3 + 2).toNatClampNeg) (xs (x3 + 1).toNatClampNeg) M) ∧ (¬ (xs (x3 + 4).toNatClampNeg) = 0 → jn_L_law_744 b Ls xs post (fun y3 M' => lp_L_law_18 b Ls xs post n y3 M') x3 1 (xs (x3 + 3).toNatClampNeg) (xs (x3 + 2).toNatClampNeg) (xs (x3 + 1).toNatClampNeg) M))))))) ∧ ((xs x3.toNatClampNeg) &&& 63 = 16 → (vp_in (x3 + 1) Ls ∧ (wp_X5_back (xs (x3 + 1).toNatClampNeg) M (fun r65 M66 => (vp_in (x3 + 1) Ls ∧ (wp_X6_back (xs (x3 + 1).toNatClampNeg) M66 (fun r67 M68 => ((r65 = r67 → lp_L_law_18 b Ls xs post n (x3 + 6) M68) ∧ (¬ r65 = r67 → post 0 M68))))))))) ∧ ((xs x3.toNatClampNeg) &&& 63 = 17 → (vp_in (x3 + 1) Ls ∧ (wp_X5_times (xs (x3 + 1).toNatClampNeg) M (fun r69 M70 => (vp_in (x3 + 1) Ls ∧ (wp_X6_times (xs (x3 + 1).toNatClampNeg) M70 (fun r71 M72 => ((r69 = r71 → lp_L_law_18 b Ls xs post n (x3 + 6) M72) ∧ (¬ r69 = r71 → post 0 M72))))))))) ∧ ((xs x3.toNatClampNeg) &&& 63 = 18 → (vp_in (x3 + 1) Ls ∧ (wp_X5_grudges (xs (x3 + 1).toNatClampNeg) M (fun r73 M74 => (vp_in (x3 + 1) Ls ∧ (wp_X6_grudges (xs (x3 + 1).toNatClampNeg) M74 (fun r75 M76 => ((r73 = r75 → lp_L_law_18 b Ls xs post n (x3 + 6) M76) ∧ (¬ r73 = r75 → post 0 M76))))))))) ∧ ((xs x3.toNatClampNeg) &&& 63 = 19 → (vp_in (x3 + 1) Ls ∧ (wp_X5_ears (xs (x3 + 1).toNatClampNeg) M (fun r77 M78 => (vp_in (x3 + 1) Ls ∧ (wp_X6_ears (xs (x3 + 1).toNatClampNeg) M78 (fun r79 M80 => ((r77 = r79 → lp_L_law_18 b Ls xs post n (x3 + 6) M80) ∧ (¬ r77 = r79 → post 0 M80))))))))) ∧ ((xs x3.toNatClampNeg) &&& 63 = 20 → (vp_in (x3 + 1) Ls ∧ (wp_X5_kinds (xs (x3 + 1).toNatClampNeg) M (fun r81 M82 => (vp_in (x3 + 1) Ls ∧ (wp_X6_kinds (xs (x3 + 1).toNatClampNeg) M82 (fun r83 M84 => ((r81 = r83 → lp_L_law_18 b Ls xs post n (x3 + 6) M84) ∧ (¬ r81 = r83 → post 0 M84))))))))) ∧ ((xs x3.toNatClampNeg) &&& 63 = 21 → (vp_in (x3 + 1) Ls ∧ (vp_in (x3 + 2) Ls ∧ (wp_X5_odds (xs (x3 + 1).toNatClampNeg) (xs (x3 + 2).toNatClampNeg) M (fun r85 M86 => (vp_in (x3 + 1) Ls ∧ (vp_in (x3 + 2) Ls ∧ (wp_X6_odds (xs (x3 + 1).toNatClampNeg) (xs (x3 + 2).toNatClampNeg) M86 (fun r87 M88 => (((lg_cmp r85 r87) = 0 → lp_L_law_18 b Ls xs post n (x3 + 6) M88) ∧ (¬ (lg_cmp r85 r87) = 0 → post 0 M88))))))))))) ∧ ((xs x3.toNatClampNeg) &&& 63 = 22 → (vp_in (x3 + 1) Ls ∧ (vp_in (x3 + 2) Ls ∧ (vp_in (x3 + 3) Ls ∧ (wp_X5_sheet (xs (x3 + 1).toNatClampNeg) (xs (x3 + 2).toNatClampNeg) (xs (x3 + 3).toNatClampNeg) M (fun r89 M90 => (vp_in (x3 + 1) Ls ∧ (vp_in (x3 + 2) Ls ∧ (vp_in (x3 + 3) Ls ∧ (wp_X6_sheet (xs (x3 + 1).toNatClampNeg) (xs (x3 + 2).toNatClampNeg) (xs (x3 + 3).toNatClampNeg) M90 (fun r91 M92 => ((r89 = r91 → lp_L_law_18 b Ls xs post n (x3 + 6) M92) ∧ (¬ r89 = r91 → post 0 M92))))))))))))) ∧ ((xs x3.toNatClampNeg) &&& 63 = 23 → (vp_in (x3 + 1) Ls ∧ (wp_X5_lose (xs (x3 + 1).toNatClampNeg) M (fun r93 M94 => (vp_in (x3 + 1) Ls ∧ (wp_X6_lose (xs (x3 + 1).toNatClampNeg) M94 (fun r95 M96 => ((r93 = r95 → lp_L_law_18 b Ls xs post n (x3 + 6) M96) ∧ (¬ r93 = r95 → post 0 M96))))))))) ∧ ((xs x3.toNatClampNeg) &&& 63 = 24 → (vp_in (x3 + 1) Ls ∧ (vp_in (x3 + 2) Ls ∧ (vp_in (x3 + 3) Ls ∧ (wp_X5_put (xs (x3 + 1).toNatClampNeg) (xs (x3 + 2).toNatClampNeg) (xs (x3 + 3).toNatClampNeg) M (fun r97 M98 => (vp_in (x3 + 1) Ls ∧ (vp_in (x3 + 2) Ls ∧ (vp_in (x3 + 3) Ls ∧ (wp_X6_put (xs (x3 + 1).toNatClampNeg) (xs (x3 + 2).toNatClampNeg) (xs (x3 + 3).toNatClampNeg) M98 (fun r99 M100 => ((r97 = r99 → lp_L_law_18 b Ls xs post n (x3 + 6) M100) ∧ (¬ r97 = r99 → post 0 M100))))))))))))) ∧ ((xs x3.toNatClampNeg) &&& 63 = 25 → (vp_in (x3 + 1) Ls ∧ (vp_in (x3 + 2) Ls ∧ (vp_in (x3 + 3) Ls ∧ (wp_X5_cell (xs (x3 + 1).toNatClampNeg) (xs (x3 + 2).toNatClampNeg) (xs (x3 + 3).toNatClampNeg) M (fun r101 M102 => (vp_in (x3 + 1) Ls ∧ (vp_in (x3 + 2) Ls ∧ (vp_in (x3 + 3) Ls ∧ (wp_X6_cell (xs (x3 + 1).toNatClampNeg) (xs (x3 + 2).toNatClampNeg) (xs (x3 + 3).toNatClampNeg) M102 (fun r103 M104 => (((lg_cmp r101 r103) = 0 → lp_L_law_18 b Ls xs post n (x3 + 6) M104) ∧ (¬ (lg_cmp r101 r103) = 0 → post 0 M104))))))))))))) ∧ ((xs x3.toNatClampNeg) &&& 63 = 26 → (vp_in (x3 + 1) Ls ∧ (vp_in (x3 + 2) Ls ∧ (vp_in (x3 + 3) Ls ∧ (vp_in (x3 + 4) Ls ∧ (vp_in (x3 + 5) Ls ∧ (wp_X5_copy (xs (x3 + 1).toNatClampNeg) (xs (x3 + 2).toNatClampNeg) (xs (x3 + 3).toNatClampNeg) (xs (x3 + 4).toNatClampNeg) (xs (x3 + 5).toNatClampNeg) M (fun r105 M106 => (vp_in (x3 + 1) Ls ∧ (vp_in (x3 + 2) Ls ∧ (vp_in (x3 + 3) Ls ∧ (vp_in (x3 + 4) Ls ∧ (vp_in (x3 + 5) Ls ∧ (wp_X6_copy (xs (x3 + 1).toNatClampNeg) (xs (x3 + 2).toNatClampNeg) (xs (x3 + 3).toNatClampNeg) (xs (x3 + 4).toNatClampNeg) (xs (x3 + 5).toNatClampNeg) M106 (fun r107 M108 => ((r105 = r107 → lp_L_law_18 b Ls xs post n (x3 + 6) M108) ∧ (¬ r105 = r107 → post 0 M108))))))))))))))))) ∧ ((xs x3.toNatClampNeg) &&& 63 = 27 → (vp_in (x3 + 1) Ls ∧ (wp_X5_tell (xs (x3 + 1).toNatClampNeg) M (fun r109 M110 => (vp_in (x3 + 1) Ls ∧ (wp_X6_tell (xs (x3 + 1).toNatClampNeg) M110 (fun r111 M112 => ((r109 = r111 → lp_L_law_18 b Ls xs post n (x3 + 6) M112) ∧ (¬ r109 = r111 → post 0 M112))))))))) ∧ ((xs x3.toNatClampNeg) &&& 63 = 28 → (vp_in (x3 + 1) Ls ∧ (wp_X5_creak (xs (x3 + 1).toNatClampNeg) M (fun r113 M114 => (vp_in (x3 + 1) Ls ∧ (wp_X6_creak (xs (x3 + 1).toNatClampNeg) M114 (fun r115 M116 => ((r113 = r115 → lp_L_law_18 b Ls xs post n (x3 + 6) M116) ∧ (¬ r113 = r115 → post 0 M116))))))))) ∧ ((xs x3.toNatClampNeg) &&& 63 = 29 → (vp_in (x3 + 1) Ls ∧ (vp_in (x3 + 2) Ls ∧ (wp_X5_as (xs (x3 + 1).toNatClampNeg) (xs (x3 + 2).toNatClampNeg) M (fun r117 M118 => (vp_in (x3 + 1) Ls ∧ (vp_in (x3 + 2) Ls ∧ (wp_X6_as (xs (x3 + 1).toNatClampNeg) (xs (x3 + 2).toNatClampNeg) M118 (fun r119 M120 => ((r117 = r119 → lp_L_law_18 b Ls xs post n (x3 + 6) M120) ∧ (¬ r117 = r119 → post 0 M120))))))))))) ∧ ((xs x3.toNatClampNeg) &&& 63 = 30 → (wp_X5_trace M (fun r121 M122 => (wp_X6_trace M122 (fun r123 M124 => ((r121 = r123 → lp_L_law_18 b Ls xs post n (x3 + 6) M124) ∧ (¬ r121 = r123 → post 0 M124))))))) ∧ ((xs x3.toNatClampNeg) &&& 63 = 31 → (wp_X5_fault M (fun r125 M126 => (wp_X6_fault M126 (fun r127 M128 => ((r125 = r127 → lp_L_law_18 b Ls xs post n (x3 + 6) M128) ∧ (¬ r125 = r127 → post 0 M128))))))) ∧ ((xs x3.toNatClampNeg) &&& 63 = 32 → (vp_in (x3 + 1) Ls ∧ (wp_X5_many (xs (x3 + 1).toNatClampNeg) M (fun r129 M130 => (vp_in (x3 + 1) Ls ∧ (wp_X6_many (xs (x3 + 1).toNatClampNeg) M130 (fun r131 M132 => ((r129 = r131 → lp_L_law_18 b Ls xs post n (x3 + 6) M132) ∧ (¬ r129 = r131 → post 0 M132))))))))) ∧ (¬ (xs x3.toNatClampNeg) &&& 63 = 0 ∧ ¬ (xs x3.toNatClampNeg) &&& 63 = 1 ∧ ¬ (xs x3.toNatClampNeg) &&& 63 = 2 ∧ ¬ (xs x3.toNatClampNeg) &&& 63 = 3 ∧ ¬ (xs x3.toNatClampNeg) &&& 63 = 4 ∧ ¬ (xs x3.toNatClampNeg) &&& 63 = 5 ∧ ¬ (xs x3.toNatClampNeg) &&& 63 = 6 ∧ ¬ (xs x3.toNatClampNeg) &&& 63 = 7 ∧ ¬ (xs x3.toNatClampNeg) &&& 63 = 8 ∧ ¬ (xs x3.toNatClampNeg) &&& 63 = 9 ∧ ¬ (xs x3.toNatClampNeg) &&& 63 = 10 ∧ ¬ (xs x3.toNatClampNeg) &&& 63 = 11 ∧ ¬ (xs x3.toNatClampNeg) &&& 63 = 12 ∧ ¬ (xs x3.toNatClampNeg) &&& 63 = 13 ∧ ¬ (xs x3.toNatClampNeg) &&& 63 = 14 ∧ ¬ (xs x3.toNatClampNeg) &&& 63 = 15 ∧ ¬ (xs x3.toNatClampNeg) &&& 63 = 16 ∧ ¬ (xs x3.toNatClampNeg) &&& 63 = 17 ∧ ¬ (xs x3.toNatClampNeg) &&& 63 = 18 ∧ ¬ (xs x3.toNatClampNeg) &&& 63 = 19 ∧ ¬ (xs x3.toNatClampNeg) &&& 63 = 20 ∧ ¬ (xs x3.toNatClampNeg) &&& 63 = 21 ∧ ¬ (xs x3.toNatClampNeg) &&& 63 = 22 ∧ ¬ (xs x3.toNatClampNeg) &&& 63 = 23 ∧ ¬ (xs x3.toNatClampNeg) &&& 63 = 24 ∧ ¬ (xs x3.toNatClampNeg) &&& 63 = 25 ∧ ¬ (xs x3.toNatClampNeg) &&& 63 = 26 ∧ ¬ (xs x3.toNatClampNeg) &&& 63 = 27 ∧ ¬ (xs x3.toNatClampNeg) &&& 63 = 28 ∧ ¬ (xs x3.toNatClampNeg) &&& 63 = 29 ∧ ¬ (xs x3.toNatClampNeg) &&& 63 = 30 ∧ ¬ (xs x3.toNatClampNeg) &&& 63 = 31 ∧ ¬ (xs x3.toNatClampNeg) &&& 63 = 32 → lp_L_law_18 b Ls xs post n (x3 + 6) M)))))
set_option maxRecDepth 100000 in
theorem wl_L_law_18 {X : CT} (b : Nat) (Ls : Nat) (xs : Nat → Int32) (hlw : lwX X b Ls xs) (hX : okX X RL cL_law 9 324) {post : Int32 → Mem → Prop} (hret : ∀ (r : Int32) (M' : Mem), narrow .boolean (.int r) = .int r → post r M' → RetI X cL_law r M') : ∀ (n : Nat) (x3 : Int32) (M : Mem), lp_L_law_18 b Ls xs post n x3 M → Z X M 18 [some (.ref b), some (.ref (adX X 0)), some (.ref (adX X 34)), some (.int x3)] [] := by
  intro n
  induction n with
  | zero =>
    intro x3 M h
    exact False.elim h
  | succ n ih =>
    intro x3 M h
    unfold lp_L_law_18 at h
    refine r_iload_n hX dL_law_18 rfl rfl ?_
    refine r_aload_n hX dL_law_19 rfl rfl ?_
    refine r_slen hX hlw dL_law_20 ?_
    refine r_bipush (v := 6) hX dL_law_21 (by decide) ?_
    refine r_isub hX dL_law_23 ?_
    refine r_icmp_gt hX 1283 dL_law_24 (by decide) (fun hc => ?_) (fun hc => ?_)
    · have h := h.1 hc
      refine r_iconst (v := 1) hX dL_law_1283 (by decide) ?_
      exact r_iret (hret _ _ rfl h) dL_law_1284
    · have h := h.2 hc
      refine r_aload_n hX dL_law_27 rfl rfl ?_
      refine r_iload_n hX dL_law_28 rfl rfl ?_
      refine r_sld hX hlw h.1 dL_law_29 ?_
      have h := h.2
      refine r_bipush (v := 63) hX dL_law_30 (by decide) ?_
      refine r_iand hX dL_law_32 ?_
      by_cases hc0 : (xs x3.toNatClampNeg) &&& 63 = 0
      · refine r_tin (v := 0) hX 180 dL_law_33 hc0 rfl rfl (by decide) ?_
        have h := h.1 hc0
        refine r_aload_n hX dL_law_180 rfl rfl ?_
        refine r_aload_n hX dL_law_181 rfl rfl ?_
        refine r_iload_n hX dL_law_182 rfl rfl ?_
        refine r_iconst (v := 1) hX dL_law_183 (by decide) ?_
        refine r_iadd hX dL_law_184 ?_
        refine r_sld hX hlw h.1 dL_law_185 ?_
        have h := h.2
        refine r_aload_n hX dL_law_186 rfl rfl ?_
        refine r_iload_n hX dL_law_187 rfl rfl ?_
        refine r_iconst (v := 2) hX dL_law_188 (by decide) ?_
        refine r_iadd hX dL_law_189 ?_
        refine r_sld hX hlw h.1 dL_law_190 ?_
        have h := h.2
        refine r_aload_n hX dL_law_191 rfl rfl ?_
        refine r_iload_n hX dL_law_192 rfl rfl ?_
        refine r_iconst (v := 3) hX dL_law_193 (by decide) ?_
        refine r_iadd hX dL_law_194 ?_
        refine r_sld hX hlw h.1 dL_law_195 ?_
        have h := h.2
        refine r_aload_n hX dL_law_196 rfl rfl ?_
        refine r_iload_n hX dL_law_197 rfl rfl ?_
        refine r_iconst (v := 4) hX dL_law_198 (by decide) ?_
        refine r_iadd hX dL_law_199 ?_
        refine r_sld hX hlw h.1 dL_law_200 ?_
        have h := h.2
        refine r_cVi4 hX fv_L_13 ly_0 rfl ⟨Nat.le_of_ble_eq_true rfl, Nat.le_of_ble_eq_true rfl⟩ (c_X5_hall (xs (x3 + 1).toNatClampNeg) (xs (x3 + 2).toNatClampNeg) (xs (x3 + 3).toNatClampNeg) (xs (x3 + 4).toNatClampNeg) h) (Nat.le_of_ble_eq_true rfl) dL_law_201 (fun r1 M2 h => ?_)
        refine r_aload_n hX dL_law_204 rfl rfl ?_
        refine r_aload_n hX dL_law_205 rfl rfl ?_
        refine r_iload_n hX dL_law_206 rfl rfl ?_
        refine r_iconst (v := 1) hX dL_law_207 (by decide) ?_
        refine r_iadd hX dL_law_208 ?_
        refine r_sld hX hlw h.1 dL_law_209 ?_
        have h := h.2
        refine r_aload_n hX dL_law_210 rfl rfl ?_
        refine r_iload_n hX dL_law_211 rfl rfl ?_
        refine r_iconst (v := 2) hX dL_law_212 (by decide) ?_
        refine r_iadd hX dL_law_213 ?_
        refine r_sld hX hlw h.1 dL_law_214 ?_
        have h := h.2
        refine r_aload_n hX dL_law_215 rfl rfl ?_
        refine r_iload_n hX dL_law_216 rfl rfl ?_
        refine r_iconst (v := 3) hX dL_law_217 (by decide) ?_
        refine r_iadd hX dL_law_218 ?_
        refine r_sld hX hlw h.1 dL_law_219 ?_
        have h := h.2
        refine r_aload_n hX dL_law_220 rfl rfl ?_
        refine r_iload_n hX dL_law_221 rfl rfl ?_
        refine r_iconst (v := 4) hX dL_law_222 (by decide) ?_
        refine r_iadd hX dL_law_223 ?_
        refine r_sld hX hlw h.1 dL_law_224 ?_
        have h := h.2
        refine r_cVi4 hX fv_L_17 ly_34 rfl ⟨Nat.le_of_ble_eq_true rfl, Nat.le_of_ble_eq_true rfl⟩ (c_X6_hall (xs (x3 + 1).toNatClampNeg) (xs (x3 + 2).toNatClampNeg) (xs (x3 + 3).toNatClampNeg) (xs (x3 + 4).toNatClampNeg) h) (Nat.le_of_ble_eq_true rfl) dL_law_225 (fun r3 M4 h => ?_)
        refine r_icmp_eq hX 1277 dL_law_228 (by decide) (fun hc => ?_) (fun hc => ?_)
        · have h := h.1 hc
          refine r_iinc (v := x3 + 6) (L' := [some (.ref b), some (.ref (adX X 0)), some (.ref (adX X 34)), some (.int (x3 + 6))]) hX dL_law_1277 rfl rfl rfl rfl ?_
          refine r_goto hX 18 dL_law_1280 (by decide) ?_
          refine r_sub [some (.ref b), some (.ref (adX X 0)), some (.ref (adX X 34)), some (.int (x3 + 6))] (And.intro rfl (And.intro rfl (And.intro rfl (And.intro rfl trivial)))) ?_
          exact ih _ _ h
        · have h := h.2 hc
          refine r_iconst (v := 0) hX dL_law_231 (by decide) ?_
          exact r_iret (hret _ _ rfl h) dL_law_232
      · by_cases hc1 : (xs x3.toNatClampNeg) &&& 63 = 1
        · refine r_tin (v := 1) hX 233 dL_law_33 hc1 rfl rfl (by decide) ?_
          have h := h.2.1 hc1
          refine r_aload_n hX dL_law_233 rfl rfl ?_
          refine r_aload_n hX dL_law_234 rfl rfl ?_
          refine r_iload_n hX dL_law_235 rfl rfl ?_
          refine r_iconst (v := 1) hX dL_law_236 (by decide) ?_
          refine r_iadd hX dL_law_237 ?_
          refine r_sld hX hlw h.1 dL_law_238 ?_
          have h := h.2
          refine r_aload_n hX dL_law_239 rfl rfl ?_
          refine r_iload_n hX dL_law_240 rfl rfl ?_
          refine r_iconst (v := 2) hX dL_law_241 (by decide) ?_
          refine r_iadd hX dL_law_242 ?_
          refine r_sld hX hlw h.1 dL_law_243 ?_
          have h := h.2
          refine r_cVi2 hX fv_L_18 ly_0 rfl ⟨Nat.le_of_ble_eq_true rfl, Nat.le_of_ble_eq_true rfl⟩ (c_X5_ofChair (xs (x3 + 1).toNatClampNeg) (xs (x3 + 2).toNatClampNeg) h) (Nat.le_of_ble_eq_true rfl) dL_law_244 (fun r5 M6 h => ?_)
          refine r_aload_n hX dL_law_247 rfl rfl ?_
          refine r_aload_n hX dL_law_248 rfl rfl ?_
          refine r_iload_n hX dL_law_249 rfl rfl ?_
          refine r_iconst (v := 1) hX dL_law_250 (by decide) ?_
          refine r_iadd hX dL_law_251 ?_
          refine r_sld hX hlw h.1 dL_law_252 ?_
          have h := h.2
          refine r_aload_n hX dL_law_253 rfl rfl ?_
          refine r_iload_n hX dL_law_254 rfl rfl ?_
          refine r_iconst (v := 2) hX dL_law_255 (by decide) ?_
          refine r_iadd hX dL_law_256 ?_
          refine r_sld hX hlw h.1 dL_law_257 ?_
          have h := h.2
          refine r_cVi2 hX fv_L_22 ly_34 rfl ⟨Nat.le_of_ble_eq_true rfl, Nat.le_of_ble_eq_true rfl⟩ (c_X6_ofChair (xs (x3 + 1).toNatClampNeg) (xs (x3 + 2).toNatClampNeg) h) (Nat.le_of_ble_eq_true rfl) dL_law_258 (fun r7 M8 h => ?_)
          refine r_icmp_eq hX 1277 dL_law_261 (by decide) (fun hc => ?_) (fun hc => ?_)
          · have h := h.1 hc
            refine r_iinc (v := x3 + 6) (L' := [some (.ref b), some (.ref (adX X 0)), some (.ref (adX X 34)), some (.int (x3 + 6))]) hX dL_law_1277 rfl rfl rfl rfl ?_
            refine r_goto hX 18 dL_law_1280 (by decide) ?_
            refine r_sub [some (.ref b), some (.ref (adX X 0)), some (.ref (adX X 34)), some (.int (x3 + 6))] (And.intro rfl (And.intro rfl (And.intro rfl (And.intro rfl trivial)))) ?_
            exact ih _ _ h
          · have h := h.2 hc
            refine r_iconst (v := 0) hX dL_law_264 (by decide) ?_
            exact r_iret (hret _ _ rfl h) dL_law_265
        · by_cases hc2 : (xs x3.toNatClampNeg) &&& 63 = 2
          · refine r_tin (v := 2) hX 266 dL_law_33 hc2 rfl rfl (by decide) ?_
            have h := h.2.2.1 hc2
            refine r_aload_n hX dL_law_266 rfl rfl ?_
            refine r_aload_n hX dL_law_267 rfl rfl ?_
            refine r_iload_n hX dL_law_268 rfl rfl ?_
            refine r_iconst (v := 1) hX dL_law_269 (by decide) ?_
            refine r_iadd hX dL_law_270 ?_
            refine r_sld hX hlw h.1 dL_law_271 ?_
            have h := h.2
            refine r_aload_n hX dL_law_272 rfl rfl ?_
            refine r_iload_n hX dL_law_273 rfl rfl ?_
            refine r_iconst (v := 2) hX dL_law_274 (by decide) ?_
            refine r_iadd hX dL_law_275 ?_
            refine r_sld hX hlw h.1 dL_law_276 ?_
            have h := h.2
            refine r_aload_n hX dL_law_277 rfl rfl ?_
            refine r_iload_n hX dL_law_278 rfl rfl ?_
            refine r_iconst (v := 3) hX dL_law_279 (by decide) ?_
            refine r_iadd hX dL_law_280 ?_
            refine r_sld hX hlw h.1 dL_law_281 ?_
            have h := h.2
            refine r_cVi3 hX fv_L_23 ly_0 rfl ⟨Nat.le_of_ble_eq_true rfl, Nat.le_of_ble_eq_true rfl⟩ (c_X5_slip (xs (x3 + 1).toNatClampNeg) (xs (x3 + 2).toNatClampNeg) (xs (x3 + 3).toNatClampNeg) h) (Nat.le_of_ble_eq_true rfl) dL_law_282 (fun r9 M10 h => ?_)
            refine r_aload_n hX dL_law_285 rfl rfl ?_
            refine r_aload_n hX dL_law_286 rfl rfl ?_
            refine r_iload_n hX dL_law_287 rfl rfl ?_
            refine r_iconst (v := 1) hX dL_law_288 (by decide) ?_
            refine r_iadd hX dL_law_289 ?_
            refine r_sld hX hlw h.1 dL_law_290 ?_
            have h := h.2
            refine r_aload_n hX dL_law_291 rfl rfl ?_
            refine r_iload_n hX dL_law_292 rfl rfl ?_
            refine r_iconst (v := 2) hX dL_law_293 (by decide) ?_
            refine r_iadd hX dL_law_294 ?_
            refine r_sld hX hlw h.1 dL_law_295 ?_
            have h := h.2
            refine r_aload_n hX dL_law_296 rfl rfl ?_
            refine r_iload_n hX dL_law_297 rfl rfl ?_
            refine r_iconst (v := 3) hX dL_law_298 (by decide) ?_
            refine r_iadd hX dL_law_299 ?_
            refine r_sld hX hlw h.1 dL_law_300 ?_
            have h := h.2
            refine r_cVi3 hX fv_L_27 ly_34 rfl ⟨Nat.le_of_ble_eq_true rfl, Nat.le_of_ble_eq_true rfl⟩ (c_X6_slip (xs (x3 + 1).toNatClampNeg) (xs (x3 + 2).toNatClampNeg) (xs (x3 + 3).toNatClampNeg) h) (Nat.le_of_ble_eq_true rfl) dL_law_301 (fun r11 M12 h => ?_)
            refine r_icmp_eq hX 1277 dL_law_304 (by decide) (fun hc => ?_) (fun hc => ?_)
            · have h := h.1 hc
              refine r_iinc (v := x3 + 6) (L' := [some (.ref b), some (.ref (adX X 0)), some (.ref (adX X 34)), some (.int (x3 + 6))]) hX dL_law_1277 rfl rfl rfl rfl ?_
              refine r_goto hX 18 dL_law_1280 (by decide) ?_
              refine r_sub [some (.ref b), some (.ref (adX X 0)), some (.ref (adX X 34)), some (.int (x3 + 6))] (And.intro rfl (And.intro rfl (And.intro rfl (And.intro rfl trivial)))) ?_
              exact ih _ _ h
            · have h := h.2 hc
              refine r_iconst (v := 0) hX dL_law_307 (by decide) ?_
              exact r_iret (hret _ _ rfl h) dL_law_308
          · by_cases hc3 : (xs x3.toNatClampNeg) &&& 63 = 3
            · refine r_tin (v := 3) hX 309 dL_law_33 hc3 rfl rfl (by decide) ?_
              have h := h.2.2.2.1 hc3
              refine r_aload_n hX dL_law_309 rfl rfl ?_
              refine r_aload_n hX dL_law_310 rfl rfl ?_
              refine r_iload_n hX dL_law_311 rfl rfl ?_
              refine r_iconst (v := 1) hX dL_law_312 (by decide) ?_
              refine r_iadd hX dL_law_313 ?_
              refine r_sld hX hlw h.1 dL_law_314 ?_
              have h := h.2
              refine r_aload_n hX dL_law_315 rfl rfl ?_
              refine r_iload_n hX dL_law_316 rfl rfl ?_
              refine r_iconst (v := 2) hX dL_law_317 (by decide) ?_
              refine r_iadd hX dL_law_318 ?_
              refine r_sld hX hlw h.1 dL_law_319 ?_
              have h := h.2
              refine r_cVi2 hX fv_L_28 ly_0 rfl ⟨Nat.le_of_ble_eq_true rfl, Nat.le_of_ble_eq_true rfl⟩ (c_X5_ofSlip (xs (x3 + 1).toNatClampNeg) (xs (x3 + 2).toNatClampNeg) h) (Nat.le_of_ble_eq_true rfl) dL_law_320 (fun r13 M14 h => ?_)
              refine r_aload_n hX dL_law_323 rfl rfl ?_
              refine r_aload_n hX dL_law_324 rfl rfl ?_
              refine r_iload_n hX dL_law_325 rfl rfl ?_
              refine r_iconst (v := 1) hX dL_law_326 (by decide) ?_
              refine r_iadd hX dL_law_327 ?_
              refine r_sld hX hlw h.1 dL_law_328 ?_
              have h := h.2
              refine r_aload_n hX dL_law_329 rfl rfl ?_
              refine r_iload_n hX dL_law_330 rfl rfl ?_
              refine r_iconst (v := 2) hX dL_law_331 (by decide) ?_
              refine r_iadd hX dL_law_332 ?_
              refine r_sld hX hlw h.1 dL_law_333 ?_
              have h := h.2
              refine r_cVi2 hX fv_L_31 ly_34 rfl ⟨Nat.le_of_ble_eq_true rfl, Nat.le_of_ble_eq_true rfl⟩ (c_X6_ofSlip (xs (x3 + 1).toNatClampNeg) (xs (x3 + 2).toNatClampNeg) h) (Nat.le_of_ble_eq_true rfl) dL_law_334 (fun r15 M16 h => ?_)
              refine r_icmp_eq hX 1277 dL_law_337 (by decide) (fun hc => ?_) (fun hc => ?_)
              · have h := h.1 hc
                refine r_iinc (v := x3 + 6) (L' := [some (.ref b), some (.ref (adX X 0)), some (.ref (adX X 34)), some (.int (x3 + 6))]) hX dL_law_1277 rfl rfl rfl rfl ?_
                refine r_goto hX 18 dL_law_1280 (by decide) ?_
                refine r_sub [some (.ref b), some (.ref (adX X 0)), some (.ref (adX X 34)), some (.int (x3 + 6))] (And.intro rfl (And.intro rfl (And.intro rfl (And.intro rfl trivial)))) ?_
                exact ih _ _ h
              · have h := h.2 hc
                refine r_iconst (v := 0) hX dL_law_340 (by decide) ?_
                exact r_iret (hret _ _ rfl h) dL_law_341
            · by_cases hc4 : (xs x3.toNatClampNeg) &&& 63 = 4
              · refine r_tin (v := 4) hX 342 dL_law_33 hc4 rfl rfl (by decide) ?_
                have h := h.2.2.2.2.1 hc4
                refine r_aload_n hX dL_law_342 rfl rfl ?_
                refine r_aload_n hX dL_law_343 rfl rfl ?_
                refine r_iload_n hX dL_law_344 rfl rfl ?_
                refine r_iconst (v := 1) hX dL_law_345 (by decide) ?_
                refine r_iadd hX dL_law_346 ?_
                refine r_sld hX hlw h.1 dL_law_347 ?_
                have h := h.2
                refine r_cVi1 hX fv_L_32 ly_0 rfl ⟨Nat.le_of_ble_eq_true rfl, Nat.le_of_ble_eq_true rfl⟩ (c_X5_unsay (xs (x3 + 1).toNatClampNeg) h) (Nat.le_of_ble_eq_true rfl) dL_law_348 (fun r17 M18 h => ?_)
                refine r_aload_n hX dL_law_351 rfl rfl ?_
                refine r_aload_n hX dL_law_352 rfl rfl ?_
                refine r_iload_n hX dL_law_353 rfl rfl ?_
                refine r_iconst (v := 1) hX dL_law_354 (by decide) ?_
                refine r_iadd hX dL_law_355 ?_
                refine r_sld hX hlw h.1 dL_law_356 ?_
                have h := h.2
                refine r_cVi1 hX fv_L_36 ly_34 rfl ⟨Nat.le_of_ble_eq_true rfl, Nat.le_of_ble_eq_true rfl⟩ (c_X6_unsay (xs (x3 + 1).toNatClampNeg) h) (Nat.le_of_ble_eq_true rfl) dL_law_357 (fun r19 M20 h => ?_)
                refine r_icmp_eq hX 1277 dL_law_360 (by decide) (fun hc => ?_) (fun hc => ?_)
                · have h := h.1 hc
                  refine r_iinc (v := x3 + 6) (L' := [some (.ref b), some (.ref (adX X 0)), some (.ref (adX X 34)), some (.int (x3 + 6))]) hX dL_law_1277 rfl rfl rfl rfl ?_
                  refine r_goto hX 18 dL_law_1280 (by decide) ?_
                  refine r_sub [some (.ref b), some (.ref (adX X 0)), some (.ref (adX X 34)), some (.int (x3 + 6))] (And.intro rfl (And.intro rfl (And.intro rfl (And.intro rfl trivial)))) ?_
                  exact ih _ _ h
                · have h := h.2 hc
                  refine r_iconst (v := 0) hX dL_law_363 (by decide) ?_
                  exact r_iret (hret _ _ rfl h) dL_law_364
              · by_cases hc5 : (xs x3.toNatClampNeg) &&& 63 = 5
                · refine r_tin (v := 5) hX 365 dL_law_33 hc5 rfl rfl (by decide) ?_
                  have h := h.2.2.2.2.2.1 hc5
                  refine r_aload_n hX dL_law_365 rfl rfl ?_
                  refine r_aload_n hX dL_law_366 rfl rfl ?_
                  refine r_iload_n hX dL_law_367 rfl rfl ?_
                  refine r_iconst (v := 1) hX dL_law_368 (by decide) ?_
                  refine r_iadd hX dL_law_369 ?_
                  refine r_sld hX hlw h.1 dL_law_370 ?_
                  have h := h.2
                  refine r_aload_n hX dL_law_371 rfl rfl ?_
                  refine r_iload_n hX dL_law_372 rfl rfl ?_
                  refine r_iconst (v := 2) hX dL_law_373 (by decide) ?_
                  refine r_iadd hX dL_law_374 ?_
                  refine r_sld hX hlw h.1 dL_law_375 ?_
                  have h := h.2
                  refine r_aload_n hX dL_law_376 rfl rfl ?_
                  refine r_iload_n hX dL_law_377 rfl rfl ?_
                  refine r_iconst (v := 3) hX dL_law_378 (by decide) ?_
                  refine r_iadd hX dL_law_379 ?_
                  refine r_sld hX hlw h.1 dL_law_380 ?_
                  have h := h.2
                  refine r_cVi3 hX fv_L_37 ly_0 rfl ⟨Nat.le_of_ble_eq_true rfl, Nat.le_of_ble_eq_true rfl⟩ (c_X5_butter (xs (x3 + 1).toNatClampNeg) (xs (x3 + 2).toNatClampNeg) (xs (x3 + 3).toNatClampNeg) h) (Nat.le_of_ble_eq_true rfl) dL_law_381 (fun r21 M22 h => ?_)
                  refine r_aload_n hX dL_law_384 rfl rfl ?_
                  refine r_aload_n hX dL_law_385 rfl rfl ?_
                  refine r_iload_n hX dL_law_386 rfl rfl ?_
                  refine r_iconst (v := 1) hX dL_law_387 (by decide) ?_
                  refine r_iadd hX dL_law_388 ?_
                  refine r_sld hX hlw h.1 dL_law_389 ?_
                  have h := h.2
                  refine r_aload_n hX dL_law_390 rfl rfl ?_
                  refine r_iload_n hX dL_law_391 rfl rfl ?_
                  refine r_iconst (v := 2) hX dL_law_392 (by decide) ?_
                  refine r_iadd hX dL_law_393 ?_
                  refine r_sld hX hlw h.1 dL_law_394 ?_
                  have h := h.2
                  refine r_aload_n hX dL_law_395 rfl rfl ?_
                  refine r_iload_n hX dL_law_396 rfl rfl ?_
                  refine r_iconst (v := 3) hX dL_law_397 (by decide) ?_
                  refine r_iadd hX dL_law_398 ?_
                  refine r_sld hX hlw h.1 dL_law_399 ?_
                  have h := h.2
                  refine r_cVi3 hX fv_L_40 ly_34 rfl ⟨Nat.le_of_ble_eq_true rfl, Nat.le_of_ble_eq_true rfl⟩ (c_X6_butter (xs (x3 + 1).toNatClampNeg) (xs (x3 + 2).toNatClampNeg) (xs (x3 + 3).toNatClampNeg) h) (Nat.le_of_ble_eq_true rfl) dL_law_400 (fun r23 M24 h => ?_)
                  refine r_icmp_eq hX 1277 dL_law_403 (by decide) (fun hc => ?_) (fun hc => ?_)
                  · have h := h.1 hc
                    refine r_iinc (v := x3 + 6) (L' := [some (.ref b), some (.ref (adX X 0)), some (.ref (adX X 34)), some (.int (x3 + 6))]) hX dL_law_1277 rfl rfl rfl rfl ?_
                    refine r_goto hX 18 dL_law_1280 (by decide) ?_
                    refine r_sub [some (.ref b), some (.ref (adX X 0)), some (.ref (adX X 34)), some (.int (x3 + 6))] (And.intro rfl (And.intro rfl (And.intro rfl (And.intro rfl trivial)))) ?_
                    exact ih _ _ h
                  · have h := h.2 hc
                    refine r_iconst (v := 0) hX dL_law_406 (by decide) ?_
                    exact r_iret (hret _ _ rfl h) dL_law_407
                · by_cases hc6 : (xs x3.toNatClampNeg) &&& 63 = 6
                  · refine r_tin (v := 6) hX 408 dL_law_33 hc6 rfl rfl (by decide) ?_
                    have h := h.2.2.2.2.2.2.1 hc6
                    refine r_aload_n hX dL_law_408 rfl rfl ?_
                    refine r_aload_n hX dL_law_409 rfl rfl ?_
                    refine r_iload_n hX dL_law_410 rfl rfl ?_
                    refine r_iconst (v := 1) hX dL_law_411 (by decide) ?_
                    refine r_iadd hX dL_law_412 ?_
                    refine r_sld hX hlw h.1 dL_law_413 ?_
                    have h := h.2
                    refine r_cVi1 hX fv_L_41 ly_0 rfl ⟨Nat.le_of_ble_eq_true rfl, Nat.le_of_ble_eq_true rfl⟩ (c_X5_melt (xs (x3 + 1).toNatClampNeg) h) (Nat.le_of_ble_eq_true rfl) dL_law_414 (fun r25 M26 h => ?_)
                    refine r_aload_n hX dL_law_417 rfl rfl ?_
                    refine r_aload_n hX dL_law_418 rfl rfl ?_
                    refine r_iload_n hX dL_law_419 rfl rfl ?_
                    refine r_iconst (v := 1) hX dL_law_420 (by decide) ?_
                    refine r_iadd hX dL_law_421 ?_
                    refine r_sld hX hlw h.1 dL_law_422 ?_
                    have h := h.2
                    refine r_cVi1 hX fv_L_44 ly_34 rfl ⟨Nat.le_of_ble_eq_true rfl, Nat.le_of_ble_eq_true rfl⟩ (c_X6_melt (xs (x3 + 1).toNatClampNeg) h) (Nat.le_of_ble_eq_true rfl) dL_law_423 (fun r27 M28 h => ?_)
                    refine r_icmp_eq hX 1277 dL_law_426 (by decide) (fun hc => ?_) (fun hc => ?_)
                    · have h := h.1 hc
                      refine r_iinc (v := x3 + 6) (L' := [some (.ref b), some (.ref (adX X 0)), some (.ref (adX X 34)), some (.int (x3 + 6))]) hX dL_law_1277 rfl rfl rfl rfl ?_
                      refine r_goto hX 18 dL_law_1280 (by decide) ?_
                      refine r_sub [some (.ref b), some (.ref (adX X 0)), some (.ref (adX X 34)), some (.int (x3 + 6))] (And.intro rfl (And.intro rfl (And.intro rfl (And.intro rfl trivial)))) ?_
                      exact ih _ _ h
                    · have h := h.2 hc
                      refine r_iconst (v := 0) hX dL_law_429 (by decide) ?_
                      exact r_iret (hret _ _ rfl h) dL_law_430
                  · by_cases hc7 : (xs x3.toNatClampNeg) &&& 63 = 7
                    · refine r_tin (v := 7) hX 431 dL_law_33 hc7 rfl rfl (by decide) ?_
                      have h := h.2.2.2.2.2.2.2.1 hc7
                      refine r_aload_n hX dL_law_431 rfl rfl ?_
                      refine r_aload_n hX dL_law_432 rfl rfl ?_
                      refine r_iload_n hX dL_law_433 rfl rfl ?_
                      refine r_iconst (v := 1) hX dL_law_434 (by decide) ?_
                      refine r_iadd hX dL_law_435 ?_
                      refine r_sld hX hlw h.1 dL_law_436 ?_
                      have h := h.2
                      refine r_aload_n hX dL_law_437 rfl rfl ?_
                      refine r_iload_n hX dL_law_438 rfl rfl ?_
                      refine r_iconst (v := 2) hX dL_law_439 (by decide) ?_
                      refine r_iadd hX dL_law_440 ?_
                      refine r_sld hX hlw h.1 dL_law_441 ?_
                      have h := h.2
                      refine r_aload_n hX dL_law_442 rfl rfl ?_
                      refine r_iload_n hX dL_law_443 rfl rfl ?_
                      refine r_iconst (v := 3) hX dL_law_444 (by decide) ?_
                      refine r_iadd hX dL_law_445 ?_
                      refine r_sld hX hlw h.1 dL_law_446 ?_
                      have h := h.2
                      refine r_cVi3 hX fv_L_45 ly_0 rfl ⟨Nat.le_of_ble_eq_true rfl, Nat.le_of_ble_eq_true rfl⟩ (c_X5_bears (xs (x3 + 1).toNatClampNeg) (xs (x3 + 2).toNatClampNeg) (xs (x3 + 3).toNatClampNeg) h) (Nat.le_of_ble_eq_true rfl) dL_law_447 (fun r29 M30 h => ?_)
                      refine r_aload_n hX dL_law_450 rfl rfl ?_
                      refine r_aload_n hX dL_law_451 rfl rfl ?_
                      refine r_iload_n hX dL_law_452 rfl rfl ?_
                      refine r_iconst (v := 1) hX dL_law_453 (by decide) ?_
                      refine r_iadd hX dL_law_454 ?_
                      refine r_sld hX hlw h.1 dL_law_455 ?_
                      have h := h.2
                      refine r_aload_n hX dL_law_456 rfl rfl ?_
                      refine r_iload_n hX dL_law_457 rfl rfl ?_
                      refine r_iconst (v := 2) hX dL_law_458 (by decide) ?_
                      refine r_iadd hX dL_law_459 ?_
                      refine r_sld hX hlw h.1 dL_law_460 ?_
                      have h := h.2
                      refine r_aload_n hX dL_law_461 rfl rfl ?_
                      refine r_iload_n hX dL_law_462 rfl rfl ?_
                      refine r_iconst (v := 3) hX dL_law_463 (by decide) ?_
                      refine r_iadd hX dL_law_464 ?_
                      refine r_sld hX hlw h.1 dL_law_465 ?_
                      have h := h.2
                      refine r_cVi3 hX fv_L_48 ly_34 rfl ⟨Nat.le_of_ble_eq_true rfl, Nat.le_of_ble_eq_true rfl⟩ (c_X6_bears (xs (x3 + 1).toNatClampNeg) (xs (x3 + 2).toNatClampNeg) (xs (x3 + 3).toNatClampNeg) h) (Nat.le_of_ble_eq_true rfl) dL_law_466 (fun r31 M32 h => ?_)
                      refine r_icmp_eq hX 1277 dL_law_469 (by decide) (fun hc => ?_) (fun hc => ?_)
                      · have h := h.1 hc
                        refine r_iinc (v := x3 + 6) (L' := [some (.ref b), some (.ref (adX X 0)), some (.ref (adX X 34)), some (.int (x3 + 6))]) hX dL_law_1277 rfl rfl rfl rfl ?_
                        refine r_goto hX 18 dL_law_1280 (by decide) ?_
                        refine r_sub [some (.ref b), some (.ref (adX X 0)), some (.ref (adX X 34)), some (.int (x3 + 6))] (And.intro rfl (And.intro rfl (And.intro rfl (And.intro rfl trivial)))) ?_
                        exact ih _ _ h
                      · have h := h.2 hc
                        refine r_iconst (v := 0) hX dL_law_472 (by decide) ?_
                        exact r_iret (hret _ _ rfl h) dL_law_473
                    · by_cases hc8 : (xs x3.toNatClampNeg) &&& 63 = 8
                      · refine r_tin (v := 8) hX 474 dL_law_33 hc8 rfl rfl (by decide) ?_
                        have h := h.2.2.2.2.2.2.2.2.1 hc8
                        refine r_aload_n hX dL_law_474 rfl rfl ?_
                        refine r_aload_n hX dL_law_475 rfl rfl ?_
                        refine r_iload_n hX dL_law_476 rfl rfl ?_
                        refine r_iconst (v := 1) hX dL_law_477 (by decide) ?_
                        refine r_iadd hX dL_law_478 ?_
                        refine r_sld hX hlw h.1 dL_law_479 ?_
                        have h := h.2
                        refine r_aload_n hX dL_law_480 rfl rfl ?_
                        refine r_iload_n hX dL_law_481 rfl rfl ?_
                        refine r_iconst (v := 2) hX dL_law_482 (by decide) ?_
                        refine r_iadd hX dL_law_483 ?_
                        refine r_sld hX hlw h.1 dL_law_484 ?_
                        have h := h.2
                        refine r_cVi2 hX fv_L_49 ly_0 rfl ⟨Nat.le_of_ble_eq_true rfl, Nat.le_of_ble_eq_true rfl⟩ (c_X5_whom (xs (x3 + 1).toNatClampNeg) (xs (x3 + 2).toNatClampNeg) h) (Nat.le_of_ble_eq_true rfl) dL_law_485 (fun r33 M34 h => ?_)
                        refine r_aload_n hX dL_law_488 rfl rfl ?_
                        refine r_aload_n hX dL_law_489 rfl rfl ?_
                        refine r_iload_n hX dL_law_490 rfl rfl ?_
                        refine r_iconst (v := 1) hX dL_law_491 (by decide) ?_
                        refine r_iadd hX dL_law_492 ?_
                        refine r_sld hX hlw h.1 dL_law_493 ?_
                        have h := h.2
                        refine r_aload_n hX dL_law_494 rfl rfl ?_
                        refine r_iload_n hX dL_law_495 rfl rfl ?_
                        refine r_iconst (v := 2) hX dL_law_496 (by decide) ?_
                        refine r_iadd hX dL_law_497 ?_
                        refine r_sld hX hlw h.1 dL_law_498 ?_
                        have h := h.2
                        refine r_cVi2 hX fv_L_52 ly_34 rfl ⟨Nat.le_of_ble_eq_true rfl, Nat.le_of_ble_eq_true rfl⟩ (c_X6_whom (xs (x3 + 1).toNatClampNeg) (xs (x3 + 2).toNatClampNeg) h) (Nat.le_of_ble_eq_true rfl) dL_law_499 (fun r35 M36 h => ?_)
                        refine r_icmp_eq hX 1277 dL_law_502 (by decide) (fun hc => ?_) (fun hc => ?_)
                        · have h := h.1 hc
                          refine r_iinc (v := x3 + 6) (L' := [some (.ref b), some (.ref (adX X 0)), some (.ref (adX X 34)), some (.int (x3 + 6))]) hX dL_law_1277 rfl rfl rfl rfl ?_
                          refine r_goto hX 18 dL_law_1280 (by decide) ?_
                          refine r_sub [some (.ref b), some (.ref (adX X 0)), some (.ref (adX X 34)), some (.int (x3 + 6))] (And.intro rfl (And.intro rfl (And.intro rfl (And.intro rfl trivial)))) ?_
                          exact ih _ _ h
                        · have h := h.2 hc
                          refine r_iconst (v := 0) hX dL_law_505 (by decide) ?_
                          exact r_iret (hret _ _ rfl h) dL_law_506
                      · by_cases hc9 : (xs x3.toNatClampNeg) &&& 63 = 9
                        · refine r_tin (v := 9) hX 507 dL_law_33 hc9 rfl rfl (by decide) ?_
                          have h := h.2.2.2.2.2.2.2.2.2.1 hc9
                          refine r_aload_n hX dL_law_507 rfl rfl ?_
                          refine r_aload_n hX dL_law_508 rfl rfl ?_
                          refine r_iload_n hX dL_law_509 rfl rfl ?_
                          refine r_iconst (v := 1) hX dL_law_510 (by decide) ?_
                          refine r_iadd hX dL_law_511 ?_
                          refine r_sld hX hlw h.1 dL_law_512 ?_
                          have h := h.2
                          refine r_aload_n hX dL_law_513 rfl rfl ?_
                          refine r_iload_n hX dL_law_514 rfl rfl ?_
                          refine r_iconst (v := 2) hX dL_law_515 (by decide) ?_
                          refine r_iadd hX dL_law_516 ?_
                          refine r_sld hX hlw h.1 dL_law_517 ?_
                          have h := h.2
                          refine r_cVi2 hX fv_L_53 ly_0 rfl ⟨Nat.le_of_ble_eq_true rfl, Nat.le_of_ble_eq_true rfl⟩ (c_X5_seats (xs (x3 + 1).toNatClampNeg) (xs (x3 + 2).toNatClampNeg) h) (Nat.le_of_ble_eq_true rfl) dL_law_518 (fun r37 M38 h => ?_)
                          refine r_aload_n hX dL_law_521 rfl rfl ?_
                          refine r_aload_n hX dL_law_522 rfl rfl ?_
                          refine r_iload_n hX dL_law_523 rfl rfl ?_
                          refine r_iconst (v := 1) hX dL_law_524 (by decide) ?_
                          refine r_iadd hX dL_law_525 ?_
                          refine r_sld hX hlw h.1 dL_law_526 ?_
                          have h := h.2
                          refine r_aload_n hX dL_law_527 rfl rfl ?_
                          refine r_iload_n hX dL_law_528 rfl rfl ?_
                          refine r_iconst (v := 2) hX dL_law_529 (by decide) ?_
                          refine r_iadd hX dL_law_530 ?_
                          refine r_sld hX hlw h.1 dL_law_531 ?_
                          have h := h.2
                          refine r_cVi2 hX fv_L_56 ly_34 rfl ⟨Nat.le_of_ble_eq_true rfl, Nat.le_of_ble_eq_true rfl⟩ (c_X6_seats (xs (x3 + 1).toNatClampNeg) (xs (x3 + 2).toNatClampNeg) h) (Nat.le_of_ble_eq_true rfl) dL_law_532 (fun r39 M40 h => ?_)
                          refine r_icmp_eq hX 1277 dL_law_535 (by decide) (fun hc => ?_) (fun hc => ?_)
                          · have h := h.1 hc
                            refine r_iinc (v := x3 + 6) (L' := [some (.ref b), some (.ref (adX X 0)), some (.ref (adX X 34)), some (.int (x3 + 6))]) hX dL_law_1277 rfl rfl rfl rfl ?_
                            refine r_goto hX 18 dL_law_1280 (by decide) ?_
                            refine r_sub [some (.ref b), some (.ref (adX X 0)), some (.ref (adX X 34)), some (.int (x3 + 6))] (And.intro rfl (And.intro rfl (And.intro rfl (And.intro rfl trivial)))) ?_
                            exact ih _ _ h
                          · have h := h.2 hc
                            refine r_iconst (v := 0) hX dL_law_538 (by decide) ?_
                            exact r_iret (hret _ _ rfl h) dL_law_539
                        · by_cases hc10 : (xs x3.toNatClampNeg) &&& 63 = 10
                          · refine r_tin (v := 10) hX 540 dL_law_33 hc10 rfl rfl (by decide) ?_
                            have h := h.2.2.2.2.2.2.2.2.2.2.1 hc10
                            refine r_aload_n hX dL_law_540 rfl rfl ?_
                            refine r_aload_n hX dL_law_541 rfl rfl ?_
                            refine r_iload_n hX dL_law_542 rfl rfl ?_
                            refine r_iconst (v := 1) hX dL_law_543 (by decide) ?_
                            refine r_iadd hX dL_law_544 ?_
                            refine r_sld hX hlw h.1 dL_law_545 ?_
                            have h := h.2
                            refine r_cVi1 hX fv_L_57 ly_0 rfl ⟨Nat.le_of_ble_eq_true rfl, Nat.le_of_ble_eq_true rfl⟩ (c_X5_few (xs (x3 + 1).toNatClampNeg) h) (Nat.le_of_ble_eq_true rfl) dL_law_546 (fun r41 M42 h => ?_)
                            refine r_aload_n hX dL_law_549 rfl rfl ?_
                            refine r_aload_n hX dL_law_550 rfl rfl ?_
                            refine r_iload_n hX dL_law_551 rfl rfl ?_
                            refine r_iconst (v := 1) hX dL_law_552 (by decide) ?_
                            refine r_iadd hX dL_law_553 ?_
                            refine r_sld hX hlw h.1 dL_law_554 ?_
                            have h := h.2
                            refine r_cVi1 hX fv_L_60 ly_34 rfl ⟨Nat.le_of_ble_eq_true rfl, Nat.le_of_ble_eq_true rfl⟩ (c_X6_few (xs (x3 + 1).toNatClampNeg) h) (Nat.le_of_ble_eq_true rfl) dL_law_555 (fun r43 M44 h => ?_)
                            refine r_icmp_eq hX 1277 dL_law_558 (by decide) (fun hc => ?_) (fun hc => ?_)
                            · have h := h.1 hc
                              refine r_iinc (v := x3 + 6) (L' := [some (.ref b), some (.ref (adX X 0)), some (.ref (adX X 34)), some (.int (x3 + 6))]) hX dL_law_1277 rfl rfl rfl rfl ?_
                              refine r_goto hX 18 dL_law_1280 (by decide) ?_
                              refine r_sub [some (.ref b), some (.ref (adX X 0)), some (.ref (adX X 34)), some (.int (x3 + 6))] (And.intro rfl (And.intro rfl (And.intro rfl (And.intro rfl trivial)))) ?_
                              exact ih _ _ h
                            · have h := h.2 hc
                              refine r_iconst (v := 0) hX dL_law_561 (by decide) ?_
                              exact r_iret (hret _ _ rfl h) dL_law_562
                          · by_cases hc11 : (xs x3.toNatClampNeg) &&& 63 = 11
                            · refine r_tin (v := 11) hX 563 dL_law_33 hc11 rfl rfl (by decide) ?_
                              have h := h.2.2.2.2.2.2.2.2.2.2.2.1 hc11
                              refine r_aload_n hX dL_law_563 rfl rfl ?_
                              refine r_aload_n hX dL_law_564 rfl rfl ?_
                              refine r_iload_n hX dL_law_565 rfl rfl ?_
                              refine r_iconst (v := 1) hX dL_law_566 (by decide) ?_
                              refine r_iadd hX dL_law_567 ?_
                              refine r_sld hX hlw h.1 dL_law_568 ?_
                              have h := h.2
                              refine r_aload_n hX dL_law_569 rfl rfl ?_
                              refine r_iload_n hX dL_law_570 rfl rfl ?_
                              refine r_iconst (v := 2) hX dL_law_571 (by decide) ?_
                              refine r_iadd hX dL_law_572 ?_
                              refine r_sld hX hlw h.1 dL_law_573 ?_
                              have h := h.2
                              refine r_aload_n hX dL_law_574 rfl rfl ?_
                              refine r_iload_n hX dL_law_575 rfl rfl ?_
                              refine r_iconst (v := 3) hX dL_law_576 (by decide) ?_
                              refine r_iadd hX dL_law_577 ?_
                              refine r_sld hX hlw h.1 dL_law_578 ?_
                              have h := h.2
                              refine r_aload_n hX dL_law_579 rfl rfl ?_
                              refine r_iload_n hX dL_law_580 rfl rfl ?_
                              refine r_iconst (v := 4) hX dL_law_581 (by decide) ?_
                              refine r_iadd hX dL_law_582 ?_
                              refine r_sld hX hlw h.1 dL_law_583 ?_
                              have h := h.2
                              refine r_aload_n hX dL_law_584 rfl rfl ?_
                              refine r_iload_n hX dL_law_585 rfl rfl ?_
                              refine r_iconst (v := 5) hX dL_law_586 (by decide) ?_
                              refine r_iadd hX dL_law_587 ?_
                              refine r_sld hX hlw h.1 dL_law_588 ?_
                              have h := h.2
                              refine r_cVi5 hX fv_L_61 ly_0 rfl ⟨Nat.le_of_ble_eq_true rfl, Nat.le_of_ble_eq_true rfl⟩ (c_X5_tipped (xs (x3 + 1).toNatClampNeg) (xs (x3 + 2).toNatClampNeg) (xs (x3 + 3).toNatClampNeg) (xs (x3 + 4).toNatClampNeg) (xs (x3 + 5).toNatClampNeg) h) (Nat.le_of_ble_eq_true rfl) dL_law_589 (fun r45 M46 h => ?_)
                              refine r_aload_n hX dL_law_592 rfl rfl ?_
                              refine r_aload_n hX dL_law_593 rfl rfl ?_
                              refine r_iload_n hX dL_law_594 rfl rfl ?_
                              refine r_iconst (v := 1) hX dL_law_595 (by decide) ?_
                              refine r_iadd hX dL_law_596 ?_
                              refine r_sld hX hlw h.1 dL_law_597 ?_
                              have h := h.2
                              refine r_aload_n hX dL_law_598 rfl rfl ?_
                              refine r_iload_n hX dL_law_599 rfl rfl ?_
                              refine r_iconst (v := 2) hX dL_law_600 (by decide) ?_
                              refine r_iadd hX dL_law_601 ?_
                              refine r_sld hX hlw h.1 dL_law_602 ?_
                              have h := h.2
                              refine r_aload_n hX dL_law_603 rfl rfl ?_
                              refine r_iload_n hX dL_law_604 rfl rfl ?_
                              refine r_iconst (v := 3) hX dL_law_605 (by decide) ?_
                              refine r_iadd hX dL_law_606 ?_
                              refine r_sld hX hlw h.1 dL_law_607 ?_
                              have h := h.2
                              refine r_aload_n hX dL_law_608 rfl rfl ?_
                              refine r_iload_n hX dL_law_609 rfl rfl ?_
                              refine r_iconst (v := 4) hX dL_law_610 (by decide) ?_
                              refine r_iadd hX dL_law_611 ?_
                              refine r_sld hX hlw h.1 dL_law_612 ?_
                              have h := h.2
                              refine r_aload_n hX dL_law_613 rfl rfl ?_
                              refine r_iload_n hX dL_law_614 rfl rfl ?_
                              refine r_iconst (v := 5) hX dL_law_615 (by decide) ?_
                              refine r_iadd hX dL_law_616 ?_
                              refine r_sld hX hlw h.1 dL_law_617 ?_
                              have h := h.2
                              refine r_cVi5 hX fv_L_65 ly_34 rfl ⟨Nat.le_of_ble_eq_true rfl, Nat.le_of_ble_eq_true rfl⟩ (c_X6_tipped (xs (x3 + 1).toNatClampNeg) (xs (x3 + 2).toNatClampNeg) (xs (x3 + 3).toNatClampNeg) (xs (x3 + 4).toNatClampNeg) (xs (x3 + 5).toNatClampNeg) h) (Nat.le_of_ble_eq_true rfl) dL_law_618 (fun r47 M48 h => ?_)
                              refine r_icmp_eq hX 1277 dL_law_621 (by decide) (fun hc => ?_) (fun hc => ?_)
                              · have h := h.1 hc
                                refine r_iinc (v := x3 + 6) (L' := [some (.ref b), some (.ref (adX X 0)), some (.ref (adX X 34)), some (.int (x3 + 6))]) hX dL_law_1277 rfl rfl rfl rfl ?_
                                refine r_goto hX 18 dL_law_1280 (by decide) ?_
                                refine r_sub [some (.ref b), some (.ref (adX X 0)), some (.ref (adX X 34)), some (.int (x3 + 6))] (And.intro rfl (And.intro rfl (And.intro rfl (And.intro rfl trivial)))) ?_
                                exact ih _ _ h
                              · have h := h.2 hc
                                refine r_iconst (v := 0) hX dL_law_624 (by decide) ?_
                                exact r_iret (hret _ _ rfl h) dL_law_625
                            · by_cases hc12 : (xs x3.toNatClampNeg) &&& 63 = 12
                              · refine r_tin (v := 12) hX 626 dL_law_33 hc12 rfl rfl (by decide) ?_
                                have h := h.2.2.2.2.2.2.2.2.2.2.2.2.1 hc12
                                refine r_aload_n hX dL_law_626 rfl rfl ?_
                                refine r_aload_n hX dL_law_627 rfl rfl ?_
                                refine r_iload_n hX dL_law_628 rfl rfl ?_
                                refine r_iconst (v := 1) hX dL_law_629 (by decide) ?_
                                refine r_iadd hX dL_law_630 ?_
                                refine r_sld hX hlw h.1 dL_law_631 ?_
                                have h := h.2
                                refine r_aload_n hX dL_law_632 rfl rfl ?_
                                refine r_iload_n hX dL_law_633 rfl rfl ?_
                                refine r_iconst (v := 2) hX dL_law_634 (by decide) ?_
                                refine r_iadd hX dL_law_635 ?_
                                refine r_sld hX hlw h.1 dL_law_636 ?_
                                have h := h.2
                                refine r_cVi2 hX fv_L_66 ly_0 rfl ⟨Nat.le_of_ble_eq_true rfl, Nat.le_of_ble_eq_true rfl⟩ (c_X5_least (xs (x3 + 1).toNatClampNeg) (xs (x3 + 2).toNatClampNeg) h) (Nat.le_of_ble_eq_true rfl) dL_law_637 (fun r49 M50 h => ?_)
                                refine r_aload_n hX dL_law_640 rfl rfl ?_
                                refine r_aload_n hX dL_law_641 rfl rfl ?_
                                refine r_iload_n hX dL_law_642 rfl rfl ?_
                                refine r_iconst (v := 1) hX dL_law_643 (by decide) ?_
                                refine r_iadd hX dL_law_644 ?_
                                refine r_sld hX hlw h.1 dL_law_645 ?_
                                have h := h.2
                                refine r_aload_n hX dL_law_646 rfl rfl ?_
                                refine r_iload_n hX dL_law_647 rfl rfl ?_
                                refine r_iconst (v := 2) hX dL_law_648 (by decide) ?_
                                refine r_iadd hX dL_law_649 ?_
                                refine r_sld hX hlw h.1 dL_law_650 ?_
                                have h := h.2
                                refine r_cVi2 hX fv_L_69 ly_34 rfl ⟨Nat.le_of_ble_eq_true rfl, Nat.le_of_ble_eq_true rfl⟩ (c_X6_least (xs (x3 + 1).toNatClampNeg) (xs (x3 + 2).toNatClampNeg) h) (Nat.le_of_ble_eq_true rfl) dL_law_651 (fun r51 M52 h => ?_)
                                refine r_icmp_eq hX 1277 dL_law_654 (by decide) (fun hc => ?_) (fun hc => ?_)
                                · have h := h.1 hc
                                  refine r_iinc (v := x3 + 6) (L' := [some (.ref b), some (.ref (adX X 0)), some (.ref (adX X 34)), some (.int (x3 + 6))]) hX dL_law_1277 rfl rfl rfl rfl ?_
                                  refine r_goto hX 18 dL_law_1280 (by decide) ?_
                                  refine r_sub [some (.ref b), some (.ref (adX X 0)), some (.ref (adX X 34)), some (.int (x3 + 6))] (And.intro rfl (And.intro rfl (And.intro rfl (And.intro rfl trivial)))) ?_
                                  exact ih _ _ h
                                · have h := h.2 hc
                                  refine r_iconst (v := 0) hX dL_law_657 (by decide) ?_
                                  exact r_iret (hret _ _ rfl h) dL_law_658
                              · by_cases hc13 : (xs x3.toNatClampNeg) &&& 63 = 13
                                · refine r_tin (v := 13) hX 659 dL_law_33 hc13 rfl rfl (by decide) ?_
                                  have h := h.2.2.2.2.2.2.2.2.2.2.2.2.2.1 hc13
                                  refine r_aload_n hX dL_law_659 rfl rfl ?_
                                  refine r_aload_n hX dL_law_660 rfl rfl ?_
                                  refine r_iload_n hX dL_law_661 rfl rfl ?_
                                  refine r_iconst (v := 1) hX dL_law_662 (by decide) ?_
                                  refine r_iadd hX dL_law_663 ?_
                                  refine r_sld hX hlw h.1 dL_law_664 ?_
                                  have h := h.2
                                  refine r_cVi1 hX fv_L_70 ly_0 rfl ⟨Nat.le_of_ble_eq_true rfl, Nat.le_of_ble_eq_true rfl⟩ (c_X5_when (xs (x3 + 1).toNatClampNeg) h) (Nat.le_of_ble_eq_true rfl) dL_law_665 (fun r53 M54 h => ?_)
                                  refine r_aload_n hX dL_law_668 rfl rfl ?_
                                  refine r_aload_n hX dL_law_669 rfl rfl ?_
                                  refine r_iload_n hX dL_law_670 rfl rfl ?_
                                  refine r_iconst (v := 1) hX dL_law_671 (by decide) ?_
                                  refine r_iadd hX dL_law_672 ?_
                                  refine r_sld hX hlw h.1 dL_law_673 ?_
                                  have h := h.2
                                  refine r_cVi1 hX fv_L_73 ly_34 rfl ⟨Nat.le_of_ble_eq_true rfl, Nat.le_of_ble_eq_true rfl⟩ (c_X6_when (xs (x3 + 1).toNatClampNeg) h) (Nat.le_of_ble_eq_true rfl) dL_law_674 (fun r55 M56 h => ?_)
                                  refine r_icmp_eq hX 1277 dL_law_677 (by decide) (fun hc => ?_) (fun hc => ?_)
                                  · have h := h.1 hc
                                    refine r_iinc (v := x3 + 6) (L' := [some (.ref b), some (.ref (adX X 0)), some (.ref (adX X 34)), some (.int (x3 + 6))]) hX dL_law_1277 rfl rfl rfl rfl ?_
                                    refine r_goto hX 18 dL_law_1280 (by decide) ?_
                                    refine r_sub [some (.ref b), some (.ref (adX X 0)), some (.ref (adX X 34)), some (.int (x3 + 6))] (And.intro rfl (And.intro rfl (And.intro rfl (And.intro rfl trivial)))) ?_
                                    exact ih _ _ h
                                  · have h := h.2 hc
                                    refine r_iconst (v := 0) hX dL_law_680 (by decide) ?_
                                    exact r_iret (hret _ _ rfl h) dL_law_681
                                · by_cases hc14 : (xs x3.toNatClampNeg) &&& 63 = 14
                                  · refine r_tin (v := 14) hX 682 dL_law_33 hc14 rfl rfl (by decide) ?_
                                    have h := h.2.2.2.2.2.2.2.2.2.2.2.2.2.2.1 hc14
                                    refine r_aload_n hX dL_law_682 rfl rfl ?_
                                    refine r_aload_n hX dL_law_683 rfl rfl ?_
                                    refine r_iload_n hX dL_law_684 rfl rfl ?_
                                    refine r_iconst (v := 1) hX dL_law_685 (by decide) ?_
                                    refine r_iadd hX dL_law_686 ?_
                                    refine r_sld hX hlw h.1 dL_law_687 ?_
                                    have h := h.2
                                    refine r_aload_n hX dL_law_688 rfl rfl ?_
                                    refine r_iload_n hX dL_law_689 rfl rfl ?_
                                    refine r_iconst (v := 2) hX dL_law_690 (by decide) ?_
                                    refine r_iadd hX dL_law_691 ?_
                                    refine r_sld hX hlw h.1 dL_law_692 ?_
                                    have h := h.2
                                    refine r_cVi2 hX fv_L_74 ly_0 rfl ⟨Nat.le_of_ble_eq_true rfl, Nat.le_of_ble_eq_true rfl⟩ (c_X5_fresh (xs (x3 + 1).toNatClampNeg) (xs (x3 + 2).toNatClampNeg) h) (Nat.le_of_ble_eq_true rfl) dL_law_693 (fun r57 M58 h => ?_)
                                    refine r_aload_n hX dL_law_696 rfl rfl ?_
                                    refine r_aload_n hX dL_law_697 rfl rfl ?_
                                    refine r_iload_n hX dL_law_698 rfl rfl ?_
                                    refine r_iconst (v := 1) hX dL_law_699 (by decide) ?_
                                    refine r_iadd hX dL_law_700 ?_
                                    refine r_sld hX hlw h.1 dL_law_701 ?_
                                    have h := h.2
                                    refine r_aload_n hX dL_law_702 rfl rfl ?_
                                    refine r_iload_n hX dL_law_703 rfl rfl ?_
                                    refine r_iconst (v := 2) hX dL_law_704 (by decide) ?_
                                    refine r_iadd hX dL_law_705 ?_
                                    refine r_sld hX hlw h.1 dL_law_706 ?_
                                    have h := h.2
                                    refine r_cVi2 hX fv_L_77 ly_34 rfl ⟨Nat.le_of_ble_eq_true rfl, Nat.le_of_ble_eq_true rfl⟩ (c_X6_fresh (xs (x3 + 1).toNatClampNeg) (xs (x3 + 2).toNatClampNeg) h) (Nat.le_of_ble_eq_true rfl) dL_law_707 (fun r59 M60 h => ?_)
                                    refine r_icmp_eq hX 1277 dL_law_710 (by decide) (fun hc => ?_) (fun hc => ?_)
                                    · have h := h.1 hc
                                      refine r_iinc (v := x3 + 6) (L' := [some (.ref b), some (.ref (adX X 0)), some (.ref (adX X 34)), some (.int (x3 + 6))]) hX dL_law_1277 rfl rfl rfl rfl ?_
                                      refine r_goto hX 18 dL_law_1280 (by decide) ?_
                                      refine r_sub [some (.ref b), some (.ref (adX X 0)), some (.ref (adX X 34)), some (.int (x3 + 6))] (And.intro rfl (And.intro rfl (And.intro rfl (And.intro rfl trivial)))) ?_
                                      exact ih _ _ h
                                    · have h := h.2 hc
                                      refine r_iconst (v := 0) hX dL_law_713 (by decide) ?_
                                      exact r_iret (hret _ _ rfl h) dL_law_714
                                  · by_cases hc15 : (xs x3.toNatClampNeg) &&& 63 = 15
                                    · refine r_tin (v := 15) hX 715 dL_law_33 hc15 rfl rfl (by decide) ?_
                                      have h := h.2.2.2.2.2.2.2.2.2.2.2.2.2.2.2.1 hc15
                                      refine r_aload_n hX dL_law_715 rfl rfl ?_
                                      refine r_aload_n hX dL_law_716 rfl rfl ?_
                                      refine r_iload_n hX dL_law_717 rfl rfl ?_
                                      refine r_iconst (v := 1) hX dL_law_718 (by decide) ?_
                                      refine r_iadd hX dL_law_719 ?_
                                      refine r_sld hX hlw h.1 dL_law_720 ?_
                                      have h := h.2
                                      refine r_aload_n hX dL_law_721 rfl rfl ?_
                                      refine r_iload_n hX dL_law_722 rfl rfl ?_
                                      refine r_iconst (v := 2) hX dL_law_723 (by decide) ?_
                                      refine r_iadd hX dL_law_724 ?_
                                      refine r_sld hX hlw h.1 dL_law_725 ?_
                                      have h := h.2
                                      refine r_aload_n hX dL_law_726 rfl rfl ?_
                                      refine r_iload_n hX dL_law_727 rfl rfl ?_
                                      refine r_iconst (v := 3) hX dL_law_728 (by decide) ?_
                                      refine r_iadd hX dL_law_729 ?_
                                      refine r_sld hX hlw h.1 dL_law_730 ?_
                                      have h := h.2
                                      refine r_aload_n hX dL_law_731 rfl rfl ?_
                                      refine r_iload_n hX dL_law_732 rfl rfl ?_
                                      refine r_iconst (v := 4) hX dL_law_733 (by decide) ?_
                                      refine r_iadd hX dL_law_734 ?_
                                      refine r_sld hX hlw h.1 dL_law_735 ?_
                                      have h := h.2
                                      refine r_if_eq hX 743 dL_law_736 (by decide) (fun hc => ?_) (fun hc => ?_)
                                      · have h := h.1 hc
                                        refine r_iconst (v := 0) hX dL_law_743 (by decide) ?_
                                        refine r_sub [some (.ref b), some (.ref (adX X 0)), some (.ref (adX X 34)), some (.int x3)] (And.intro rfl (And.intro rfl (And.intro rfl (And.intro rfl trivial)))) ?_
                                        exact wj_L_law_744 b Ls xs hlw hX hret (fun y3 M' h' => ih y3 M' h') _ _ _ _ _ _ h
                                      · have h := h.2 hc
                                        refine r_iconst (v := 1) hX dL_law_739 (by decide) ?_
                                        refine r_goto hX 744 dL_law_740 (by decide) ?_
                                        refine r_sub [some (.ref b), some (.ref (adX X 0)), some (.ref (adX X 34)), some (.int x3)] (And.intro rfl (And.intro rfl (And.intro rfl (And.intro rfl trivial)))) ?_
                                        exact wj_L_law_744 b Ls xs hlw hX hret (fun y3 M' h' => ih y3 M' h') _ _ _ _ _ _ h
                                    · by_cases hc16 : (xs x3.toNatClampNeg) &&& 63 = 16
                                      · refine r_tin (v := 16) hX 784 dL_law_33 hc16 rfl rfl (by decide) ?_
                                        have h := h.2.2.2.2.2.2.2.2.2.2.2.2.2.2.2.2.1 hc16
                                        refine r_aload_n hX dL_law_784 rfl rfl ?_
                                        refine r_aload_n hX dL_law_785 rfl rfl ?_
                                        refine r_iload_n hX dL_law_786 rfl rfl ?_
                                        refine r_iconst (v := 1) hX dL_law_787 (by decide) ?_
                                        refine r_iadd hX dL_law_788 ?_
                                        refine r_sld hX hlw h.1 dL_law_789 ?_
                                        have h := h.2
                                        refine r_cVi1 hX fv_L_83 ly_0 rfl ⟨Nat.le_of_ble_eq_true rfl, Nat.le_of_ble_eq_true rfl⟩ (c_X5_back (xs (x3 + 1).toNatClampNeg) h) (Nat.le_of_ble_eq_true rfl) dL_law_790 (fun r65 M66 h => ?_)
                                        refine r_aload_n hX dL_law_793 rfl rfl ?_
                                        refine r_aload_n hX dL_law_794 rfl rfl ?_
                                        refine r_iload_n hX dL_law_795 rfl rfl ?_
                                        refine r_iconst (v := 1) hX dL_law_796 (by decide) ?_
                                        refine r_iadd hX dL_law_797 ?_
                                        refine r_sld hX hlw h.1 dL_law_798 ?_
                                        have h := h.2
                                        refine r_cVi1 hX fv_L_86 ly_34 rfl ⟨Nat.le_of_ble_eq_true rfl, Nat.le_of_ble_eq_true rfl⟩ (c_X6_back (xs (x3 + 1).toNatClampNeg) h) (Nat.le_of_ble_eq_true rfl) dL_law_799 (fun r67 M68 h => ?_)
                                        refine r_icmp_eq hX 1277 dL_law_802 (by decide) (fun hc => ?_) (fun hc => ?_)
                                        · have h := h.1 hc
                                          refine r_iinc (v := x3 + 6) (L' := [some (.ref b), some (.ref (adX X 0)), some (.ref (adX X 34)), some (.int (x3 + 6))]) hX dL_law_1277 rfl rfl rfl rfl ?_
                                          refine r_goto hX 18 dL_law_1280 (by decide) ?_
                                          refine r_sub [some (.ref b), some (.ref (adX X 0)), some (.ref (adX X 34)), some (.int (x3 + 6))] (And.intro rfl (And.intro rfl (And.intro rfl (And.intro rfl trivial)))) ?_
                                          exact ih _ _ h
                                        · have h := h.2 hc
                                          refine r_iconst (v := 0) hX dL_law_805 (by decide) ?_
                                          exact r_iret (hret _ _ rfl h) dL_law_806
                                      · by_cases hc17 : (xs x3.toNatClampNeg) &&& 63 = 17
                                        · refine r_tin (v := 17) hX 807 dL_law_33 hc17 rfl rfl (by decide) ?_
                                          have h := h.2.2.2.2.2.2.2.2.2.2.2.2.2.2.2.2.2.1 hc17
                                          refine r_aload_n hX dL_law_807 rfl rfl ?_
                                          refine r_aload_n hX dL_law_808 rfl rfl ?_
                                          refine r_iload_n hX dL_law_809 rfl rfl ?_
                                          refine r_iconst (v := 1) hX dL_law_810 (by decide) ?_
                                          refine r_iadd hX dL_law_811 ?_
                                          refine r_sld hX hlw h.1 dL_law_812 ?_
                                          have h := h.2
                                          refine r_cVi1 hX fv_L_87 ly_0 rfl ⟨Nat.le_of_ble_eq_true rfl, Nat.le_of_ble_eq_true rfl⟩ (c_X5_times (xs (x3 + 1).toNatClampNeg) h) (Nat.le_of_ble_eq_true rfl) dL_law_813 (fun r69 M70 h => ?_)
                                          refine r_aload_n hX dL_law_816 rfl rfl ?_
                                          refine r_aload_n hX dL_law_817 rfl rfl ?_
                                          refine r_iload_n hX dL_law_818 rfl rfl ?_
                                          refine r_iconst (v := 1) hX dL_law_819 (by decide) ?_
                                          refine r_iadd hX dL_law_820 ?_
                                          refine r_sld hX hlw h.1 dL_law_821 ?_
                                          have h := h.2
                                          refine r_cVi1 hX fv_L_90 ly_34 rfl ⟨Nat.le_of_ble_eq_true rfl, Nat.le_of_ble_eq_true rfl⟩ (c_X6_times (xs (x3 + 1).toNatClampNeg) h) (Nat.le_of_ble_eq_true rfl) dL_law_822 (fun r71 M72 h => ?_)
                                          refine r_icmp_eq hX 1277 dL_law_825 (by decide) (fun hc => ?_) (fun hc => ?_)
                                          · have h := h.1 hc
                                            refine r_iinc (v := x3 + 6) (L' := [some (.ref b), some (.ref (adX X 0)), some (.ref (adX X 34)), some (.int (x3 + 6))]) hX dL_law_1277 rfl rfl rfl rfl ?_
                                            refine r_goto hX 18 dL_law_1280 (by decide) ?_
                                            refine r_sub [some (.ref b), some (.ref (adX X 0)), some (.ref (adX X 34)), some (.int (x3 + 6))] (And.intro rfl (And.intro rfl (And.intro rfl (And.intro rfl trivial)))) ?_
                                            exact ih _ _ h
                                          · have h := h.2 hc
                                            refine r_iconst (v := 0) hX dL_law_828 (by decide) ?_
                                            exact r_iret (hret _ _ rfl h) dL_law_829
                                        · by_cases hc18 : (xs x3.toNatClampNeg) &&& 63 = 18
                                          · refine r_tin (v := 18) hX 830 dL_law_33 hc18 rfl rfl (by decide) ?_
                                            have h := h.2.2.2.2.2.2.2.2.2.2.2.2.2.2.2.2.2.2.1 hc18
                                            refine r_aload_n hX dL_law_830 rfl rfl ?_
                                            refine r_aload_n hX dL_law_831 rfl rfl ?_
                                            refine r_iload_n hX dL_law_832 rfl rfl ?_
                                            refine r_iconst (v := 1) hX dL_law_833 (by decide) ?_
                                            refine r_iadd hX dL_law_834 ?_
                                            refine r_sld hX hlw h.1 dL_law_835 ?_
                                            have h := h.2
                                            refine r_cVi1 hX fv_L_91 ly_0 rfl ⟨Nat.le_of_ble_eq_true rfl, Nat.le_of_ble_eq_true rfl⟩ (c_X5_grudges (xs (x3 + 1).toNatClampNeg) h) (Nat.le_of_ble_eq_true rfl) dL_law_836 (fun r73 M74 h => ?_)
                                            refine r_aload_n hX dL_law_839 rfl rfl ?_
                                            refine r_aload_n hX dL_law_840 rfl rfl ?_
                                            refine r_iload_n hX dL_law_841 rfl rfl ?_
                                            refine r_iconst (v := 1) hX dL_law_842 (by decide) ?_
                                            refine r_iadd hX dL_law_843 ?_
                                            refine r_sld hX hlw h.1 dL_law_844 ?_
                                            have h := h.2
                                            refine r_cVi1 hX fv_L_94 ly_34 rfl ⟨Nat.le_of_ble_eq_true rfl, Nat.le_of_ble_eq_true rfl⟩ (c_X6_grudges (xs (x3 + 1).toNatClampNeg) h) (Nat.le_of_ble_eq_true rfl) dL_law_845 (fun r75 M76 h => ?_)
                                            refine r_icmp_eq hX 1277 dL_law_848 (by decide) (fun hc => ?_) (fun hc => ?_)
                                            · have h := h.1 hc
                                              refine r_iinc (v := x3 + 6) (L' := [some (.ref b), some (.ref (adX X 0)), some (.ref (adX X 34)), some (.int (x3 + 6))]) hX dL_law_1277 rfl rfl rfl rfl ?_
                                              refine r_goto hX 18 dL_law_1280 (by decide) ?_
                                              refine r_sub [some (.ref b), some (.ref (adX X 0)), some (.ref (adX X 34)), some (.int (x3 + 6))] (And.intro rfl (And.intro rfl (And.intro rfl (And.intro rfl trivial)))) ?_
                                              exact ih _ _ h
                                            · have h := h.2 hc
                                              refine r_iconst (v := 0) hX dL_law_851 (by decide) ?_
                                              exact r_iret (hret _ _ rfl h) dL_law_852
                                          · by_cases hc19 : (xs x3.toNatClampNeg) &&& 63 = 19
                                            · refine r_tin (v := 19) hX 853 dL_law_33 hc19 rfl rfl (by decide) ?_
                                              have h := h.2.2.2.2.2.2.2.2.2.2.2.2.2.2.2.2.2.2.2.1 hc19
                                              refine r_aload_n hX dL_law_853 rfl rfl ?_
                                              refine r_aload_n hX dL_law_854 rfl rfl ?_
                                              refine r_iload_n hX dL_law_855 rfl rfl ?_
                                              refine r_iconst (v := 1) hX dL_law_856 (by decide) ?_
                                              refine r_iadd hX dL_law_857 ?_
                                              refine r_sld hX hlw h.1 dL_law_858 ?_
                                              have h := h.2
                                              refine r_cVi1 hX fv_L_95 ly_0 rfl ⟨Nat.le_of_ble_eq_true rfl, Nat.le_of_ble_eq_true rfl⟩ (c_X5_ears (xs (x3 + 1).toNatClampNeg) h) (Nat.le_of_ble_eq_true rfl) dL_law_859 (fun r77 M78 h => ?_)
                                              refine r_aload_n hX dL_law_862 rfl rfl ?_
                                              refine r_aload_n hX dL_law_863 rfl rfl ?_
                                              refine r_iload_n hX dL_law_864 rfl rfl ?_
                                              refine r_iconst (v := 1) hX dL_law_865 (by decide) ?_
                                              refine r_iadd hX dL_law_866 ?_
                                              refine r_sld hX hlw h.1 dL_law_867 ?_
                                              have h := h.2
                                              refine r_cVi1 hX fv_L_98 ly_34 rfl ⟨Nat.le_of_ble_eq_true rfl, Nat.le_of_ble_eq_true rfl⟩ (c_X6_ears (xs (x3 + 1).toNatClampNeg) h) (Nat.le_of_ble_eq_true rfl) dL_law_868 (fun r79 M80 h => ?_)
                                              refine r_icmp_eq hX 1277 dL_law_871 (by decide) (fun hc => ?_) (fun hc => ?_)
                                              · have h := h.1 hc
                                                refine r_iinc (v := x3 + 6) (L' := [some (.ref b), some (.ref (adX X 0)), some (.ref (adX X 34)), some (.int (x3 + 6))]) hX dL_law_1277 rfl rfl rfl rfl ?_
                                                refine r_goto hX 18 dL_law_1280 (by decide) ?_
                                                refine r_sub [some (.ref b), some (.ref (adX X 0)), some (.ref (adX X 34)), some (.int (x3 + 6))] (And.intro rfl (And.intro rfl (And.intro rfl (And.intro rfl trivial)))) ?_
                                                exact ih _ _ h
                                              · have h := h.2 hc
                                                refine r_iconst (v := 0) hX dL_law_874 (by decide) ?_
                                                exact r_iret (hret _ _ rfl h) dL_law_875
                                            · by_cases hc20 : (xs x3.toNatClampNeg) &&& 63 = 20
                                              · refine r_tin (v := 20) hX 876 dL_law_33 hc20 rfl rfl (by decide) ?_
                                                have h := h.2.2.2.2.2.2.2.2.2.2.2.2.2.2.2.2.2.2.2.2.1 hc20
                                                refine r_aload_n hX dL_law_876 rfl rfl ?_
                                                refine r_aload_n hX dL_law_877 rfl rfl ?_
                                                refine r_iload_n hX dL_law_878 rfl rfl ?_
                                                refine r_iconst (v := 1) hX dL_law_879 (by decide) ?_
                                                refine r_iadd hX dL_law_880 ?_
                                                refine r_sld hX hlw h.1 dL_law_881 ?_
                                                have h := h.2
                                                refine r_cVi1 hX fv_L_99 ly_0 rfl ⟨Nat.le_of_ble_eq_true rfl, Nat.le_of_ble_eq_true rfl⟩ (c_X5_kinds (xs (x3 + 1).toNatClampNeg) h) (Nat.le_of_ble_eq_true rfl) dL_law_882 (fun r81 M82 h => ?_)
                                                refine r_aload_n hX dL_law_885 rfl rfl ?_
                                                refine r_aload_n hX dL_law_886 rfl rfl ?_
                                                refine r_iload_n hX dL_law_887 rfl rfl ?_
                                                refine r_iconst (v := 1) hX dL_law_888 (by decide) ?_
                                                refine r_iadd hX dL_law_889 ?_
                                                refine r_sld hX hlw h.1 dL_law_890 ?_
                                                have h := h.2
                                                refine r_cVi1 hX fv_L_102 ly_34 rfl ⟨Nat.le_of_ble_eq_true rfl, Nat.le_of_ble_eq_true rfl⟩ (c_X6_kinds (xs (x3 + 1).toNatClampNeg) h) (Nat.le_of_ble_eq_true rfl) dL_law_891 (fun r83 M84 h => ?_)
                                                refine r_icmp_eq hX 1277 dL_law_894 (by decide) (fun hc => ?_) (fun hc => ?_)
                                                · have h := h.1 hc
                                                  refine r_iinc (v := x3 + 6) (L' := [some (.ref b), some (.ref (adX X 0)), some (.ref (adX X 34)), some (.int (x3 + 6))]) hX dL_law_1277 rfl rfl rfl rfl ?_
                                                  refine r_goto hX 18 dL_law_1280 (by decide) ?_
                                                  refine r_sub [some (.ref b), some (.ref (adX X 0)), some (.ref (adX X 34)), some (.int (x3 + 6))] (And.intro rfl (And.intro rfl (And.intro rfl (And.intro rfl trivial)))) ?_
                                                  exact ih _ _ h
                                                · have h := h.2 hc
                                                  refine r_iconst (v := 0) hX dL_law_897 (by decide) ?_
                                                  exact r_iret (hret _ _ rfl h) dL_law_898
                                              · by_cases hc21 : (xs x3.toNatClampNeg) &&& 63 = 21
                                                · refine r_tin (v := 21) hX 899 dL_law_33 hc21 rfl rfl (by decide) ?_
                                                  have h := h.2.2.2.2.2.2.2.2.2.2.2.2.2.2.2.2.2.2.2.2.2.1 hc21
                                                  refine r_aload_n hX dL_law_899 rfl rfl ?_
                                                  refine r_aload_n hX dL_law_900 rfl rfl ?_
                                                  refine r_iload_n hX dL_law_901 rfl rfl ?_
                                                  refine r_iconst (v := 1) hX dL_law_902 (by decide) ?_
                                                  refine r_iadd hX dL_law_903 ?_
                                                  refine r_sld hX hlw h.1 dL_law_904 ?_
                                                  have h := h.2
                                                  refine r_aload_n hX dL_law_905 rfl rfl ?_
                                                  refine r_iload_n hX dL_law_906 rfl rfl ?_
                                                  refine r_iconst (v := 2) hX dL_law_907 (by decide) ?_
                                                  refine r_iadd hX dL_law_908 ?_
                                                  refine r_sld hX hlw h.1 dL_law_909 ?_
                                                  have h := h.2
                                                  refine r_cVl2 hX fv_L_103 ly_0 rfl ⟨Nat.le_of_ble_eq_true rfl, Nat.le_of_ble_eq_true rfl⟩ (c_X5_odds (xs (x3 + 1).toNatClampNeg) (xs (x3 + 2).toNatClampNeg) h) (Nat.le_of_ble_eq_true rfl) dL_law_910 (fun r85 M86 h => ?_)
                                                  refine r_aload_n hX dL_law_913 rfl rfl ?_
                                                  refine r_aload_n hX dL_law_914 rfl rfl ?_
                                                  refine r_iload_n hX dL_law_915 rfl rfl ?_
                                                  refine r_iconst (v := 1) hX dL_law_916 (by decide) ?_
                                                  refine r_iadd hX dL_law_917 ?_
                                                  refine r_sld hX hlw h.1 dL_law_918 ?_
                                                  have h := h.2
                                                  refine r_aload_n hX dL_law_919 rfl rfl ?_
                                                  refine r_iload_n hX dL_law_920 rfl rfl ?_
                                                  refine r_iconst (v := 2) hX dL_law_921 (by decide) ?_
                                                  refine r_iadd hX dL_law_922 ?_
                                                  refine r_sld hX hlw h.1 dL_law_923 ?_
                                                  have h := h.2
                                                  refine r_cVl2 hX fv_L_107 ly_34 rfl ⟨Nat.le_of_ble_eq_true rfl, Nat.le_of_ble_eq_true rfl⟩ (c_X6_odds (xs (x3 + 1).toNatClampNeg) (xs (x3 + 2).toNatClampNeg) h) (Nat.le_of_ble_eq_true rfl) dL_law_924 (fun r87 M88 h => ?_)
                                                  refine r_lcmp hX dL_law_927 ?_
                                                  refine r_if_eq hX 1277 dL_law_928 (by decide) (fun hc => ?_) (fun hc => ?_)
                                                  · have h := h.1 hc
                                                    refine r_iinc (v := x3 + 6) (L' := [some (.ref b), some (.ref (adX X 0)), some (.ref (adX X 34)), some (.int (x3 + 6))]) hX dL_law_1277 rfl rfl rfl rfl ?_
                                                    refine r_goto hX 18 dL_law_1280 (by decide) ?_
                                                    refine r_sub [some (.ref b), some (.ref (adX X 0)), some (.ref (adX X 34)), some (.int (x3 + 6))] (And.intro rfl (And.intro rfl (And.intro rfl (And.intro rfl trivial)))) ?_
                                                    exact ih _ _ h
                                                  · have h := h.2 hc
                                                    refine r_iconst (v := 0) hX dL_law_931 (by decide) ?_
                                                    exact r_iret (hret _ _ rfl h) dL_law_932
                                                · by_cases hc22 : (xs x3.toNatClampNeg) &&& 63 = 22
                                                  · refine r_tin (v := 22) hX 933 dL_law_33 hc22 rfl rfl (by decide) ?_
                                                    have h := h.2.2.2.2.2.2.2.2.2.2.2.2.2.2.2.2.2.2.2.2.2.2.1 hc22
                                                    refine r_aload_n hX dL_law_933 rfl rfl ?_
                                                    refine r_aload_n hX dL_law_934 rfl rfl ?_
                                                    refine r_iload_n hX dL_law_935 rfl rfl ?_
                                                    refine r_iconst (v := 1) hX dL_law_936 (by decide) ?_
                                                    refine r_iadd hX dL_law_937 ?_
                                                    refine r_sld hX hlw h.1 dL_law_938 ?_
                                                    have h := h.2
                                                    refine r_aload_n hX dL_law_939 rfl rfl ?_
                                                    refine r_iload_n hX dL_law_940 rfl rfl ?_
                                                    refine r_iconst (v := 2) hX dL_law_941 (by decide) ?_
                                                    refine r_iadd hX dL_law_942 ?_
                                                    refine r_sld hX hlw h.1 dL_law_943 ?_
                                                    have h := h.2
                                                    refine r_aload_n hX dL_law_944 rfl rfl ?_
                                                    refine r_iload_n hX dL_law_945 rfl rfl ?_
                                                    refine r_iconst (v := 3) hX dL_law_946 (by decide) ?_
                                                    refine r_iadd hX dL_law_947 ?_
                                                    refine r_sld hX hlw h.1 dL_law_948 ?_
                                                    have h := h.2
                                                    refine r_cVi3 hX fv_L_108 ly_0 rfl ⟨Nat.le_of_ble_eq_true rfl, Nat.le_of_ble_eq_true rfl⟩ (c_X5_sheet (xs (x3 + 1).toNatClampNeg) (xs (x3 + 2).toNatClampNeg) (xs (x3 + 3).toNatClampNeg) h) (Nat.le_of_ble_eq_true rfl) dL_law_949 (fun r89 M90 h => ?_)
                                                    refine r_aload_n hX dL_law_952 rfl rfl ?_
                                                    refine r_aload_n hX dL_law_953 rfl rfl ?_
                                                    refine r_iload_n hX dL_law_954 rfl rfl ?_
                                                    refine r_iconst (v := 1) hX dL_law_955 (by decide) ?_
                                                    refine r_iadd hX dL_law_956 ?_
                                                    refine r_sld hX hlw h.1 dL_law_957 ?_
                                                    have h := h.2
                                                    refine r_aload_n hX dL_law_958 rfl rfl ?_
                                                    refine r_iload_n hX dL_law_959 rfl rfl ?_
                                                    refine r_iconst (v := 2) hX dL_law_960 (by decide) ?_
                                                    refine r_iadd hX dL_law_961 ?_
                                                    refine r_sld hX hlw h.1 dL_law_962 ?_
                                                    have h := h.2
                                                    refine r_aload_n hX dL_law_963 rfl rfl ?_
                                                    refine r_iload_n hX dL_law_964 rfl rfl ?_
                                                    refine r_iconst (v := 3) hX dL_law_965 (by decide) ?_
                                                    refine r_iadd hX dL_law_966 ?_
                                                    refine r_sld hX hlw h.1 dL_law_967 ?_
                                                    have h := h.2
                                                    refine r_cVi3 hX fv_L_111 ly_34 rfl ⟨Nat.le_of_ble_eq_true rfl, Nat.le_of_ble_eq_true rfl⟩ (c_X6_sheet (xs (x3 + 1).toNatClampNeg) (xs (x3 + 2).toNatClampNeg) (xs (x3 + 3).toNatClampNeg) h) (Nat.le_of_ble_eq_true rfl) dL_law_968 (fun r91 M92 h => ?_)
                                                    refine r_icmp_eq hX 1277 dL_law_971 (by decide) (fun hc => ?_) (fun hc => ?_)
                                                    · have h := h.1 hc
                                                      refine r_iinc (v := x3 + 6) (L' := [some (.ref b), some (.ref (adX X 0)), some (.ref (adX X 34)), some (.int (x3 + 6))]) hX dL_law_1277 rfl rfl rfl rfl ?_
                                                      refine r_goto hX 18 dL_law_1280 (by decide) ?_
                                                      refine r_sub [some (.ref b), some (.ref (adX X 0)), some (.ref (adX X 34)), some (.int (x3 + 6))] (And.intro rfl (And.intro rfl (And.intro rfl (And.intro rfl trivial)))) ?_
                                                      exact ih _ _ h
                                                    · have h := h.2 hc
                                                      refine r_iconst (v := 0) hX dL_law_974 (by decide) ?_
                                                      exact r_iret (hret _ _ rfl h) dL_law_975
                                                  · by_cases hc23 : (xs x3.toNatClampNeg) &&& 63 = 23
                                                    · refine r_tin (v := 23) hX 976 dL_law_33 hc23 rfl rfl (by decide) ?_
                                                      have h := h.2.2.2.2.2.2.2.2.2.2.2.2.2.2.2.2.2.2.2.2.2.2.2.1 hc23
                                                      refine r_aload_n hX dL_law_976 rfl rfl ?_
                                                      refine r_aload_n hX dL_law_977 rfl rfl ?_
                                                      refine r_iload_n hX dL_law_978 rfl rfl ?_
                                                      refine r_iconst (v := 1) hX dL_law_979 (by decide) ?_
                                                      refine r_iadd hX dL_law_980 ?_
                                                      refine r_sld hX hlw h.1 dL_law_981 ?_
                                                      have h := h.2
                                                      refine r_cVi1 hX fv_L_112 ly_0 rfl ⟨Nat.le_of_ble_eq_true rfl, Nat.le_of_ble_eq_true rfl⟩ (c_X5_lose (xs (x3 + 1).toNatClampNeg) h) (Nat.le_of_ble_eq_true rfl) dL_law_982 (fun r93 M94 h => ?_)
                                                      refine r_aload_n hX dL_law_985 rfl rfl ?_
                                                      refine r_aload_n hX dL_law_986 rfl rfl ?_
                                                      refine r_iload_n hX dL_law_987 rfl rfl ?_
                                                      refine r_iconst (v := 1) hX dL_law_988 (by decide) ?_
                                                      refine r_iadd hX dL_law_989 ?_
                                                      refine r_sld hX hlw h.1 dL_law_990 ?_
                                                      have h := h.2
                                                      refine r_cVi1 hX fv_L_115 ly_34 rfl ⟨Nat.le_of_ble_eq_true rfl, Nat.le_of_ble_eq_true rfl⟩ (c_X6_lose (xs (x3 + 1).toNatClampNeg) h) (Nat.le_of_ble_eq_true rfl) dL_law_991 (fun r95 M96 h => ?_)
                                                      refine r_icmp_eq hX 1277 dL_law_994 (by decide) (fun hc => ?_) (fun hc => ?_)
                                                      · have h := h.1 hc
                                                        refine r_iinc (v := x3 + 6) (L' := [some (.ref b), some (.ref (adX X 0)), some (.ref (adX X 34)), some (.int (x3 + 6))]) hX dL_law_1277 rfl rfl rfl rfl ?_
                                                        refine r_goto hX 18 dL_law_1280 (by decide) ?_
                                                        refine r_sub [some (.ref b), some (.ref (adX X 0)), some (.ref (adX X 34)), some (.int (x3 + 6))] (And.intro rfl (And.intro rfl (And.intro rfl (And.intro rfl trivial)))) ?_
                                                        exact ih _ _ h
                                                      · have h := h.2 hc
                                                        refine r_iconst (v := 0) hX dL_law_997 (by decide) ?_
                                                        exact r_iret (hret _ _ rfl h) dL_law_998
                                                    · by_cases hc24 : (xs x3.toNatClampNeg) &&& 63 = 24
                                                      · refine r_tin (v := 24) hX 999 dL_law_33 hc24 rfl rfl (by decide) ?_
                                                        have h := h.2.2.2.2.2.2.2.2.2.2.2.2.2.2.2.2.2.2.2.2.2.2.2.2.1 hc24
                                                        refine r_aload_n hX dL_law_999 rfl rfl ?_
                                                        refine r_aload_n hX dL_law_1000 rfl rfl ?_
                                                        refine r_iload_n hX dL_law_1001 rfl rfl ?_
                                                        refine r_iconst (v := 1) hX dL_law_1002 (by decide) ?_
                                                        refine r_iadd hX dL_law_1003 ?_
                                                        refine r_sld hX hlw h.1 dL_law_1004 ?_
                                                        have h := h.2
                                                        refine r_aload_n hX dL_law_1005 rfl rfl ?_
                                                        refine r_iload_n hX dL_law_1006 rfl rfl ?_
                                                        refine r_iconst (v := 2) hX dL_law_1007 (by decide) ?_
                                                        refine r_iadd hX dL_law_1008 ?_
                                                        refine r_sld hX hlw h.1 dL_law_1009 ?_
                                                        have h := h.2
                                                        refine r_aload_n hX dL_law_1010 rfl rfl ?_
                                                        refine r_iload_n hX dL_law_1011 rfl rfl ?_
                                                        refine r_iconst (v := 3) hX dL_law_1012 (by decide) ?_
                                                        refine r_iadd hX dL_law_1013 ?_
                                                        refine r_sld hX hlw h.1 dL_law_1014 ?_
                                                        have h := h.2
                                                        refine r_cVi3 hX fv_L_116 ly_0 rfl ⟨Nat.le_of_ble_eq_true rfl, Nat.le_of_ble_eq_true rfl⟩ (c_X5_put (xs (x3 + 1).toNatClampNeg) (xs (x3 + 2).toNatClampNeg) (xs (x3 + 3).toNatClampNeg) h) (Nat.le_of_ble_eq_true rfl) dL_law_1015 (fun r97 M98 h => ?_)
                                                        refine r_aload_n hX dL_law_1018 rfl rfl ?_
                                                        refine r_aload_n hX dL_law_1019 rfl rfl ?_
                                                        refine r_iload_n hX dL_law_1020 rfl rfl ?_
                                                        refine r_iconst (v := 1) hX dL_law_1021 (by decide) ?_
                                                        refine r_iadd hX dL_law_1022 ?_
                                                        refine r_sld hX hlw h.1 dL_law_1023 ?_
                                                        have h := h.2
                                                        refine r_aload_n hX dL_law_1024 rfl rfl ?_
                                                        refine r_iload_n hX dL_law_1025 rfl rfl ?_
                                                        refine r_iconst (v := 2) hX dL_law_1026 (by decide) ?_
                                                        refine r_iadd hX dL_law_1027 ?_
                                                        refine r_sld hX hlw h.1 dL_law_1028 ?_
                                                        have h := h.2
                                                        refine r_aload_n hX dL_law_1029 rfl rfl ?_
                                                        refine r_iload_n hX dL_law_1030 rfl rfl ?_
                                                        refine r_iconst (v := 3) hX dL_law_1031 (by decide) ?_
                                                        refine r_iadd hX dL_law_1032 ?_
                                                        refine r_sld hX hlw h.1 dL_law_1033 ?_
                                                        have h := h.2
                                                        refine r_cVi3 hX fv_L_119 ly_34 rfl ⟨Nat.le_of_ble_eq_true rfl, Nat.le_of_ble_eq_true rfl⟩ (c_X6_put (xs (x3 + 1).toNatClampNeg) (xs (x3 + 2).toNatClampNeg) (xs (x3 + 3).toNatClampNeg) h) (Nat.le_of_ble_eq_true rfl) dL_law_1034 (fun r99 M100 h => ?_)
                                                        refine r_icmp_eq hX 1277 dL_law_1037 (by decide) (fun hc => ?_) (fun hc => ?_)
                                                        · have h := h.1 hc
                                                          refine r_iinc (v := x3 + 6) (L' := [some (.ref b), some (.ref (adX X 0)), some (.ref (adX X 34)), some (.int (x3 + 6))]) hX dL_law_1277 rfl rfl rfl rfl ?_
                                                          refine r_goto hX 18 dL_law_1280 (by decide) ?_
                                                          refine r_sub [some (.ref b), some (.ref (adX X 0)), some (.ref (adX X 34)), some (.int (x3 + 6))] (And.intro rfl (And.intro rfl (And.intro rfl (And.intro rfl trivial)))) ?_
                                                          exact ih _ _ h
                                                        · have h := h.2 hc
                                                          refine r_iconst (v := 0) hX dL_law_1040 (by decide) ?_
                                                          exact r_iret (hret _ _ rfl h) dL_law_1041
                                                      · by_cases hc25 : (xs x3.toNatClampNeg) &&& 63 = 25
                                                        · refine r_tin (v := 25) hX 1042 dL_law_33 hc25 rfl rfl (by decide) ?_
                                                          have h := h.2.2.2.2.2.2.2.2.2.2.2.2.2.2.2.2.2.2.2.2.2.2.2.2.2.1 hc25
                                                          refine r_aload_n hX dL_law_1042 rfl rfl ?_
                                                          refine r_aload_n hX dL_law_1043 rfl rfl ?_
                                                          refine r_iload_n hX dL_law_1044 rfl rfl ?_
                                                          refine r_iconst (v := 1) hX dL_law_1045 (by decide) ?_
                                                          refine r_iadd hX dL_law_1046 ?_
                                                          refine r_sld hX hlw h.1 dL_law_1047 ?_
                                                          have h := h.2
                                                          refine r_aload_n hX dL_law_1048 rfl rfl ?_
                                                          refine r_iload_n hX dL_law_1049 rfl rfl ?_
                                                          refine r_iconst (v := 2) hX dL_law_1050 (by decide) ?_
                                                          refine r_iadd hX dL_law_1051 ?_
                                                          refine r_sld hX hlw h.1 dL_law_1052 ?_
                                                          have h := h.2
                                                          refine r_aload_n hX dL_law_1053 rfl rfl ?_
                                                          refine r_iload_n hX dL_law_1054 rfl rfl ?_
                                                          refine r_iconst (v := 3) hX dL_law_1055 (by decide) ?_
                                                          refine r_iadd hX dL_law_1056 ?_
                                                          refine r_sld hX hlw h.1 dL_law_1057 ?_
                                                          have h := h.2
                                                          refine r_cVl3 hX fv_L_120 ly_0 rfl ⟨Nat.le_of_ble_eq_true rfl, Nat.le_of_ble_eq_true rfl⟩ (c_X5_cell (xs (x3 + 1).toNatClampNeg) (xs (x3 + 2).toNatClampNeg) (xs (x3 + 3).toNatClampNeg) h) (Nat.le_of_ble_eq_true rfl) dL_law_1058 (fun r101 M102 h => ?_)
                                                          refine r_aload_n hX dL_law_1061 rfl rfl ?_
                                                          refine r_aload_n hX dL_law_1062 rfl rfl ?_
                                                          refine r_iload_n hX dL_law_1063 rfl rfl ?_
                                                          refine r_iconst (v := 1) hX dL_law_1064 (by decide) ?_
                                                          refine r_iadd hX dL_law_1065 ?_
                                                          refine r_sld hX hlw h.1 dL_law_1066 ?_
                                                          have h := h.2
                                                          refine r_aload_n hX dL_law_1067 rfl rfl ?_
                                                          refine r_iload_n hX dL_law_1068 rfl rfl ?_
                                                          refine r_iconst (v := 2) hX dL_law_1069 (by decide) ?_
                                                          refine r_iadd hX dL_law_1070 ?_
                                                          refine r_sld hX hlw h.1 dL_law_1071 ?_
                                                          have h := h.2
                                                          refine r_aload_n hX dL_law_1072 rfl rfl ?_
                                                          refine r_iload_n hX dL_law_1073 rfl rfl ?_
                                                          refine r_iconst (v := 3) hX dL_law_1074 (by decide) ?_
                                                          refine r_iadd hX dL_law_1075 ?_
                                                          refine r_sld hX hlw h.1 dL_law_1076 ?_
                                                          have h := h.2
                                                          refine r_cVl3 hX fv_L_124 ly_34 rfl ⟨Nat.le_of_ble_eq_true rfl, Nat.le_of_ble_eq_true rfl⟩ (c_X6_cell (xs (x3 + 1).toNatClampNeg) (xs (x3 + 2).toNatClampNeg) (xs (x3 + 3).toNatClampNeg) h) (Nat.le_of_ble_eq_true rfl) dL_law_1077 (fun r103 M104 h => ?_)
                                                          refine r_lcmp hX dL_law_1080 ?_
                                                          refine r_if_eq hX 1277 dL_law_1081 (by decide) (fun hc => ?_) (fun hc => ?_)
                                                          · have h := h.1 hc
                                                            refine r_iinc (v := x3 + 6) (L' := [some (.ref b), some (.ref (adX X 0)), some (.ref (adX X 34)), some (.int (x3 + 6))]) hX dL_law_1277 rfl rfl rfl rfl ?_
                                                            refine r_goto hX 18 dL_law_1280 (by decide) ?_
                                                            refine r_sub [some (.ref b), some (.ref (adX X 0)), some (.ref (adX X 34)), some (.int (x3 + 6))] (And.intro rfl (And.intro rfl (And.intro rfl (And.intro rfl trivial)))) ?_
                                                            exact ih _ _ h
                                                          · have h := h.2 hc
                                                            refine r_iconst (v := 0) hX dL_law_1084 (by decide) ?_
                                                            exact r_iret (hret _ _ rfl h) dL_law_1085
                                                        · by_cases hc26 : (xs x3.toNatClampNeg) &&& 63 = 26
                                                          · refine r_tin (v := 26) hX 1086 dL_law_33 hc26 rfl rfl (by decide) ?_
                                                            have h := h.2.2.2.2.2.2.2.2.2.2.2.2.2.2.2.2.2.2.2.2.2.2.2.2.2.2.1 hc26
                                                            refine r_aload_n hX dL_law_1086 rfl rfl ?_
                                                            refine r_aload_n hX dL_law_1087 rfl rfl ?_
                                                            refine r_iload_n hX dL_law_1088 rfl rfl ?_
                                                            refine r_iconst (v := 1) hX dL_law_1089 (by decide) ?_
                                                            refine r_iadd hX dL_law_1090 ?_
                                                            refine r_sld hX hlw h.1 dL_law_1091 ?_
                                                            have h := h.2
                                                            refine r_aload_n hX dL_law_1092 rfl rfl ?_
                                                            refine r_iload_n hX dL_law_1093 rfl rfl ?_
                                                            refine r_iconst (v := 2) hX dL_law_1094 (by decide) ?_
                                                            refine r_iadd hX dL_law_1095 ?_
                                                            refine r_sld hX hlw h.1 dL_law_1096 ?_
                                                            have h := h.2
                                                            refine r_aload_n hX dL_law_1097 rfl rfl ?_
                                                            refine r_iload_n hX dL_law_1098 rfl rfl ?_
                                                            refine r_iconst (v := 3) hX dL_law_1099 (by decide) ?_
                                                            refine r_iadd hX dL_law_1100 ?_
                                                            refine r_sld hX hlw h.1 dL_law_1101 ?_
                                                            have h := h.2
                                                            refine r_aload_n hX dL_law_1102 rfl rfl ?_
                                                            refine r_iload_n hX dL_law_1103 rfl rfl ?_
                                                            refine r_iconst (v := 4) hX dL_law_1104 (by decide) ?_
                                                            refine r_iadd hX dL_law_1105 ?_
                                                            refine r_sld hX hlw h.1 dL_law_1106 ?_
                                                            have h := h.2
                                                            refine r_aload_n hX dL_law_1107 rfl rfl ?_
                                                            refine r_iload_n hX dL_law_1108 rfl rfl ?_
                                                            refine r_iconst (v := 5) hX dL_law_1109 (by decide) ?_
                                                            refine r_iadd hX dL_law_1110 ?_
                                                            refine r_sld hX hlw h.1 dL_law_1111 ?_
                                                            have h := h.2
                                                            refine r_cVi5 hX fv_L_125 ly_0 rfl ⟨Nat.le_of_ble_eq_true rfl, Nat.le_of_ble_eq_true rfl⟩ (c_X5_copy (xs (x3 + 1).toNatClampNeg) (xs (x3 + 2).toNatClampNeg) (xs (x3 + 3).toNatClampNeg) (xs (x3 + 4).toNatClampNeg) (xs (x3 + 5).toNatClampNeg) h) (Nat.le_of_ble_eq_true rfl) dL_law_1112 (fun r105 M106 h => ?_)
                                                            refine r_aload_n hX dL_law_1115 rfl rfl ?_
                                                            refine r_aload_n hX dL_law_1116 rfl rfl ?_
                                                            refine r_iload_n hX dL_law_1117 rfl rfl ?_
                                                            refine r_iconst (v := 1) hX dL_law_1118 (by decide) ?_
                                                            refine r_iadd hX dL_law_1119 ?_
                                                            refine r_sld hX hlw h.1 dL_law_1120 ?_
                                                            have h := h.2
                                                            refine r_aload_n hX dL_law_1121 rfl rfl ?_
                                                            refine r_iload_n hX dL_law_1122 rfl rfl ?_
                                                            refine r_iconst (v := 2) hX dL_law_1123 (by decide) ?_
                                                            refine r_iadd hX dL_law_1124 ?_
                                                            refine r_sld hX hlw h.1 dL_law_1125 ?_
                                                            have h := h.2
                                                            refine r_aload_n hX dL_law_1126 rfl rfl ?_
                                                            refine r_iload_n hX dL_law_1127 rfl rfl ?_
                                                            refine r_iconst (v := 3) hX dL_law_1128 (by decide) ?_
                                                            refine r_iadd hX dL_law_1129 ?_
                                                            refine r_sld hX hlw h.1 dL_law_1130 ?_
                                                            have h := h.2
                                                            refine r_aload_n hX dL_law_1131 rfl rfl ?_
                                                            refine r_iload_n hX dL_law_1132 rfl rfl ?_
                                                            refine r_iconst (v := 4) hX dL_law_1133 (by decide) ?_
                                                            refine r_iadd hX dL_law_1134 ?_
                                                            refine r_sld hX hlw h.1 dL_law_1135 ?_
                                                            have h := h.2
                                                            refine r_aload_n hX dL_law_1136 rfl rfl ?_
                                                            refine r_iload_n hX dL_law_1137 rfl rfl ?_
                                                            refine r_iconst (v := 5) hX dL_law_1138 (by decide) ?_
                                                            refine r_iadd hX dL_law_1139 ?_
                                                            refine r_sld hX hlw h.1 dL_law_1140 ?_
                                                            have h := h.2
                                                            refine r_cVi5 hX fv_L_128 ly_34 rfl ⟨Nat.le_of_ble_eq_true rfl, Nat.le_of_ble_eq_true rfl⟩ (c_X6_copy (xs (x3 + 1).toNatClampNeg) (xs (x3 + 2).toNatClampNeg) (xs (x3 + 3).toNatClampNeg) (xs (x3 + 4).toNatClampNeg) (xs (x3 + 5).toNatClampNeg) h) (Nat.le_of_ble_eq_true rfl) dL_law_1141 (fun r107 M108 h => ?_)
                                                            refine r_icmp_eq hX 1277 dL_law_1144 (by decide) (fun hc => ?_) (fun hc => ?_)
                                                            · have h := h.1 hc
                                                              refine r_iinc (v := x3 + 6) (L' := [some (.ref b), some (.ref (adX X 0)), some (.ref (adX X 34)), some (.int (x3 + 6))]) hX dL_law_1277 rfl rfl rfl rfl ?_
                                                              refine r_goto hX 18 dL_law_1280 (by decide) ?_
                                                              refine r_sub [some (.ref b), some (.ref (adX X 0)), some (.ref (adX X 34)), some (.int (x3 + 6))] (And.intro rfl (And.intro rfl (And.intro rfl (And.intro rfl trivial)))) ?_
                                                              exact ih _ _ h
                                                            · have h := h.2 hc
                                                              refine r_iconst (v := 0) hX dL_law_1147 (by decide) ?_
                                                              exact r_iret (hret _ _ rfl h) dL_law_1148
                                                          · by_cases hc27 : (xs x3.toNatClampNeg) &&& 63 = 27
                                                            · refine r_tin (v := 27) hX 1149 dL_law_33 hc27 rfl rfl (by decide) ?_
                                                              have h := h.2.2.2.2.2.2.2.2.2.2.2.2.2.2.2.2.2.2.2.2.2.2.2.2.2.2.2.1 hc27
                                                              refine r_aload_n hX dL_law_1149 rfl rfl ?_
                                                              refine r_aload_n hX dL_law_1150 rfl rfl ?_
                                                              refine r_iload_n hX dL_law_1151 rfl rfl ?_
                                                              refine r_iconst (v := 1) hX dL_law_1152 (by decide) ?_
                                                              refine r_iadd hX dL_law_1153 ?_
                                                              refine r_sld hX hlw h.1 dL_law_1154 ?_
                                                              have h := h.2
                                                              refine r_cVi1 hX fv_L_129 ly_0 rfl ⟨Nat.le_of_ble_eq_true rfl, Nat.le_of_ble_eq_true rfl⟩ (c_X5_tell (xs (x3 + 1).toNatClampNeg) h) (Nat.le_of_ble_eq_true rfl) dL_law_1155 (fun r109 M110 h => ?_)
                                                              refine r_aload_n hX dL_law_1158 rfl rfl ?_
                                                              refine r_aload_n hX dL_law_1159 rfl rfl ?_
                                                              refine r_iload_n hX dL_law_1160 rfl rfl ?_
                                                              refine r_iconst (v := 1) hX dL_law_1161 (by decide) ?_
                                                              refine r_iadd hX dL_law_1162 ?_
                                                              refine r_sld hX hlw h.1 dL_law_1163 ?_
                                                              have h := h.2
                                                              refine r_cVi1 hX fv_L_132 ly_34 rfl ⟨Nat.le_of_ble_eq_true rfl, Nat.le_of_ble_eq_true rfl⟩ (c_X6_tell (xs (x3 + 1).toNatClampNeg) h) (Nat.le_of_ble_eq_true rfl) dL_law_1164 (fun r111 M112 h => ?_)
                                                              refine r_icmp_eq hX 1277 dL_law_1167 (by decide) (fun hc => ?_) (fun hc => ?_)
                                                              · have h := h.1 hc
                                                                refine r_iinc (v := x3 + 6) (L' := [some (.ref b), some (.ref (adX X 0)), some (.ref (adX X 34)), some (.int (x3 + 6))]) hX dL_law_1277 rfl rfl rfl rfl ?_
                                                                refine r_goto hX 18 dL_law_1280 (by decide) ?_
                                                                refine r_sub [some (.ref b), some (.ref (adX X 0)), some (.ref (adX X 34)), some (.int (x3 + 6))] (And.intro rfl (And.intro rfl (And.intro rfl (And.intro rfl trivial)))) ?_
                                                                exact ih _ _ h
                                                              · have h := h.2 hc
                                                                refine r_iconst (v := 0) hX dL_law_1170 (by decide) ?_
                                                                exact r_iret (hret _ _ rfl h) dL_law_1171
                                                            · by_cases hc28 : (xs x3.toNatClampNeg) &&& 63 = 28
                                                              · refine r_tin (v := 28) hX 1172 dL_law_33 hc28 rfl rfl (by decide) ?_
                                                                have h := h.2.2.2.2.2.2.2.2.2.2.2.2.2.2.2.2.2.2.2.2.2.2.2.2.2.2.2.2.1 hc28
                                                                refine r_aload_n hX dL_law_1172 rfl rfl ?_
                                                                refine r_aload_n hX dL_law_1173 rfl rfl ?_
                                                                refine r_iload_n hX dL_law_1174 rfl rfl ?_
                                                                refine r_iconst (v := 1) hX dL_law_1175 (by decide) ?_
                                                                refine r_iadd hX dL_law_1176 ?_
                                                                refine r_sld hX hlw h.1 dL_law_1177 ?_
                                                                have h := h.2
                                                                refine r_cVi1 hX fv_L_133 ly_0 rfl ⟨Nat.le_of_ble_eq_true rfl, Nat.le_of_ble_eq_true rfl⟩ (c_X5_creak (xs (x3 + 1).toNatClampNeg) h) (Nat.le_of_ble_eq_true rfl) dL_law_1178 (fun r113 M114 h => ?_)
                                                                refine r_aload_n hX dL_law_1181 rfl rfl ?_
                                                                refine r_aload_n hX dL_law_1182 rfl rfl ?_
                                                                refine r_iload_n hX dL_law_1183 rfl rfl ?_
                                                                refine r_iconst (v := 1) hX dL_law_1184 (by decide) ?_
                                                                refine r_iadd hX dL_law_1185 ?_
                                                                refine r_sld hX hlw h.1 dL_law_1186 ?_
                                                                have h := h.2
                                                                refine r_cVi1 hX fv_L_136 ly_34 rfl ⟨Nat.le_of_ble_eq_true rfl, Nat.le_of_ble_eq_true rfl⟩ (c_X6_creak (xs (x3 + 1).toNatClampNeg) h) (Nat.le_of_ble_eq_true rfl) dL_law_1187 (fun r115 M116 h => ?_)
                                                                refine r_icmp_eq hX 1277 dL_law_1190 (by decide) (fun hc => ?_) (fun hc => ?_)
                                                                · have h := h.1 hc
                                                                  refine r_iinc (v := x3 + 6) (L' := [some (.ref b), some (.ref (adX X 0)), some (.ref (adX X 34)), some (.int (x3 + 6))]) hX dL_law_1277 rfl rfl rfl rfl ?_
                                                                  refine r_goto hX 18 dL_law_1280 (by decide) ?_
                                                                  refine r_sub [some (.ref b), some (.ref (adX X 0)), some (.ref (adX X 34)), some (.int (x3 + 6))] (And.intro rfl (And.intro rfl (And.intro rfl (And.intro rfl trivial)))) ?_
                                                                  exact ih _ _ h
                                                                · have h := h.2 hc
                                                                  refine r_iconst (v := 0) hX dL_law_1193 (by decide) ?_
                                                                  exact r_iret (hret _ _ rfl h) dL_law_1194
                                                              · by_cases hc29 : (xs x3.toNatClampNeg) &&& 63 = 29
                                                                · refine r_tin (v := 29) hX 1195 dL_law_33 hc29 rfl rfl (by decide) ?_
                                                                  have h := h.2.2.2.2.2.2.2.2.2.2.2.2.2.2.2.2.2.2.2.2.2.2.2.2.2.2.2.2.2.1 hc29
                                                                  refine r_aload_n hX dL_law_1195 rfl rfl ?_
                                                                  refine r_aload_n hX dL_law_1196 rfl rfl ?_
                                                                  refine r_iload_n hX dL_law_1197 rfl rfl ?_
                                                                  refine r_iconst (v := 1) hX dL_law_1198 (by decide) ?_
                                                                  refine r_iadd hX dL_law_1199 ?_
                                                                  refine r_sld hX hlw h.1 dL_law_1200 ?_
                                                                  have h := h.2
                                                                  refine r_aload_n hX dL_law_1201 rfl rfl ?_
                                                                  refine r_iload_n hX dL_law_1202 rfl rfl ?_
                                                                  refine r_iconst (v := 2) hX dL_law_1203 (by decide) ?_
                                                                  refine r_iadd hX dL_law_1204 ?_
                                                                  refine r_sld hX hlw h.1 dL_law_1205 ?_
                                                                  have h := h.2
                                                                  refine r_cVi2 hX fv_L_137 ly_0 rfl ⟨Nat.le_of_ble_eq_true rfl, Nat.le_of_ble_eq_true rfl⟩ (c_X5_as (xs (x3 + 1).toNatClampNeg) (xs (x3 + 2).toNatClampNeg) h) (Nat.le_of_ble_eq_true rfl) dL_law_1206 (fun r117 M118 h => ?_)
                                                                  refine r_aload_n hX dL_law_1209 rfl rfl ?_
                                                                  refine r_aload_n hX dL_law_1210 rfl rfl ?_
                                                                  refine r_iload_n hX dL_law_1211 rfl rfl ?_
                                                                  refine r_iconst (v := 1) hX dL_law_1212 (by decide) ?_
                                                                  refine r_iadd hX dL_law_1213 ?_
                                                                  refine r_sld hX hlw h.1 dL_law_1214 ?_
                                                                  have h := h.2
                                                                  refine r_aload_n hX dL_law_1215 rfl rfl ?_
                                                                  refine r_iload_n hX dL_law_1216 rfl rfl ?_
                                                                  refine r_iconst (v := 2) hX dL_law_1217 (by decide) ?_
                                                                  refine r_iadd hX dL_law_1218 ?_
                                                                  refine r_sld hX hlw h.1 dL_law_1219 ?_
                                                                  have h := h.2
                                                                  refine r_cVi2 hX fv_L_140 ly_34 rfl ⟨Nat.le_of_ble_eq_true rfl, Nat.le_of_ble_eq_true rfl⟩ (c_X6_as (xs (x3 + 1).toNatClampNeg) (xs (x3 + 2).toNatClampNeg) h) (Nat.le_of_ble_eq_true rfl) dL_law_1220 (fun r119 M120 h => ?_)
                                                                  refine r_icmp_eq hX 1277 dL_law_1223 (by decide) (fun hc => ?_) (fun hc => ?_)
                                                                  · have h := h.1 hc
                                                                    refine r_iinc (v := x3 + 6) (L' := [some (.ref b), some (.ref (adX X 0)), some (.ref (adX X 34)), some (.int (x3 + 6))]) hX dL_law_1277 rfl rfl rfl rfl ?_
                                                                    refine r_goto hX 18 dL_law_1280 (by decide) ?_
                                                                    refine r_sub [some (.ref b), some (.ref (adX X 0)), some (.ref (adX X 34)), some (.int (x3 + 6))] (And.intro rfl (And.intro rfl (And.intro rfl (And.intro rfl trivial)))) ?_
                                                                    exact ih _ _ h
                                                                  · have h := h.2 hc
                                                                    refine r_iconst (v := 0) hX dL_law_1226 (by decide) ?_
                                                                    exact r_iret (hret _ _ rfl h) dL_law_1227
                                                                · by_cases hc30 : (xs x3.toNatClampNeg) &&& 63 = 30
                                                                  · refine r_tin (v := 30) hX 1228 dL_law_33 hc30 rfl rfl (by decide) ?_
                                                                    have h := h.2.2.2.2.2.2.2.2.2.2.2.2.2.2.2.2.2.2.2.2.2.2.2.2.2.2.2.2.2.2.1 hc30
                                                                    refine r_aload_n hX dL_law_1228 rfl rfl ?_
                                                                    refine r_cVi0 hX fv_L_141 ly_0 rfl ⟨Nat.le_of_ble_eq_true rfl, Nat.le_of_ble_eq_true rfl⟩ (c_X5_trace h) (Nat.le_of_ble_eq_true rfl) dL_law_1229 (fun r121 M122 h => ?_)
                                                                    refine r_aload_n hX dL_law_1232 rfl rfl ?_
                                                                    refine r_cVi0 hX fv_L_145 ly_34 rfl ⟨Nat.le_of_ble_eq_true rfl, Nat.le_of_ble_eq_true rfl⟩ (c_X6_trace h) (Nat.le_of_ble_eq_true rfl) dL_law_1233 (fun r123 M124 h => ?_)
                                                                    refine r_icmp_eq hX 1277 dL_law_1236 (by decide) (fun hc => ?_) (fun hc => ?_)
                                                                    · have h := h.1 hc
                                                                      refine r_iinc (v := x3 + 6) (L' := [some (.ref b), some (.ref (adX X 0)), some (.ref (adX X 34)), some (.int (x3 + 6))]) hX dL_law_1277 rfl rfl rfl rfl ?_
                                                                      refine r_goto hX 18 dL_law_1280 (by decide) ?_
                                                                      refine r_sub [some (.ref b), some (.ref (adX X 0)), some (.ref (adX X 34)), some (.int (x3 + 6))] (And.intro rfl (And.intro rfl (And.intro rfl (And.intro rfl trivial)))) ?_
                                                                      exact ih _ _ h
                                                                    · have h := h.2 hc
                                                                      refine r_iconst (v := 0) hX dL_law_1239 (by decide) ?_
                                                                      exact r_iret (hret _ _ rfl h) dL_law_1240
                                                                  · by_cases hc31 : (xs x3.toNatClampNeg) &&& 63 = 31
                                                                    · refine r_tin (v := 31) hX 1241 dL_law_33 hc31 rfl rfl (by decide) ?_
                                                                      have h := h.2.2.2.2.2.2.2.2.2.2.2.2.2.2.2.2.2.2.2.2.2.2.2.2.2.2.2.2.2.2.2.1 hc31
                                                                      refine r_aload_n hX dL_law_1241 rfl rfl ?_
                                                                      refine r_cVi0 hX fv_L_146 ly_0 rfl ⟨Nat.le_of_ble_eq_true rfl, Nat.le_of_ble_eq_true rfl⟩ (c_X5_fault h) (Nat.le_of_ble_eq_true rfl) dL_law_1242 (fun r125 M126 h => ?_)
                                                                      refine r_aload_n hX dL_law_1245 rfl rfl ?_
                                                                      refine r_cVi0 hX fv_L_149 ly_34 rfl ⟨Nat.le_of_ble_eq_true rfl, Nat.le_of_ble_eq_true rfl⟩ (c_X6_fault h) (Nat.le_of_ble_eq_true rfl) dL_law_1246 (fun r127 M128 h => ?_)
                                                                      refine r_icmp_eq hX 1277 dL_law_1249 (by decide) (fun hc => ?_) (fun hc => ?_)
                                                                      · have h := h.1 hc
                                                                        refine r_iinc (v := x3 + 6) (L' := [some (.ref b), some (.ref (adX X 0)), some (.ref (adX X 34)), some (.int (x3 + 6))]) hX dL_law_1277 rfl rfl rfl rfl ?_
                                                                        refine r_goto hX 18 dL_law_1280 (by decide) ?_
                                                                        refine r_sub [some (.ref b), some (.ref (adX X 0)), some (.ref (adX X 34)), some (.int (x3 + 6))] (And.intro rfl (And.intro rfl (And.intro rfl (And.intro rfl trivial)))) ?_
                                                                        exact ih _ _ h
                                                                      · have h := h.2 hc
                                                                        refine r_iconst (v := 0) hX dL_law_1252 (by decide) ?_
                                                                        exact r_iret (hret _ _ rfl h) dL_law_1253
                                                                    · by_cases hc32 : (xs x3.toNatClampNeg) &&& 63 = 32
                                                                      · refine r_tin (v := 32) hX 1254 dL_law_33 hc32 rfl rfl (by decide) ?_
                                                                        have h := h.2.2.2.2.2.2.2.2.2.2.2.2.2.2.2.2.2.2.2.2.2.2.2.2.2.2.2.2.2.2.2.2.1 hc32
                                                                        refine r_aload_n hX dL_law_1254 rfl rfl ?_
                                                                        refine r_aload_n hX dL_law_1255 rfl rfl ?_
                                                                        refine r_iload_n hX dL_law_1256 rfl rfl ?_
                                                                        refine r_iconst (v := 1) hX dL_law_1257 (by decide) ?_
                                                                        refine r_iadd hX dL_law_1258 ?_
                                                                        refine r_sld hX hlw h.1 dL_law_1259 ?_
                                                                        have h := h.2
                                                                        refine r_cVi1 hX fv_L_150 ly_0 rfl ⟨Nat.le_of_ble_eq_true rfl, Nat.le_of_ble_eq_true rfl⟩ (c_X5_many (xs (x3 + 1).toNatClampNeg) h) (Nat.le_of_ble_eq_true rfl) dL_law_1260 (fun r129 M130 h => ?_)
                                                                        refine r_aload_n hX dL_law_1263 rfl rfl ?_
                                                                        refine r_aload_n hX dL_law_1264 rfl rfl ?_
                                                                        refine r_iload_n hX dL_law_1265 rfl rfl ?_
                                                                        refine r_iconst (v := 1) hX dL_law_1266 (by decide) ?_
                                                                        refine r_iadd hX dL_law_1267 ?_
                                                                        refine r_sld hX hlw h.1 dL_law_1268 ?_
                                                                        have h := h.2
                                                                        refine r_cVi1 hX fv_L_153 ly_34 rfl ⟨Nat.le_of_ble_eq_true rfl, Nat.le_of_ble_eq_true rfl⟩ (c_X6_many (xs (x3 + 1).toNatClampNeg) h) (Nat.le_of_ble_eq_true rfl) dL_law_1269 (fun r131 M132 h => ?_)
                                                                        refine r_icmp_eq hX 1277 dL_law_1272 (by decide) (fun hc => ?_) (fun hc => ?_)
                                                                        · have h := h.1 hc
                                                                          refine r_iinc (v := x3 + 6) (L' := [some (.ref b), some (.ref (adX X 0)), some (.ref (adX X 34)), some (.int (x3 + 6))]) hX dL_law_1277 rfl rfl rfl rfl ?_
                                                                          refine r_goto hX 18 dL_law_1280 (by decide) ?_
                                                                          refine r_sub [some (.ref b), some (.ref (adX X 0)), some (.ref (adX X 34)), some (.int (x3 + 6))] (And.intro rfl (And.intro rfl (And.intro rfl (And.intro rfl trivial)))) ?_
                                                                          exact ih _ _ h
                                                                        · have h := h.2 hc
                                                                          refine r_iconst (v := 0) hX dL_law_1275 (by decide) ?_
                                                                          exact r_iret (hret _ _ rfl h) dL_law_1276
                                                                      · refine r_tout hX 1277 dL_law_33 (sw_out33 hc0 hc1 hc2 hc3 hc4 hc5 hc6 hc7 hc8 hc9 hc10 hc11 hc12 hc13 hc14 hc15 hc16 hc17 hc18 hc19 hc20 hc21 hc22 hc23 hc24 hc25 hc26 hc27 hc28 hc29 hc30 hc31 hc32) (by decide) ?_
                                                                        have h := h.2.2.2.2.2.2.2.2.2.2.2.2.2.2.2.2.2.2.2.2.2.2.2.2.2.2.2.2.2.2.2.2.2 ⟨hc0, hc1, hc2, hc3, hc4, hc5, hc6, hc7, hc8, hc9, hc10, hc11, hc12, hc13, hc14, hc15, hc16, hc17, hc18, hc19, hc20, hc21, hc22, hc23, hc24, hc25, hc26, hc27, hc28, hc29, hc30, hc31, hc32⟩
                                                                        refine r_iinc (v := x3 + 6) (L' := [some (.ref b), some (.ref (adX X 0)), some (.ref (adX X 34)), some (.int (x3 + 6))]) hX dL_law_1277 rfl rfl rfl rfl ?_
                                                                        refine r_goto hX 18 dL_law_1280 (by decide) ?_
                                                                        refine r_sub [some (.ref b), some (.ref (adX X 0)), some (.ref (adX X 34)), some (.int (x3 + 6))] (And.intro rfl (And.intro rfl (And.intro rfl (And.intro rfl trivial)))) ?_
                                                                        exact ih _ _ h
