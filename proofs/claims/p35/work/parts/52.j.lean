/-! ===== the JDK under the law's texts ===== -/
def M_J0_length_8abf5 : mmMi := (yJ0_length_8abf5, cJ0_length_8abf5, 1, (some .int))
theorem g_J0_length_8abf5 : mmGd M_J0_length_8abf5 false 0 := ⟨mm_in 676 (by decide +kernel) rfl, mm_in 20 (by decide +kernel) rfl, (by decide +kernel), by decide, ⟨mm_in 674 (by decide +kernel) rfl, mm_in 675 (by decide +kernel) rfl⟩⟩
theorem xg_J0_length_8abf5 : xGd M_J0_length_8abf5 0 := ⟨mm_in 676 (by decide +kernel) rfl, mm_in 20 (by decide +kernel) rfl, (by decide +kernel), by decide, mm_in 674 (by decide +kernel) rfl⟩
def M_J0_coder_7d493 : mmMi := (yJ0_coder_7d493, cJ0_coder_7d493, 1, (some .byte))
theorem g_J0_coder_7d493 : mmGd M_J0_coder_7d493 false 0 := ⟨mm_in 680 (by decide +kernel) rfl, mm_in 20 (by decide +kernel) rfl, (by decide +kernel), by decide, ⟨mm_in 678 (by decide +kernel) rfl, mm_in 679 (by decide +kernel) rfl⟩⟩
theorem xg_J0_coder_7d493 : xGd M_J0_coder_7d493 0 := ⟨mm_in 680 (by decide +kernel) rfl, mm_in 20 (by decide +kernel) rfl, (by decide +kernel), by decide, mm_in 678 (by decide +kernel) rfl⟩
def M_J0_isLatin1_aae02 : mmMi := (yJ0_isLatin1_aae02, cJ0_isLatin1_aae02, 1, (some .boolean))
theorem g_J0_isLatin1_aae02 : mmGd M_J0_isLatin1_aae02 false 0 := ⟨mm_in 544 (by decide +kernel) rfl, mm_in 20 (by decide +kernel) rfl, (by decide +kernel), by decide, ⟨mm_in 542 (by decide +kernel) rfl, mm_in 543 (by decide +kernel) rfl⟩⟩
theorem xg_J0_isLatin1_aae02 : xGd M_J0_isLatin1_aae02 0 := ⟨mm_in 544 (by decide +kernel) rfl, mm_in 20 (by decide +kernel) rfl, (by decide +kernel), by decide, mm_in 542 (by decide +kernel) rfl⟩
def M_J1_charAt_3b067 : mmMi := (yJ1_charAt_3b067, cJ1_charAt_3b067, 2, (some .char))
theorem g_J1_charAt_3b067 : mmGd M_J1_charAt_3b067 true 2 := ⟨mm_in 548 (by decide +kernel) rfl, mm_in 22 (by decide +kernel) rfl, (by decide +kernel), by decide, (show _ from mm_in 547 (by decide +kernel) rfl)⟩
def M_J0_checkIndex_df160 : mmMi := (yJ0_checkIndex_df160, cJ0_checkIndex_df160, 2, none)
theorem g_J0_checkIndex_df160 : mmGd M_J0_checkIndex_df160 true 2 := ⟨mm_in 551 (by decide +kernel) rfl, mm_in 20 (by decide +kernel) rfl, (by decide +kernel), by decide, (show _ from mm_in 550 (by decide +kernel) rfl)⟩
def M_J3_checkIndex_8e157 : mmMi := (yJ3_checkIndex_8e157, cJ3_checkIndex_8e157, 3, (some .int))
theorem g_J3_checkIndex_8e157 : mmGd M_J3_checkIndex_8e157 true 3 := ⟨mm_in 556 (by decide +kernel) rfl, mm_in 23 (by decide +kernel) rfl, (by decide +kernel), by decide, (show _ from mm_in 555 (by decide +kernel) rfl)⟩
def M_J1_canEncode_fc78d : mmMi := (yJ1_canEncode_fc78d, cJ1_canEncode_fc78d, 1, (some .boolean))
theorem g_J1_canEncode_fc78d : mmGd M_J1_canEncode_fc78d true 1 := ⟨mm_in 623 (by decide +kernel) rfl, mm_in 22 (by decide +kernel) rfl, (by decide +kernel), by decide, (show _ from mm_in 622 (by decide +kernel) rfl)⟩
def M_J9_max_7cf53 : mmMi := (yJ9_max_7cf53, cJ9_max_7cf53, 2, (some .int))
theorem g_J9_max_7cf53 : mmGd M_J9_max_7cf53 true 2 := ⟨mm_in 596 (by decide +kernel) rfl, mm_in 25 (by decide +kernel) rfl, (by decide +kernel), by decide, (show _ from mm_in 595 (by decide +kernel) rfl)⟩
def M_J9_min_7cf53 : mmMi := (yJ9_min_7cf53, cJ9_min_7cf53, 2, (some .int))
theorem g_J9_min_7cf53 : mmGd M_J9_min_7cf53 true 2 := ⟨mm_in 614 (by decide +kernel) rfl, mm_in 25 (by decide +kernel) rfl, (by decide +kernel), by decide, (show _ from mm_in 613 (by decide +kernel) rfl)⟩
def M_J8_newLength_cabcc : mmMi := (yJ8_newLength_cabcc, cJ8_newLength_cabcc, 4, (some .int))
theorem g_J8_newLength_cabcc : mmGd M_J8_newLength_cabcc true 3 := ⟨mm_in 593 (by decide +kernel) rfl, mm_in 24 (by decide +kernel) rfl, (by decide +kernel), by decide, (show _ from mm_in 592 (by decide +kernel) rfl)⟩
def M_J7_checkLength_df160 : mmMi := (yJ7_checkLength_df160, cJ7_checkLength_df160, 2, none)
theorem g_J7_checkLength_df160 : mmGd M_J7_checkLength_df160 true 2 := ⟨mm_in 731 (by decide +kernel) rfl, mm_in 26 (by decide +kernel) rfl, (by decide +kernel), by decide, (show _ from mm_in 730 (by decide +kernel) rfl)⟩
def M_J7_copyOf_9075b : mmMi := (yJ7_copyOf_9075b, cJ7_copyOf_9075b, 3, (some (.array .byte)))
theorem g_J7_copyOf_9075b : mmGd M_J7_copyOf_9075b true 2 := ⟨mm_in 604 (by decide +kernel) rfl, mm_in 26 (by decide +kernel) rfl, (by decide +kernel), by decide, (show _ from mm_in 603 (by decide +kernel) rfl)⟩
def M_J7_copyOfRange_39247 : mmMi := (yJ7_copyOfRange_39247, cJ7_copyOfRange_39247, 3, (some (.array .byte)))
theorem g_J7_copyOfRange_39247 : mmGd M_J7_copyOfRange_39247 true 3 := ⟨mm_in 725 (by decide +kernel) rfl, mm_in 26 (by decide +kernel) rfl, (by decide +kernel), by decide, (show _ from mm_in 724 (by decide +kernel) rfl)⟩
def M_J7_copyOfRangeByte_39247 : mmMi := (yJ7_copyOfRangeByte_39247, cJ7_copyOfRangeByte_39247, 5, (some (.array .byte)))
theorem g_J7_copyOfRangeByte_39247 : mmGd M_J7_copyOfRangeByte_39247 true 3 := ⟨mm_in 728 (by decide +kernel) rfl, mm_in 26 (by decide +kernel) rfl, (by decide +kernel), by decide, (show _ from mm_in 727 (by decide +kernel) rfl)⟩
def M_J5_init_d00df : mmMi := (yJ5_init_d00df, cJ5_init_d00df, 2, none)
theorem xg_J5_init_d00df : xGd M_J5_init_d00df 1 := ⟨mm_in 511 (by decide +kernel) rfl, mm_in 18 (by decide +kernel) rfl, (by decide +kernel), by decide, mm_in 510 (by decide +kernel) rfl⟩
def M_J4_init_da8c8 : mmMi := (yJ4_init_da8c8, cJ4_init_da8c8, 1, none)
theorem xg_J4_init_da8c8 : xGd M_J4_init_da8c8 0 := ⟨mm_in 508 (by decide +kernel) rfl, mm_in 19 (by decide +kernel) rfl, (by decide +kernel), by decide, mm_in 507 (by decide +kernel) rfl⟩
def M_J5_isLatin1_aae02 : mmMi := (yJ5_isLatin1_aae02, cJ5_isLatin1_aae02, 1, (some .boolean))
theorem xg_J5_isLatin1_aae02 : xGd M_J5_isLatin1_aae02 0 := ⟨mm_in 620 (by decide +kernel) rfl, mm_in 18 (by decide +kernel) rfl, (by decide +kernel), by decide, mm_in 617 (by decide +kernel) rfl⟩
def M_J5_newCapacity_0f7a4 : mmMi := (yJ5_newCapacity_0f7a4, cJ5_newCapacity_0f7a4, 6, (some .int))
theorem xg_J5_newCapacity_0f7a4 : xGd M_J5_newCapacity_0f7a4 1 := ⟨mm_in 590 (by decide +kernel) rfl, mm_in 18 (by decide +kernel) rfl, (by decide +kernel), by decide, mm_in 589 (by decide +kernel) rfl⟩
def M_J5_ensureCapacityInternal_d00df : mmMi := (yJ5_ensureCapacityInternal_d00df, cJ5_ensureCapacityInternal_d00df, 3, none)
theorem xg_J5_ensureCapacityInternal_d00df : xGd M_J5_ensureCapacityInternal_d00df 1 := ⟨mm_in 586 (by decide +kernel) rfl, mm_in 18 (by decide +kernel) rfl, (by decide +kernel), by decide, mm_in 585 (by decide +kernel) rfl⟩
def M_J5_append_3fe6f : mmMi := (yJ5_append_3fe6f, cJ5_append_3fe6f, 2, (some (.object RJ5)))
theorem xg_J5_append_3fe6f : xGd M_J5_append_3fe6f 1 := ⟨mm_in 582 (by decide +kernel) rfl, mm_in 18 (by decide +kernel) rfl, (by decide +kernel), by decide, mm_in 581 (by decide +kernel) rfl⟩
def M_J4_append_cf468 : mmMi := (yJ4_append_cf468, cJ4_append_cf468, 2, (some (.object RJ4)))
theorem g_J4_append_cf468 : mmGd M_J4_append_cf468 false 1 := ⟨mm_in 579 (by decide +kernel) rfl, mm_in 19 (by decide +kernel) rfl, (by decide +kernel), by decide, ⟨mm_in 577 (by decide +kernel) rfl, mm_in 578 (by decide +kernel) rfl⟩⟩
theorem xg_J4_append_cf468 : xGd M_J4_append_cf468 1 := ⟨mm_in 579 (by decide +kernel) rfl, mm_in 19 (by decide +kernel) rfl, (by decide +kernel), by decide, mm_in 577 (by decide +kernel) rfl⟩
def M_J5_append_cf1ce : mmMi := (yJ5_append_cf1ce, cJ5_append_cf1ce, 3, (some (.object RJ5)))
theorem xg_J5_append_cf1ce : xGd M_J5_append_cf1ce 1 := ⟨mm_in 656 (by decide +kernel) rfl, mm_in 18 (by decide +kernel) rfl, (by decide +kernel), by decide, mm_in 655 (by decide +kernel) rfl⟩
def M_J4_append_15ec4 : mmMi := (yJ4_append_15ec4, cJ4_append_15ec4, 2, (some (.object RJ4)))
theorem g_J4_append_15ec4 : mmGd M_J4_append_15ec4 false 1 := ⟨mm_in 653 (by decide +kernel) rfl, mm_in 19 (by decide +kernel) rfl, (by decide +kernel), by decide, ⟨mm_in 651 (by decide +kernel) rfl, mm_in 652 (by decide +kernel) rfl⟩⟩
theorem xg_J4_append_15ec4 : xGd M_J4_append_15ec4 1 := ⟨mm_in 653 (by decide +kernel) rfl, mm_in 19 (by decide +kernel) rfl, (by decide +kernel), by decide, mm_in 651 (by decide +kernel) rfl⟩
def M_J5_append_c97b9 : mmMi := (yJ5_append_c97b9, cJ5_append_c97b9, 4, (some (.object RJ5)))
theorem xg_J5_append_c97b9 : xGd M_J5_append_c97b9 1 := ⟨mm_in 775 (by decide +kernel) rfl, mm_in 18 (by decide +kernel) rfl, (by decide +kernel), by decide, mm_in 774 (by decide +kernel) rfl⟩
def M_J4_append_bf812 : mmMi := (yJ4_append_bf812, cJ4_append_bf812, 2, (some (.object RJ4)))
theorem g_J4_append_bf812 : mmGd M_J4_append_bf812 false 1 := ⟨mm_in 772 (by decide +kernel) rfl, mm_in 19 (by decide +kernel) rfl, (by decide +kernel), by decide, ⟨mm_in 770 (by decide +kernel) rfl, mm_in 771 (by decide +kernel) rfl⟩⟩
theorem xg_J4_append_bf812 : xGd M_J4_append_bf812 1 := ⟨mm_in 772 (by decide +kernel) rfl, mm_in 19 (by decide +kernel) rfl, (by decide +kernel), by decide, mm_in 770 (by decide +kernel) rfl⟩
def M_J5_inflateIfNeededFor_a7421 : mmMi := (yJ5_inflateIfNeededFor_a7421, cJ5_inflateIfNeededFor_a7421, 2, none)
theorem xg_J5_inflateIfNeededFor_a7421 : xGd M_J5_inflateIfNeededFor_a7421 1 := ⟨mm_in 688 (by decide +kernel) rfl, mm_in 18 (by decide +kernel) rfl, (by decide +kernel), by decide, mm_in 687 (by decide +kernel) rfl⟩
def M_J5_putStringAt_47b60 : mmMi := (yJ5_putStringAt_47b60, cJ5_putStringAt_47b60, 3, none)
theorem xg_J5_putStringAt_47b60 : xGd M_J5_putStringAt_47b60 2 := ⟨mm_in 684 (by decide +kernel) rfl, mm_in 18 (by decide +kernel) rfl, (by decide +kernel), by decide, mm_in 683 (by decide +kernel) rfl⟩
def M_J0_getBytes_840e7 : mmMi := (yJ0_getBytes_840e7, cJ0_getBytes_840e7, 4, none)
theorem g_J0_getBytes_840e7 : mmGd M_J0_getBytes_840e7 false 3 := ⟨mm_in 693 (by decide +kernel) rfl, mm_in 20 (by decide +kernel) rfl, (by decide +kernel), by decide, ⟨mm_in 691 (by decide +kernel) rfl, mm_in 692 (by decide +kernel) rfl⟩⟩
theorem xg_J0_getBytes_840e7 : xGd M_J0_getBytes_840e7 3 := ⟨mm_in 693 (by decide +kernel) rfl, mm_in 20 (by decide +kernel) rfl, (by decide +kernel), by decide, mm_in 691 (by decide +kernel) rfl⟩
def M_J6_stringSize_0f7a4 : mmMi := (yJ6_stringSize_0f7a4, cJ6_stringSize_0f7a4, 4, (some .int))
theorem g_J6_stringSize_0f7a4 : mmGd M_J6_stringSize_0f7a4 true 1 := ⟨mm_in 778 (by decide +kernel) rfl, mm_in 28 (by decide +kernel) rfl, (by decide +kernel), by decide, (show _ from mm_in 777 (by decide +kernel) rfl)⟩
def M_J6_getChars_ba4f3 : mmMi := (yJ6_getChars_ba4f3, cJ6_getChars_ba4f3, 7, (some .int))
theorem g_J6_getChars_ba4f3 : mmGd M_J6_getChars_ba4f3 true 3 := ⟨mm_in 781 (by decide +kernel) rfl, mm_in 28 (by decide +kernel) rfl, (by decide +kernel), by decide, (show _ from mm_in 780 (by decide +kernel) rfl)⟩
def M_J4_toString_0e30d : mmMi := (yJ4_toString_0e30d, cJ4_toString_0e30d, 1, (some (.object RJ0)))
theorem g_J4_toString_0e30d : mmGd M_J4_toString_0e30d false 0 := ⟨mm_in 699 (by decide +kernel) rfl, mm_in 19 (by decide +kernel) rfl, (by decide +kernel), by decide, ⟨mm_in 697 (by decide +kernel) rfl, mm_in 698 (by decide +kernel) rfl⟩⟩
theorem xg_J4_toString_0e30d : xGd M_J4_toString_0e30d 0 := ⟨mm_in 699 (by decide +kernel) rfl, mm_in 19 (by decide +kernel) rfl, (by decide +kernel), by decide, mm_in 697 (by decide +kernel) rfl⟩
def M_J0_init_81219 : mmMi := (yJ0_init_81219, cJ0_init_81219, 2, none)
theorem xg_J0_init_81219 : xGd M_J0_init_81219 1 := ⟨mm_in 704 (by decide +kernel) rfl, mm_in 20 (by decide +kernel) rfl, (by decide +kernel), by decide, mm_in 703 (by decide +kernel) rfl⟩
def M_J0_init_db425 : mmMi := (yJ0_init_db425, cJ0_init_db425, 5, none)
theorem xg_J0_init_db425 : xGd M_J0_init_db425 2 := ⟨mm_in 707 (by decide +kernel) rfl, mm_in 20 (by decide +kernel) rfl, (by decide +kernel), by decide, mm_in 706 (by decide +kernel) rfl⟩
def M_J5_getValue_6d5f1 : mmMi := (yJ5_getValue_6d5f1, cJ5_getValue_6d5f1, 1, (some (.array .byte)))
theorem xg_J5_getValue_6d5f1 : xGd M_J5_getValue_6d5f1 0 := ⟨mm_in 713 (by decide +kernel) rfl, mm_in 18 (by decide +kernel) rfl, (by decide +kernel), by decide, mm_in 710 (by decide +kernel) rfl⟩
def M_J5_length_8abf5 : mmMi := (yJ5_length_8abf5, cJ5_length_8abf5, 1, (some .int))
theorem xg_J5_length_8abf5 : xGd M_J5_length_8abf5 0 := ⟨mm_in 721 (by decide +kernel) rfl, mm_in 18 (by decide +kernel) rfl, (by decide +kernel), by decide, mm_in 715 (by decide +kernel) rfl⟩
def M_J4_length_8abf5 : mmMi := (yJ4_length_8abf5, cJ4_length_8abf5, 1, (some .int))
theorem xg_J4_length_8abf5 : xGd M_J4_length_8abf5 0 := ⟨mm_in 719 (by decide +kernel) rfl, mm_in 19 (by decide +kernel) rfl, (by decide +kernel), by decide, mm_in 718 (by decide +kernel) rfl⟩
theorem g_J0_charAt_5068e : mmGd M_J0_charAt_5068e false 1 := ⟨mm_in 540 (by decide +kernel) rfl, mm_in 20 (by decide +kernel) rfl, (by decide +kernel), by decide, ⟨mm_in 538 (by decide +kernel) rfl, mm_in 539 (by decide +kernel) rfl⟩⟩
theorem xg_J0_charAt_5068e : xGd M_J0_charAt_5068e 1 := ⟨mm_in 540 (by decide +kernel) rfl, mm_in 20 (by decide +kernel) rfl, (by decide +kernel), by decide, mm_in 538 (by decide +kernel) rfl⟩
theorem t_latin {d : Nat} {l : Launch} {G : xG} {n : Nat} {es : Nat → va_E} {r : Nat} {v0 v2 v3 : Value} (hd : 0 ≤ d) (hr : r < n) (he : es r = .inr (9, [v0, .int 0, v2, v3])) : xMet d 0 0 M_J5_isLatin1_aae02 l G n es [.ref (G.B + r)] (xPu n es (some (.int (nI 1)))) := by
  refine xMet.of true (j := 0) (by decide +kernel) (catL rfl) rfl ?_
  refine x_compact (i := 18) (w := 513) (by decide +kernel) (by decide +kernel) ?_
  refine x_if (cc := .eq) (off := 14) 17 (by decide +kernel) rfl (fun qq => absurd qq (show ¬ ((1 : Int32) = 0) by decide)) (fun _ => ?_)
  refine x_aload_n (i := 0) (by decide +kernel) rfl ?_
  refine x_get (i := 22) (ci := 9) (T := TJ4) (w := 523) 1 (by decide +kernel) rfl (by decide) (by decide +kernel) hr he rfl ?_
  refine x_if (cc := .ne) (off := 7) 17 (by decide +kernel) rfl (fun qq => absurd (show ((0 : Int32) = 0) from rfl) qq) (fun _ => ?_)
  refine x_iconst (i := 1) (nI 1) (by decide +kernel) (by decide +kernel) ?_
  refine x_goto (off := 4) 18 (by decide +kernel) rfl ?_
  exact x_ireturn .boolean (by decide +kernel) rfl rfl (by omega) (by omega) (fun _ _ _ h => ⟨_, _, _, rfl, ⟨rfl, rfl, rfl⟩, Nat.le_refl _, h⟩)
theorem t_getValue {d : Nat} {l : Launch} {G : xG} {n : Nat} {es : Nat → va_E} {r v : Nat} {v2 v3 : Value} (hd : 0 ≤ d) (hr : r < n) (he : es r = .inr (9, [.ref (G.B + v), .int 0, v2, v3])) : xMet d 0 0 M_J5_getValue_6d5f1 l G n es [.ref (G.B + r)] (xPu n es (some (.ref (G.B + v)))) := by
  refine xMet.of true (j := 0) (by decide +kernel) (catL rfl) rfl ?_
  refine x_aload_n (i := 0) (by decide +kernel) rfl ?_
  refine x_get (i := 15) (ci := 9) (T := TJ4) (w := 522) 0 (by decide +kernel) rfl (by decide) (by decide +kernel) hr he rfl ?_
  exact x_areturn (.array .byte) (by decide +kernel) rfl (Or.inr ⟨_, rfl⟩) (by omega) (by omega) (fun _ _ _ h => ⟨_, _, _, rfl, ⟨rfl, rfl, rfl⟩, Nat.le_refl _, h⟩)
theorem t_blen5 {d : Nat} {l : Launch} {G : xG} {n : Nat} {es : Nat → va_E} {r : Nat} {x : Int32} {v0 v2 : Value} (hd : 0 ≤ d) (hr : r < n) (he : es r = .inr (9, [v0, .int 0, v2, .int x])) : xMet d 0 0 M_J5_length_8abf5 l G n es [.ref (G.B + r)] (xPu n es (some (.int x))) := by
  refine xMet.of true (j := 0) (by decide +kernel) (catL rfl) rfl ?_
  refine x_aload_n (i := 0) (by decide +kernel) rfl ?_
  refine x_get (i := 79) (ci := 9) (T := TJ4) (w := 525) 3 (by decide +kernel) rfl (by decide) (by decide +kernel) hr he rfl ?_
  exact x_ireturn .int (by decide +kernel) rfl rfl (by omega) (by omega) (fun _ _ _ h => ⟨_, _, _, rfl, ⟨rfl, rfl, rfl⟩, Nat.le_refl _, h⟩)
theorem t_blen {d : Nat} {l : Launch} {G : xG} {n : Nat} {es : Nat → va_E} {r : Nat} {x : Int32} {v0 v2 : Value} (hd : 1 ≤ d) (hr : r < n) (he : es r = .inr (9, [v0, .int 0, v2, .int x])) : xMet d 0 0 M_J4_length_8abf5 l G n es [.ref (G.B + r)] (xPu n es (some (.int x))) := by
  refine xMet.of true (j := 0) (by decide +kernel) (catL rfl) rfl ?_
  refine x_aload_n (i := 0) (by decide +kernel) rfl ?_
  refine x_callSUp (i := 343) (d' := (d - 1)) (w := 720) (w2 := 716) (w3 := 534) (Mc := M_J5_length_8abf5) (ci := 9) (q := (RJ4, TJ4, 4)) [] rfl (by decide +kernel) (by decide +kernel) xg_J5_length_8abf5 (by decide) (by decide +kernel) (by decide +kernel) rfl (xRc.own (q := vwCl.getD 9 ("", TX0, 0)) hr he rfl) (t_blen5 (by omega) hr he) (by omega) (by omega) (by omega) rfl (by simp [Value.category]) ?_
  exact x_ireturn .int (by decide +kernel) rfl rfl (by omega) (by omega) (fun _ _ _ h => ⟨_, _, _, rfl, ⟨rfl, rfl, rfl⟩, Nat.le_refl _, h⟩)
theorem t_coder {d : Nat} {l : Launch} {G : xG} {n : Nat} {es : Nat → va_E} {a : Nat} {U : Nat → Prop} {t : List Int32} (hd : 0 ≤ d) (ht : tS G n es U a t) : xMet d 0 0 M_J0_coder_7d493 l G n es [.ref a] (xPu n es (some (.int 0))) := by
  refine xMet.of true (j := 0) (by decide +kernel) (catL rfl) rfl ?_
  refine x_compact (i := 38) (w := 545) (by decide +kernel) (by decide +kernel) ?_
  refine x_if (cc := .eq) (off := 10) 13 (by decide +kernel) rfl (fun qq => absurd qq (show ¬ ((1 : Int32) = 0) by decide)) (fun _ => ?_)
  refine x_aload_n (i := 0) (by decide +kernel) rfl ?_
  refine x_tcod (i := 15) (w := 743) (by decide +kernel) (by decide +kernel) ht ?_
  refine x_goto (off := 4) 14 (by decide +kernel) rfl ?_
  exact x_ireturn .byte (by decide +kernel) rfl rfl (by omega) (by omega) (fun _ _ _ h => ⟨_, _, _, rfl, ⟨rfl, rfl, rfl⟩, Nat.le_refl _, h⟩)
theorem t_lat0 {d : Nat} {l : Launch} {G : xG} {n : Nat} {es : Nat → va_E} {a : Nat} {U : Nat → Prop} {t : List Int32} (hd : 0 ≤ d) (ht : tS G n es U a t) : xMet d 0 0 M_J0_isLatin1_aae02 l G n es [.ref a] (xPu n es (some (.int (nI 1)))) := by
  refine xMet.of true (j := 0) (by decide +kernel) (catL rfl) rfl ?_
  refine x_compact (i := 38) (w := 545) (by decide +kernel) (by decide +kernel) ?_
  refine x_if (cc := .eq) (off := 14) 17 (by decide +kernel) rfl (fun qq => absurd qq (show ¬ ((1 : Int32) = 0) by decide)) (fun _ => ?_)
  refine x_aload_n (i := 0) (by decide +kernel) rfl ?_
  refine x_tcod (i := 15) (w := 743) (by decide +kernel) (by decide +kernel) ht ?_
  refine x_if (cc := .ne) (off := 7) 17 (by decide +kernel) rfl (fun qq => absurd (show ((0 : Int32) = 0) from rfl) qq) (fun _ => ?_)
  refine x_iconst (i := 1) (nI 1) (by decide +kernel) (by decide +kernel) ?_
  refine x_goto (off := 4) 18 (by decide +kernel) rfl ?_
  exact x_ireturn .boolean (by decide +kernel) rfl rfl (by omega) (by omega) (fun _ _ _ h => ⟨_, _, _, rfl, ⟨rfl, rfl, rfl⟩, Nat.le_refl _, h⟩)
theorem t_length {d : Nat} {l : Launch} {G : xG} {n : Nat} {es : Nat → va_E} {a : Nat} {U : Nat → Prop} {t : List Int32} (hd : 1 ≤ d) (ht : tS G n es U a t) : xMet d 0 0 M_J0_length_8abf5 l G n es [.ref a] (xPu n es (some (.int (nI t.length)))) := by
  refine xMet.of true (j := 0) (by decide +kernel) (catL rfl) rfl ?_
  refine x_aload_n (i := 0) (by decide +kernel) rfl ?_
  refine x_tval (i := 9) (w := 742) (by decide +kernel) (by decide +kernel) ht (fun wa1 ta1 => ?_)
  refine x_talen (by decide +kernel) ta1 ?_
  refine x_aload_n (i := 0) (by decide +kernel) rfl ?_
  refine x_callVp (i := 335) (d' := (d - 1)) (w := 677) (Mc := M_J0_coder_7d493) [] rfl (by decide +kernel) (by decide +kernel) g_J0_coder_7d493 ht.rc (t_coder (by omega) ht) (by omega) (by omega) (by omega) rfl (by simp [Value.category]) ?_
  refine x_ishr (nI t.length) (by decide +kernel) (sb_shr0 _) ?_
  exact x_ireturn .int (by decide +kernel) rfl rfl (by omega) (by omega) (fun _ _ _ h => ⟨_, _, _, rfl, ⟨rfl, rfl, rfl⟩, Nat.le_refl _, h⟩)
theorem t_pcheck {d : Nat} {l : Launch} {G : xG} {n : Nat} {es : Nat → va_E} {i m : Nat} {vv : Value} (hd : 0 ≤ d) (hi : i < m) (hm : m < 2 ^ 31) (hvc : vv.category = 1) : xMet d 0 0 M_J3_checkIndex_8e157 l G n es [.int (nI i), .int (nI m), vv] (xPu n es (some (.int (nI i)))) := by
  refine xMet.of true (j := 0) (by decide +kernel) (by simp only [List.mem_cons, List.not_mem_nil, or_false, forall_eq_or_imp, forall_eq]; exact ⟨rfl, rfl, hvc⟩) rfl ?_
  refine x_iload_n (i := 0) (by decide +kernel) rfl ?_
  refine x_if (cc := .lt) (off := 8) 9 (by decide +kernel) rfl (fun qq => absurd qq (nI_pos (by omega))) (fun _ => ?_)
  refine x_iload_n (i := 0) (by decide +kernel) rfl ?_
  refine x_iload_n (i := 1) (by decide +kernel) rfl ?_
  refine x_icmp (cc := .lt) (off := 10) 16 (by decide +kernel) rfl (fun _ => ?_) (fun qq => absurd (show nI i < nI m from nI_lt hi (by omega)) qq)
  refine x_iload_n (i := 0) (by decide +kernel) rfl ?_
  exact x_ireturn .int (by decide +kernel) rfl rfl (by omega) (by omega) (fun _ _ _ h => ⟨_, _, _, rfl, ⟨rfl, rfl, rfl⟩, Nat.le_refl _, h⟩)
theorem t_check {d : Nat} {l : Launch} {G : xG} {n : Nat} {es : Nat → va_E} {i m : Nat} (hd : 1 ≤ d) (hi : i < m) (hm : m < 2 ^ 31) : xMet d 0 0 M_J0_checkIndex_df160 l G n es [.int (nI i), .int (nI m)] (xPu n es none) := by
  refine xMet.of true (j := 0) (by decide +kernel) (catL rfl) rfl ?_
  refine x_iload_n (i := 0) (by decide +kernel) rfl ?_
  refine x_iload_n (i := 1) (by decide +kernel) rfl ?_
  refine x_form (i := 1053) (w := 552) (by decide +kernel) (by decide +kernel) (fun vv hvc => ?_)
  refine x_callSp (i := 1059) (d' := (d - 1)) (w := 554) (Mc := M_J3_checkIndex_8e157) [.int (nI i), .int (nI m), vv] rfl (by decide +kernel) (by decide +kernel) g_J3_checkIndex_8e157 (t_pcheck (by omega) hi hm hvc) (by omega) (by omega) (by omega) rfl (by simp [Value.category]) ?_
  refine x_pop (by decide +kernel) rfl ?_
  exact x_return (by decide +kernel) rfl (by omega) (by omega) (fun _ _ _ h => ⟨_, _, _, rfl, ⟨rfl, rfl, rfl⟩, Nat.le_refl _, h⟩)
theorem pk_255 : ∀ {c : Nat}, c < 128 → nI c &&& nI 255 = nI c := by
  have h : ∀ c, c < 128 → nI c &&& nI 255 = nI c := by decide +kernel
  exact fun {c} hc => h c hc
theorem pk_i2c : ∀ {c : Nat}, c < 128 → ((nI c).toUInt32 % 65536).toInt32 = nI c := by
  have h : ∀ c, c < 128 → ((nI c).toUInt32 % 65536).toInt32 = nI c := by decide +kernel
  exact fun {c} hc => h c hc
theorem t_lchar {d : Nat} {l : Launch} {G : xG} {n : Nat} {es : Nat → va_E} {a i c : Nat} {U : Nat → Prop} {t : List Int32} (hd : 2 ≤ d) (ht : tA G n es U a t) (hl : t.length < 2 ^ 31) (hc : c < 128) (hx : t[i]? = some (nI c)) : xMet d 0 0 M_J1_charAt_3b067 l G n es [.ref a, .int (nI i)] (xPu n es (some (.int (nI c)))) := by
  refine xMet.of true (j := 0) (by decide +kernel) (catL rfl) rfl ?_
  refine x_iload_n (i := 1) (by decide +kernel) rfl ?_
  refine x_aload_n (i := 0) (by decide +kernel) rfl ?_
  refine x_talen (by decide +kernel) ht ?_
  refine x_callSp (i := 9) (d' := (d - 1)) (w := 549) (Mc := M_J0_checkIndex_df160) [.int (nI i), .int (nI t.length)] rfl (by decide +kernel) (by decide +kernel) g_J0_checkIndex_df160 (t_check (by omega) (List.getElem?_eq_some_iff.mp hx).1 hl) (by omega) (by omega) (by omega) rfl (by simp [Value.category]) ?_
  refine x_aload_n (i := 0) (by decide +kernel) rfl ?_
  refine x_iload_n (i := 1) (by decide +kernel) rfl ?_
  refine x_tbald (by decide +kernel) ht hl hx ?_
  refine x_sipush (i := 255) (nI 255) (by decide +kernel) (by decide +kernel) ?_
  refine x_iand (nI c) (by decide +kernel) (pk_255 hc) ?_
  refine x_i2c (nI c) (by decide +kernel) (pk_i2c hc) ?_
  exact x_ireturn .char (by decide +kernel) rfl (pk_charN (by omega)).1 (by omega) (by omega) (fun _ _ _ h => ⟨_, _, _, rfl, ⟨rfl, rfl, rfl⟩, Nat.le_refl _, h⟩)
theorem t_charAt {d : Nat} {l : Launch} {G : xG} {n : Nat} {es : Nat → va_E} {a i c : Nat} {U : Nat → Prop} {t : List Int32} (hd : 3 ≤ d) (ht : tS G n es U a t) (hl : t.length < 2 ^ 31) (hc : c < 128) (hx : t[i]? = some (nI c)) : xMet d 0 0 M_J0_charAt_5068e l G n es [.ref a, .int (nI i)] (xPu n es (some (.int (nI c)))) := by
  refine xMet.of true (j := 0) (by decide +kernel) (catL rfl) rfl ?_
  refine x_aload_n (i := 0) (by decide +kernel) rfl ?_
  refine x_callVp (i := 492) (d' := (d - 1)) (w := 541) (Mc := M_J0_isLatin1_aae02) [] rfl (by decide +kernel) (by decide +kernel) g_J0_isLatin1_aae02 ht.rc (t_lat0 (by omega) ht) (by omega) (by omega) (by omega) rfl (by simp [Value.category]) ?_
  refine x_if (cc := .eq) (off := 12) 16 (by decide +kernel) rfl (fun qq => absurd qq (show ¬ ((nI 1 : Int32) = 0) by decide)) (fun _ => ?_)
  refine x_aload_n (i := 0) (by decide +kernel) rfl ?_
  refine x_tval (i := 9) (w := 742) (by decide +kernel) (by decide +kernel) ht (fun wa1 ta1 => ?_)
  refine x_iload_n (i := 1) (by decide +kernel) rfl ?_
  refine x_callSp (i := 495) (d' := (d - 1)) (w := 546) (Mc := M_J1_charAt_3b067) [.ref wa1, .int (nI i)] rfl (by decide +kernel) (by decide +kernel) g_J1_charAt_3b067 (t_lchar (by omega) ta1 hl hc hx) (by omega) (by omega) (by omega) rfl (by simp [Value.category]) ?_
  exact x_ireturn .char (by decide +kernel) rfl (pk_charN (by omega)).1 (by omega) (by omega) (fun _ _ _ h => ⟨_, _, _, rfl, ⟨rfl, rfl, rfl⟩, Nat.le_refl _, h⟩)
theorem t_can {d : Nat} {l : Launch} {G : xG} {n : Nat} {es : Nat → va_E} {c : Nat} (hd : 0 ≤ d) (hc : c < 128) : xMet d 0 0 M_J1_canEncode_fc78d l G n es [.int (nI c)] (xPu n es (some (.int (nI 1)))) := by
  refine xMet.of true (j := 0) (by decide +kernel) (catL rfl) rfl ?_
  refine x_iload_n (i := 0) (by decide +kernel) rfl ?_
  refine x_sipush (i := 255) (nI 255) (by decide +kernel) (by decide +kernel) ?_
  refine x_icmp (cc := .gt) (off := 7) 11 (by decide +kernel) rfl (fun qq => absurd qq (show ¬ nI 255 < nI c from nI_nlt (by omega) (by decide))) (fun _ => ?_)
  refine x_iconst (i := 1) (nI 1) (by decide +kernel) (by decide +kernel) ?_
  refine x_goto (off := 4) 12 (by decide +kernel) rfl ?_
  exact x_ireturn .boolean (by decide +kernel) rfl rfl (by omega) (by omega) (fun _ _ _ h => ⟨_, _, _, rfl, ⟨rfl, rfl, rfl⟩, Nat.le_refl _, h⟩)
theorem t_max {d : Nat} {l : Launch} {G : xG} {n : Nat} {es : Nat → va_E} {a b : Nat} (hd : 0 ≤ d) (ha : a < 2 ^ 31) (hb : b < 2 ^ 31) : xMet d 0 0 M_J9_max_7cf53 l G n es [.int (nI a), .int (nI b)] (xPu n es (some (.int (nI (max a b))))) := by
  refine xMet.of true (j := 0) (by decide +kernel) (catL rfl) rfl ?_
  refine x_iload_n (i := 0) (by decide +kernel) rfl ?_
  refine x_iload_n (i := 1) (by decide +kernel) rfl ?_
  refine x_icmp (cc := .lt) (off := 7) 9 (by decide +kernel) rfl (fun q => ?_) (fun q => ?_)
  · refine x_iload_n (i := 1) (by decide +kernel) rfl ?_
    exact x_ireturn .int (by decide +kernel) rfl rfl (by omega) (by omega) (fun _ _ _ h => ⟨_, _, _, rfl, ⟨by rw [show max a b = b by have := (nI_ltI ha hb).mp q; omega], rfl, rfl⟩, Nat.le_refl _, h⟩)
  · refine x_iload_n (i := 0) (by decide +kernel) rfl ?_
    refine x_goto (off := 4) 10 (by decide +kernel) rfl ?_
    exact x_ireturn .int (by decide +kernel) rfl rfl (by omega) (by omega) (fun _ _ _ h => ⟨_, _, _, rfl, ⟨by rw [show max a b = a by have z : ¬ a < b := fun z => q ((nI_ltI ha hb).mpr z); omega], rfl, rfl⟩, Nat.le_refl _, h⟩)
theorem t_min {d : Nat} {l : Launch} {G : xG} {n : Nat} {es : Nat → va_E} {a b : Nat} (hd : 0 ≤ d) (ha : a < 2 ^ 31) (hb : b < 2 ^ 31) : xMet d 0 0 M_J9_min_7cf53 l G n es [.int (nI a), .int (nI b)] (xPu n es (some (.int (nI (min a b))))) := by
  refine xMet.of true (j := 0) (by decide +kernel) (catL rfl) rfl ?_
  refine x_iload_n (i := 0) (by decide +kernel) rfl ?_
  refine x_iload_n (i := 1) (by decide +kernel) rfl ?_
  refine x_icmp (cc := .gt) (off := 7) 9 (by decide +kernel) rfl (fun q => ?_) (fun q => ?_)
  · refine x_iload_n (i := 1) (by decide +kernel) rfl ?_
    exact x_ireturn .int (by decide +kernel) rfl rfl (by omega) (by omega) (fun _ _ _ h => ⟨_, _, _, rfl, ⟨by rw [show min a b = b by have := (nI_ltI hb ha).mp q; omega], rfl, rfl⟩, Nat.le_refl _, h⟩)
  · refine x_iload_n (i := 0) (by decide +kernel) rfl ?_
    refine x_goto (off := 4) 10 (by decide +kernel) rfl ?_
    exact x_ireturn .int (by decide +kernel) rfl rfl (by omega) (by omega) (fun _ _ _ h => ⟨_, _, _, rfl, ⟨by rw [show min a b = a by have z : ¬ b < a := fun z => q ((nI_ltI hb ha).mpr z); omega], rfl, rfl⟩, Nat.le_refl _, h⟩)
