/-! Math_min_III -/
theorem d_Math_min_III_0 : decode m_Math_min_III.2.1 0 = .ok (.iload_n 0, 1) := by decide +kernel
theorem d_Math_min_III_1 : decode m_Math_min_III.2.1 1 = .ok (.iload_n 1, 1) := by decide +kernel
theorem d_Math_min_III_2 : decode m_Math_min_III.2.1 2 = .ok (.if_icmp .gt 7, 3) := by decide +kernel
theorem d_Math_min_III_5 : decode m_Math_min_III.2.1 5 = .ok (.iload_n 0, 1) := by decide +kernel
theorem d_Math_min_III_6 : decode m_Math_min_III.2.1 6 = .ok (.goto 4, 3) := by decide +kernel
theorem d_Math_min_III_9 : decode m_Math_min_III.2.1 9 = .ok (.iload_n 1, 1) := by decide +kernel
theorem d_Math_min_III_10 : decode m_Math_min_III.2.1 10 = .ok (.ireturn, 1) := by decide +kernel
theorem t_Math_min_III_0 {d : Nat} {st : List Value} {x0 : Int32} {x1 : Int32} {w : qk_W} {nc ns : Nat} {Q : Option Value ⊕ Nat → qk_W → Nat → Nat → Prop}   (kt : x1 < x0 → Ev d m_Math_min_III 9 [some (.int x0), some (.int x1)] st w nc ns Q) (kf : ¬ (x1 < x0) → Ev d m_Math_min_III 5 [some (.int x0), some (.int x1)] st w nc ns Q) : Ev d m_Math_min_III 0 [some (.int x0), some (.int x1)] st w nc ns Q := by
  refine ev_iload_n d_Math_min_III_0 rfl ?_
  refine ev_iload_n d_Math_min_III_1 rfl ?_
  exact ev_icmp_gt 9 d_Math_min_III_2 (by decide) kt kf
theorem t_Math_min_III_5 {d : Nat} {x0 : Int32} {o1 : Option Value} {w : qk_W} {nc ns : Nat} {Q : Option Value ⊕ Nat → qk_W → Nat → Nat → Prop}   (hq : Q (.inl (some (.int x0))) w nc ns) : Ev d m_Math_min_III 5 [some (.int x0), o1] [] w nc ns Q := by
  refine ev_iload_n d_Math_min_III_5 rfl ?_
  refine ev_goto 10 d_Math_min_III_6 (by decide) ?_
  exact ev_iret d_Math_min_III_10 rfl rfl hq
theorem t_Math_min_III_9 {d : Nat} {o0 : Option Value} {x1 : Int32} {w : qk_W} {nc ns : Nat} {Q : Option Value ⊕ Nat → qk_W → Nat → Nat → Prop}   (hq : Q (.inl (some (.int x1))) w nc ns) : Ev d m_Math_min_III 9 [o0, some (.int x1)] [] w nc ns Q := by
  refine ev_iload_n d_Math_min_III_9 rfl ?_
  exact ev_iret d_Math_min_III_10 rfl rfl hq
/-! Math_max -/
theorem d_Math_max_0 : decode m_Math_max.2.1 0 = .ok (.iload_n 0, 1) := by decide +kernel
theorem d_Math_max_1 : decode m_Math_max.2.1 1 = .ok (.iload_n 1, 1) := by decide +kernel
theorem d_Math_max_2 : decode m_Math_max.2.1 2 = .ok (.if_icmp .lt 7, 3) := by decide +kernel
theorem d_Math_max_5 : decode m_Math_max.2.1 5 = .ok (.iload_n 0, 1) := by decide +kernel
theorem d_Math_max_6 : decode m_Math_max.2.1 6 = .ok (.goto 4, 3) := by decide +kernel
theorem d_Math_max_9 : decode m_Math_max.2.1 9 = .ok (.iload_n 1, 1) := by decide +kernel
theorem d_Math_max_10 : decode m_Math_max.2.1 10 = .ok (.ireturn, 1) := by decide +kernel
theorem t_Math_max_0 {d : Nat} {st : List Value} {x0 : Int32} {x1 : Int32} {w : qk_W} {nc ns : Nat} {Q : Option Value ⊕ Nat → qk_W → Nat → Nat → Prop}   (kt : x0 < x1 → Ev d m_Math_max 9 [some (.int x0), some (.int x1)] st w nc ns Q) (kf : ¬ (x0 < x1) → Ev d m_Math_max 5 [some (.int x0), some (.int x1)] st w nc ns Q) : Ev d m_Math_max 0 [some (.int x0), some (.int x1)] st w nc ns Q := by
  refine ev_iload_n d_Math_max_0 rfl ?_
  refine ev_iload_n d_Math_max_1 rfl ?_
  exact ev_icmp_lt 9 d_Math_max_2 (by decide) kt kf
theorem t_Math_max_5 {d : Nat} {x0 : Int32} {o1 : Option Value} {w : qk_W} {nc ns : Nat} {Q : Option Value ⊕ Nat → qk_W → Nat → Nat → Prop}   (hq : Q (.inl (some (.int x0))) w nc ns) : Ev d m_Math_max 5 [some (.int x0), o1] [] w nc ns Q := by
  refine ev_iload_n d_Math_max_5 rfl ?_
  refine ev_goto 10 d_Math_max_6 (by decide) ?_
  exact ev_iret d_Math_max_10 rfl rfl hq
theorem t_Math_max_9 {d : Nat} {o0 : Option Value} {x1 : Int32} {w : qk_W} {nc ns : Nat} {Q : Option Value ⊕ Nat → qk_W → Nat → Nat → Prop}   (hq : Q (.inl (some (.int x1))) w nc ns) : Ev d m_Math_max 9 [o0, some (.int x1)] [] w nc ns Q := by
  refine ev_iload_n d_Math_max_9 rfl ?_
  exact ev_iret d_Math_max_10 rfl rfl hq
/-! Math_floorMod -/
theorem d_Math_floorMod_0 : decode m_Math_floorMod.2.1 0 = .ok (.iload_n 0, 1) := by decide +kernel
theorem d_Math_floorMod_1 : decode m_Math_floorMod.2.1 1 = .ok (.iload_n 1, 1) := by decide +kernel
theorem d_Math_floorMod_2 : decode m_Math_floorMod.2.1 2 = .ok (.irem, 1) := by decide +kernel
theorem d_Math_floorMod_3 : decode m_Math_floorMod.2.1 3 = .ok (.istore_n 2, 1) := by decide +kernel
theorem d_Math_floorMod_4 : decode m_Math_floorMod.2.1 4 = .ok (.iload_n 0, 1) := by decide +kernel
theorem d_Math_floorMod_5 : decode m_Math_floorMod.2.1 5 = .ok (.iload_n 1, 1) := by decide +kernel
theorem d_Math_floorMod_6 : decode m_Math_floorMod.2.1 6 = .ok (.ixor, 1) := by decide +kernel
theorem d_Math_floorMod_7 : decode m_Math_floorMod.2.1 7 = .ok (.ifCond .ge 11, 3) := by decide +kernel
theorem d_Math_floorMod_10 : decode m_Math_floorMod.2.1 10 = .ok (.iload_n 2, 1) := by decide +kernel
theorem d_Math_floorMod_11 : decode m_Math_floorMod.2.1 11 = .ok (.ifCond .eq 7, 3) := by decide +kernel
theorem d_Math_floorMod_14 : decode m_Math_floorMod.2.1 14 = .ok (.iload_n 2, 1) := by decide +kernel
theorem d_Math_floorMod_15 : decode m_Math_floorMod.2.1 15 = .ok (.iload_n 1, 1) := by decide +kernel
theorem d_Math_floorMod_16 : decode m_Math_floorMod.2.1 16 = .ok (.iadd, 1) := by decide +kernel
theorem d_Math_floorMod_17 : decode m_Math_floorMod.2.1 17 = .ok (.ireturn, 1) := by decide +kernel
theorem d_Math_floorMod_18 : decode m_Math_floorMod.2.1 18 = .ok (.iload_n 2, 1) := by decide +kernel
theorem d_Math_floorMod_19 : decode m_Math_floorMod.2.1 19 = .ok (.ireturn, 1) := by decide +kernel
theorem t_Math_floorMod_0 {d : Nat} {st : List Value} {x0 : Int32} {x1 : Int32} {o2 : Option Value} {w : qk_W} {nc ns : Nat} {Q : Option Value ⊕ Nat → qk_W → Nat → Nat → Prop}  (hz1 : ¬ x1 = 0) (kt : 0 ≤ (x0 ^^^ x1) → Ev d m_Math_floorMod 18 [some (.int x0), some (.int x1), some (.int (qi_rem x0 x1))] st w nc ns Q) (kf : ¬ (0 ≤ (x0 ^^^ x1)) → Ev d m_Math_floorMod 10 [some (.int x0), some (.int x1), some (.int (qi_rem x0 x1))] st w nc ns Q) : Ev d m_Math_floorMod 0 [some (.int x0), some (.int x1), o2] st w nc ns Q := by
  refine ev_iload_n d_Math_floorMod_0 rfl ?_
  refine ev_iload_n d_Math_floorMod_1 rfl ?_
  refine ev_irem d_Math_floorMod_2 hz1 ?_
  refine ev_istore_n d_Math_floorMod_3 (by decide) rfl ?_
  refine ev_iload_n d_Math_floorMod_4 rfl ?_
  refine ev_iload_n d_Math_floorMod_5 rfl ?_
  refine ev_ixor d_Math_floorMod_6 ?_
  exact ev_if_ge 18 d_Math_floorMod_7 (by decide) kt kf
theorem t_Math_floorMod_10 {d : Nat} {st : List Value} {o0 : Option Value} {o1 : Option Value} {x2 : Int32} {w : qk_W} {nc ns : Nat} {Q : Option Value ⊕ Nat → qk_W → Nat → Nat → Prop}   (kt : x2 = 0 → Ev d m_Math_floorMod 18 [o0, o1, some (.int x2)] st w nc ns Q) (kf : ¬ (x2 = 0) → Ev d m_Math_floorMod 14 [o0, o1, some (.int x2)] st w nc ns Q) : Ev d m_Math_floorMod 10 [o0, o1, some (.int x2)] st w nc ns Q := by
  refine ev_iload_n d_Math_floorMod_10 rfl ?_
  exact ev_if_eq 18 d_Math_floorMod_11 (by decide) kt kf
theorem t_Math_floorMod_14 {d : Nat} {o0 : Option Value} {x1 : Int32} {x2 : Int32} {w : qk_W} {nc ns : Nat} {Q : Option Value ⊕ Nat → qk_W → Nat → Nat → Prop}   (hq : Q (.inl (some (.int (x2 + x1)))) w nc ns) : Ev d m_Math_floorMod 14 [o0, some (.int x1), some (.int x2)] [] w nc ns Q := by
  refine ev_iload_n d_Math_floorMod_14 rfl ?_
  refine ev_iload_n d_Math_floorMod_15 rfl ?_
  refine ev_iadd d_Math_floorMod_16 ?_
  exact ev_iret d_Math_floorMod_17 rfl rfl hq
theorem t_Math_floorMod_18 {d : Nat} {o0 : Option Value} {o1 : Option Value} {x2 : Int32} {w : qk_W} {nc ns : Nat} {Q : Option Value ⊕ Nat → qk_W → Nat → Nat → Prop}   (hq : Q (.inl (some (.int x2))) w nc ns) : Ev d m_Math_floorMod 18 [o0, o1, some (.int x2)] [] w nc ns Q := by
  refine ev_iload_n d_Math_floorMod_18 rfl ?_
  exact ev_iret d_Math_floorMod_19 rfl rfl hq
/-! Int_bitCount -/
theorem lc_Int_265 : Cond.constant "java/lang/Integer" 265 (1431655765) ∈ lw_tbl := (lw_i2 _ (List.mem_of_getElem? (i := 55) rfl))
theorem lc_Int_266 : Cond.constant "java/lang/Integer" 266 (858993459) ∈ lw_tbl := (lw_i2 _ (List.mem_of_getElem? (i := 56) rfl))
theorem lc_Int_267 : Cond.constant "java/lang/Integer" 267 (252645135) ∈ lw_tbl := (lw_i2 _ (List.mem_of_getElem? (i := 57) rfl))
theorem d_Int_bitCount_0 : decode m_Int_bitCount.2.1 0 = .ok (.iload_n 0, 1) := by decide +kernel
theorem d_Int_bitCount_1 : decode m_Int_bitCount.2.1 1 = .ok (.iload_n 0, 1) := by decide +kernel
theorem d_Int_bitCount_2 : decode m_Int_bitCount.2.1 2 = .ok (.iconst 1, 1) := by decide +kernel
theorem d_Int_bitCount_3 : decode m_Int_bitCount.2.1 3 = .ok (.iushr, 1) := by decide +kernel
theorem d_Int_bitCount_4 : decode m_Int_bitCount.2.1 4 = .ok (.ldc_w 265, 3) := by decide +kernel
theorem d_Int_bitCount_7 : decode m_Int_bitCount.2.1 7 = .ok (.iand, 1) := by decide +kernel
theorem d_Int_bitCount_8 : decode m_Int_bitCount.2.1 8 = .ok (.isub, 1) := by decide +kernel
theorem d_Int_bitCount_9 : decode m_Int_bitCount.2.1 9 = .ok (.istore_n 0, 1) := by decide +kernel
theorem d_Int_bitCount_10 : decode m_Int_bitCount.2.1 10 = .ok (.iload_n 0, 1) := by decide +kernel
theorem d_Int_bitCount_11 : decode m_Int_bitCount.2.1 11 = .ok (.ldc_w 266, 3) := by decide +kernel
theorem d_Int_bitCount_14 : decode m_Int_bitCount.2.1 14 = .ok (.iand, 1) := by decide +kernel
theorem d_Int_bitCount_15 : decode m_Int_bitCount.2.1 15 = .ok (.iload_n 0, 1) := by decide +kernel
theorem d_Int_bitCount_16 : decode m_Int_bitCount.2.1 16 = .ok (.iconst 2, 1) := by decide +kernel
theorem d_Int_bitCount_17 : decode m_Int_bitCount.2.1 17 = .ok (.iushr, 1) := by decide +kernel
theorem d_Int_bitCount_18 : decode m_Int_bitCount.2.1 18 = .ok (.ldc_w 266, 3) := by decide +kernel
theorem d_Int_bitCount_21 : decode m_Int_bitCount.2.1 21 = .ok (.iand, 1) := by decide +kernel
theorem d_Int_bitCount_22 : decode m_Int_bitCount.2.1 22 = .ok (.iadd, 1) := by decide +kernel
theorem d_Int_bitCount_23 : decode m_Int_bitCount.2.1 23 = .ok (.istore_n 0, 1) := by decide +kernel
theorem d_Int_bitCount_24 : decode m_Int_bitCount.2.1 24 = .ok (.iload_n 0, 1) := by decide +kernel
theorem d_Int_bitCount_25 : decode m_Int_bitCount.2.1 25 = .ok (.iload_n 0, 1) := by decide +kernel
theorem d_Int_bitCount_26 : decode m_Int_bitCount.2.1 26 = .ok (.iconst 4, 1) := by decide +kernel
theorem d_Int_bitCount_27 : decode m_Int_bitCount.2.1 27 = .ok (.iushr, 1) := by decide +kernel
theorem d_Int_bitCount_28 : decode m_Int_bitCount.2.1 28 = .ok (.iadd, 1) := by decide +kernel
theorem d_Int_bitCount_29 : decode m_Int_bitCount.2.1 29 = .ok (.ldc_w 267, 3) := by decide +kernel
theorem d_Int_bitCount_32 : decode m_Int_bitCount.2.1 32 = .ok (.iand, 1) := by decide +kernel
theorem d_Int_bitCount_33 : decode m_Int_bitCount.2.1 33 = .ok (.istore_n 0, 1) := by decide +kernel
theorem d_Int_bitCount_34 : decode m_Int_bitCount.2.1 34 = .ok (.iload_n 0, 1) := by decide +kernel
theorem d_Int_bitCount_35 : decode m_Int_bitCount.2.1 35 = .ok (.iload_n 0, 1) := by decide +kernel
theorem d_Int_bitCount_36 : decode m_Int_bitCount.2.1 36 = .ok (.bipush 8, 2) := by decide +kernel
theorem d_Int_bitCount_38 : decode m_Int_bitCount.2.1 38 = .ok (.iushr, 1) := by decide +kernel
theorem d_Int_bitCount_39 : decode m_Int_bitCount.2.1 39 = .ok (.iadd, 1) := by decide +kernel
theorem d_Int_bitCount_40 : decode m_Int_bitCount.2.1 40 = .ok (.istore_n 0, 1) := by decide +kernel
theorem d_Int_bitCount_41 : decode m_Int_bitCount.2.1 41 = .ok (.iload_n 0, 1) := by decide +kernel
theorem d_Int_bitCount_42 : decode m_Int_bitCount.2.1 42 = .ok (.iload_n 0, 1) := by decide +kernel
theorem d_Int_bitCount_43 : decode m_Int_bitCount.2.1 43 = .ok (.bipush 16, 2) := by decide +kernel
theorem d_Int_bitCount_45 : decode m_Int_bitCount.2.1 45 = .ok (.iushr, 1) := by decide +kernel
theorem d_Int_bitCount_46 : decode m_Int_bitCount.2.1 46 = .ok (.iadd, 1) := by decide +kernel
theorem d_Int_bitCount_47 : decode m_Int_bitCount.2.1 47 = .ok (.istore_n 0, 1) := by decide +kernel
theorem d_Int_bitCount_48 : decode m_Int_bitCount.2.1 48 = .ok (.iload_n 0, 1) := by decide +kernel
theorem d_Int_bitCount_49 : decode m_Int_bitCount.2.1 49 = .ok (.bipush 63, 2) := by decide +kernel
theorem d_Int_bitCount_51 : decode m_Int_bitCount.2.1 51 = .ok (.iand, 1) := by decide +kernel
theorem d_Int_bitCount_52 : decode m_Int_bitCount.2.1 52 = .ok (.ireturn, 1) := by decide +kernel
theorem t_Int_bitCount_0 {d : Nat} {x0 : Int32} {w : qk_W} {nc ns : Nat} {Q : Option Value ⊕ Nat → qk_W → Nat → Nat → Prop}   (hq : Q (.inl (some (.int ((((((((x0 - ((qi_ushr x0 1) &&& 1431655765)) &&& 858993459) + ((qi_ushr (x0 - ((qi_ushr x0 1) &&& 1431655765)) 2) &&& 858993459)) + (qi_ushr (((x0 - ((qi_ushr x0 1) &&& 1431655765)) &&& 858993459) + ((qi_ushr (x0 - ((qi_ushr x0 1) &&& 1431655765)) 2) &&& 858993459)) 4)) &&& 252645135) + (qi_ushr (((((x0 - ((qi_ushr x0 1) &&& 1431655765)) &&& 858993459) + ((qi_ushr (x0 - ((qi_ushr x0 1) &&& 1431655765)) 2) &&& 858993459)) + (qi_ushr (((x0 - ((qi_ushr x0 1) &&& 1431655765)) &&& 858993459) + ((qi_ushr (x0 - ((qi_ushr x0 1) &&& 1431655765)) 2) &&& 858993459)) 4)) &&& 252645135) 8)) + (qi_ushr ((((((x0 - ((qi_ushr x0 1) &&& 1431655765)) &&& 858993459) + ((qi_ushr (x0 - ((qi_ushr x0 1) &&& 1431655765)) 2) &&& 858993459)) + (qi_ushr (((x0 - ((qi_ushr x0 1) &&& 1431655765)) &&& 858993459) + ((qi_ushr (x0 - ((qi_ushr x0 1) &&& 1431655765)) 2) &&& 858993459)) 4)) &&& 252645135) + (qi_ushr (((((x0 - ((qi_ushr x0 1) &&& 1431655765)) &&& 858993459) + ((qi_ushr (x0 - ((qi_ushr x0 1) &&& 1431655765)) 2) &&& 858993459)) + (qi_ushr (((x0 - ((qi_ushr x0 1) &&& 1431655765)) &&& 858993459) + ((qi_ushr (x0 - ((qi_ushr x0 1) &&& 1431655765)) 2) &&& 858993459)) 4)) &&& 252645135) 8)) 16)) &&& 63)))) w nc ns) : Ev d m_Int_bitCount 0 [some (.int x0)] [] w nc ns Q := by
  refine ev_iload_n d_Int_bitCount_0 rfl ?_
  refine ev_iload_n d_Int_bitCount_1 rfl ?_
  refine ev_iconst 1 d_Int_bitCount_2 (by decide) ?_
  refine ev_iushr d_Int_bitCount_3 ?_
  refine ev_ldc_w 1431655765 d_Int_bitCount_4 lc_Int_265 ?_
  refine ev_iand d_Int_bitCount_7 ?_
  refine ev_isub d_Int_bitCount_8 ?_
  refine ev_istore_n d_Int_bitCount_9 (by decide) rfl ?_
  refine ev_iload_n d_Int_bitCount_10 rfl ?_
  refine ev_ldc_w 858993459 d_Int_bitCount_11 lc_Int_266 ?_
  refine ev_iand d_Int_bitCount_14 ?_
  refine ev_iload_n d_Int_bitCount_15 rfl ?_
  refine ev_iconst 2 d_Int_bitCount_16 (by decide) ?_
  refine ev_iushr d_Int_bitCount_17 ?_
  refine ev_ldc_w 858993459 d_Int_bitCount_18 lc_Int_266 ?_
  refine ev_iand d_Int_bitCount_21 ?_
  refine ev_iadd d_Int_bitCount_22 ?_
  refine ev_istore_n d_Int_bitCount_23 (by decide) rfl ?_
  refine ev_iload_n d_Int_bitCount_24 rfl ?_
  refine ev_iload_n d_Int_bitCount_25 rfl ?_
  refine ev_iconst 4 d_Int_bitCount_26 (by decide) ?_
  refine ev_iushr d_Int_bitCount_27 ?_
  refine ev_iadd d_Int_bitCount_28 ?_
  refine ev_ldc_w 252645135 d_Int_bitCount_29 lc_Int_267 ?_
  refine ev_iand d_Int_bitCount_32 ?_
  refine ev_istore_n d_Int_bitCount_33 (by decide) rfl ?_
  refine ev_iload_n d_Int_bitCount_34 rfl ?_
  refine ev_iload_n d_Int_bitCount_35 rfl ?_
  refine ev_bipush 8 d_Int_bitCount_36 (by decide) ?_
  refine ev_iushr d_Int_bitCount_38 ?_
  refine ev_iadd d_Int_bitCount_39 ?_
  refine ev_istore_n d_Int_bitCount_40 (by decide) rfl ?_
  refine ev_iload_n d_Int_bitCount_41 rfl ?_
  refine ev_iload_n d_Int_bitCount_42 rfl ?_
  refine ev_bipush 16 d_Int_bitCount_43 (by decide) ?_
  refine ev_iushr d_Int_bitCount_45 ?_
  refine ev_iadd d_Int_bitCount_46 ?_
  refine ev_istore_n d_Int_bitCount_47 (by decide) rfl ?_
  refine ev_iload_n d_Int_bitCount_48 rfl ?_
  refine ev_bipush 63 d_Int_bitCount_49 (by decide) ?_
  refine ev_iand d_Int_bitCount_51 ?_
  exact ev_iret d_Int_bitCount_52 rfl rfl hq
/-! Math_min_JJJ -/
theorem d_Math_min_JJJ_0 : decode m_Math_min_JJJ.2.1 0 = .ok (.lload_n 0, 1) := by decide +kernel
theorem d_Math_min_JJJ_1 : decode m_Math_min_JJJ.2.1 1 = .ok (.lload_n 2, 1) := by decide +kernel
theorem d_Math_min_JJJ_2 : decode m_Math_min_JJJ.2.1 2 = .ok (.lcmp, 1) := by decide +kernel
theorem d_Math_min_JJJ_3 : decode m_Math_min_JJJ.2.1 3 = .ok (.ifCond .gt 7, 3) := by decide +kernel
theorem d_Math_min_JJJ_6 : decode m_Math_min_JJJ.2.1 6 = .ok (.lload_n 0, 1) := by decide +kernel
theorem d_Math_min_JJJ_7 : decode m_Math_min_JJJ.2.1 7 = .ok (.goto 4, 3) := by decide +kernel
theorem d_Math_min_JJJ_10 : decode m_Math_min_JJJ.2.1 10 = .ok (.lload_n 2, 1) := by decide +kernel
theorem d_Math_min_JJJ_11 : decode m_Math_min_JJJ.2.1 11 = .ok (.lreturn, 1) := by decide +kernel
theorem t_Math_min_JJJ_0 {d : Nat} {st : List Value} {x0 : Int64} {o1 : Option Value} {x2 : Int64} {o3 : Option Value} {w : qk_W} {nc ns : Nat} {Q : Option Value ⊕ Nat → qk_W → Nat → Nat → Prop}   (kt : 0 < (lg_cmp x0 x2) → Ev d m_Math_min_JJJ 10 [some (.long x0), o1, some (.long x2), o3] st w nc ns Q) (kf : ¬ (0 < (lg_cmp x0 x2)) → Ev d m_Math_min_JJJ 6 [some (.long x0), o1, some (.long x2), o3] st w nc ns Q) : Ev d m_Math_min_JJJ 0 [some (.long x0), o1, some (.long x2), o3] st w nc ns Q := by
  refine ev_lload_n d_Math_min_JJJ_0 rfl ?_
  refine ev_lload_n d_Math_min_JJJ_1 rfl ?_
  refine ev_lcmp d_Math_min_JJJ_2 ?_
  exact ev_if_gt 10 d_Math_min_JJJ_3 (by decide) kt kf
theorem t_Math_min_JJJ_6 {d : Nat} {x0 : Int64} {o1 : Option Value} {o2 : Option Value} {o3 : Option Value} {w : qk_W} {nc ns : Nat} {Q : Option Value ⊕ Nat → qk_W → Nat → Nat → Prop}   (hq : Q (.inl (some (.long x0))) w nc ns) : Ev d m_Math_min_JJJ 6 [some (.long x0), o1, o2, o3] [] w nc ns Q := by
  refine ev_lload_n d_Math_min_JJJ_6 rfl ?_
  refine ev_goto 11 d_Math_min_JJJ_7 (by decide) ?_
  exact ev_lret d_Math_min_JJJ_11 rfl hq
theorem t_Math_min_JJJ_10 {d : Nat} {o0 : Option Value} {o1 : Option Value} {x2 : Int64} {o3 : Option Value} {w : qk_W} {nc ns : Nat} {Q : Option Value ⊕ Nat → qk_W → Nat → Nat → Prop}   (hq : Q (.inl (some (.long x2))) w nc ns) : Ev d m_Math_min_JJJ 10 [o0, o1, some (.long x2), o3] [] w nc ns Q := by
  refine ev_lload_n d_Math_min_JJJ_10 rfl ?_
  exact ev_lret d_Math_min_JJJ_11 rfl hq
