/-! ===== the reference: a new one; by geninit.py ===== -/
def arrT : Nat → Option qk_C
  | 1 => some (.inl (.int, 131072, .inl (fun _ => 0)))
  | 2 => some (.inl (.int, 4, .inl (fun _ => 0)))
  | 3 => some (.inl (.int, 4, .inl (fun _ => 0)))
  | 4 => some (.inl (.int, 4, .inl (fun _ => 0)))
  | 6 => some (.inl (.int, 4096, .inl (fun _ => 0)))
  | 7 => some (.inl (.int, 4096, .inl (fun _ => 0)))
  | 8 => some (.inl (.int, 4096, .inl (fun _ => 0)))
  | 9 => some (.inl (.int, 4096, .inl (fun _ => 0)))
  | 10 => some (.inl (.boolean, 4096, .inl (fun _ => 0)))
  | 12 => some (.inl (.boolean, 131072, .inl (fun _ => 0)))
  | 14 => some (.inl (.byte, 32768, .inl (fun _ => 0)))
  | 15 => some (.inl (.int, 64, .inl (fun _ => 0)))
  | 16 => some (.inl (.boolean, 64, .inl (fun _ => 0)))
  | 18 => some (.inl (.int, 131072, .inl (fun _ => 0)))
  | 19 => some (.inl (.byte, 131072, .inl (fun _ => 0)))
  | 20 => some (.inl (.int, 4, .inl (fun _ => 0)))
  | 31 => some (.inl (.int, 32768, .inl (fun _ => 0)))
  | _ => none
/-- the arrays up to field k are there, none behind -/
def iv (w : qk_W) (k : Nat) : Prop := ∀ j, 0 < j → w (mA j) = if j ≤ k then arrT j else none
theorem iv_step {w wa wb : qk_W} {k : Nat} {C : qk_C} (h : iv w k) (e : wa (mA (k + 1)) = some C) (g : ∀ v, v ≠ mA (k + 1) → wa v = w v) (g' : ∀ v, v ≠ 25 → wb v = wa v) (hC : arrT (k + 1) = some C) : iv wb (k + 1) := by
  intro j hj
  rw [g' _ (mA_25 hj)]
  by_cases ej : j = k + 1
  · rw [ej, e, if_pos (Nat.le_refl _), hC]
  · rw [g _ (mA_ne ej), h j hj]
    by_cases e2 : j ≤ k
    · rw [if_pos e2, if_pos (by omega)]
    · rw [if_neg e2, if_neg (by omega)]
theorem iv_skip {w : qk_W} {k : Nat} (h : iv w k) (hC : arrT (k + 1) = none) : iv w (k + 1) := by
  intro j hj
  rw [h j hj]
  by_cases ej : j = k + 1
  · rw [ej, if_neg (by omega), if_pos (Nat.le_refl _), hC]
  · by_cases e2 : j ≤ k
    · rw [if_pos e2, if_pos (by omega)]
    · rw [if_neg e2, if_neg (by omega)]
theorem iv_no {w : qk_W} {k j : Nat} (h : iv w k) (hj : k < j) : w (mA j) = none := by rw [h j (by omega), if_neg (by omega)]
theorem iv_at {w : qk_W} {k j : Nat} (h : iv w k) (h0 : 0 < j) (hj : j ≤ k) : w (mA j) = arrT j := by rw [h j h0, if_pos hj]
theorem iv_f {w w' : qk_W} {k : Nat} (h : iv w k) (e : ∀ v, v ≠ 25 → w' v = w v) : iv w' k := fun j hj => by rw [e _ (mA_25 hj)]; exact h j hj
def s00 : Nat → Int32 := fun k => if k = 5 then 100 else 0
section Mo23
variable {d : Nat} {w : qk_W} {nc ns : Nat} {Q : Option Value ⊕ Nat → qk_W → Nat → Nat → Prop}
theorem c_Mo_init0 (ho : wo w 25 11 [.int 0, .null, .null, .null, .null, .int 0, .null, .null, .null, .null, .null, .int 0, .null, .int 0, .null, .null, .null, .int 0, .null, .null, .null, .int 0, .int 0, .int 0, .int 0, .int 0, .int 0, .int 0, .int 0, .long 0, .long 0, .null, .int 0, .int 0]) (hf : iv w 0)
    (hq : ∀ w', (∀ v, v % 16 ≠ 9 → w' v = w v) → moO w' s00 (fun _ => 0) → iv w' 31 → ∀ nc' ns', nc' = nc + 17 → ns' = ns + 610448 → Q (.inl none) w' nc' ns') :
    Ev (d + 1) m_Mo_init 0 [some (.ref 25)] [] w nc ns Q := by
  refine t_Mo_init_0 (Nat.le_of_ble_eq_true rfl) ?_
  have f0 : ∀ v, v % 16 ≠ 9 → w v = w v := fun _ _ => rfl
  have i0 := hf
  have o0 := ho
  refine t_Mo_init_4 rfl (mA 1) (mA_16 _) (iv_no i0 (by omega)) (es_w (fun wa1 ea1 ga1 => ?_))
  refine t_Mo_init_9 rfl (wo_f o0 (ga1 25 (Ne.symm (mA_25 (by omega))))) (Nat.le_of_ble_eq_true rfl) rfl (es_w (fun wb1 eb1 gb1 => ?_))
  have o1 : wo wb1 25 11 [.int 0, .ref (mA 1), .null, .null, .null, .int 0, .null, .null, .null, .null, .null, .int 0, .null, .int 0, .null, .null, .null, .int 0, .null, .null, .null, .int 0, .int 0, .int 0, .int 0, .int 0, .int 0, .int 0, .int 0, .long 0, .long 0, .null, .int 0, .int 0] := ⟨by decide, eb1⟩
  have i1 := iv_step i0 ea1 ga1 gb1 rfl
  have f1 : ∀ v, v % 16 ≠ 9 → wb1 v = w v := fun v hv => (gb1 v (by rintro rfl; exact hv (by decide))).trans ((ga1 v (by rintro rfl; exact hv (by decide))).trans (f0 v hv))
  refine t_Mo_init_12 rfl (mA 2) (mA_16 _) (iv_no i1 (by omega)) (es_w (fun wa2 ea2 ga2 => ?_))
  refine t_Mo_init_16 rfl (wo_f o1 (ga2 25 (Ne.symm (mA_25 (by omega))))) (Nat.le_of_ble_eq_true rfl) rfl (es_w (fun wb2 eb2 gb2 => ?_))
  have o2 : wo wb2 25 11 [.int 0, .ref (mA 1), .ref (mA 2), .null, .null, .int 0, .null, .null, .null, .null, .null, .int 0, .null, .int 0, .null, .null, .null, .int 0, .null, .null, .null, .int 0, .int 0, .int 0, .int 0, .int 0, .int 0, .int 0, .int 0, .long 0, .long 0, .null, .int 0, .int 0] := ⟨by decide, eb2⟩
  have i2 := iv_step i1 ea2 ga2 gb2 rfl
  have f2 : ∀ v, v % 16 ≠ 9 → wb2 v = w v := fun v hv => (gb2 v (by rintro rfl; exact hv (by decide))).trans ((ga2 v (by rintro rfl; exact hv (by decide))).trans (f1 v hv))
  refine t_Mo_init_19 rfl (mA 3) (mA_16 _) (iv_no i2 (by omega)) (es_w (fun wa3 ea3 ga3 => ?_))
  refine t_Mo_init_23 rfl (wo_f o2 (ga3 25 (Ne.symm (mA_25 (by omega))))) (Nat.le_of_ble_eq_true rfl) rfl (es_w (fun wb3 eb3 gb3 => ?_))
  have o3 : wo wb3 25 11 [.int 0, .ref (mA 1), .ref (mA 2), .ref (mA 3), .null, .int 0, .null, .null, .null, .null, .null, .int 0, .null, .int 0, .null, .null, .null, .int 0, .null, .null, .null, .int 0, .int 0, .int 0, .int 0, .int 0, .int 0, .int 0, .int 0, .long 0, .long 0, .null, .int 0, .int 0] := ⟨by decide, eb3⟩
  have i3 := iv_step i2 ea3 ga3 gb3 rfl
  have f3 : ∀ v, v % 16 ≠ 9 → wb3 v = w v := fun v hv => (gb3 v (by rintro rfl; exact hv (by decide))).trans ((ga3 v (by rintro rfl; exact hv (by decide))).trans (f2 v hv))
  refine t_Mo_init_26 rfl (mA 4) (mA_16 _) (iv_no i3 (by omega)) (es_w (fun wa4 ea4 ga4 => ?_))
  refine t_Mo_init_30 rfl (wo_f o3 (ga4 25 (Ne.symm (mA_25 (by omega))))) (Nat.le_of_ble_eq_true rfl) rfl (es_w (fun wb4 eb4 gb4 => ?_))
  have o4 : wo wb4 25 11 [.int 0, .ref (mA 1), .ref (mA 2), .ref (mA 3), .ref (mA 4), .int 0, .null, .null, .null, .null, .null, .int 0, .null, .int 0, .null, .null, .null, .int 0, .null, .null, .null, .int 0, .int 0, .int 0, .int 0, .int 0, .int 0, .int 0, .int 0, .long 0, .long 0, .null, .int 0, .int 0] := ⟨by decide, eb4⟩
  have i4 := iv_step i3 ea4 ga4 gb4 rfl
  have f4 : ∀ v, v % 16 ≠ 9 → wb4 v = w v := fun v hv => (gb4 v (by rintro rfl; exact hv (by decide))).trans ((ga4 v (by rintro rfl; exact hv (by decide))).trans (f3 v hv))
  refine t_Mo_init_33 o4 (Nat.le_of_ble_eq_true rfl) (es_w (fun wq eq gq => ?_))
  have o5 : wo wq 25 11 [.int 0, .ref (mA 1), .ref (mA 2), .ref (mA 3), .ref (mA 4), .int 100, .null, .null, .null, .null, .null, .int 0, .null, .int 0, .null, .null, .null, .int 0, .null, .null, .null, .int 0, .int 0, .int 0, .int 0, .int 0, .int 0, .int 0, .int 0, .long 0, .long 0, .null, .int 0, .int 0] := ⟨by decide, eq⟩
  have i5 := iv_skip (iv_f i4 gq) rfl
  have f5 : ∀ v, v % 16 ≠ 9 → wq v = w v := fun v hv => (gq v (by rintro rfl; exact hv (by decide))).trans (f4 v hv)
  refine t_Mo_init_39 rfl (mA 6) (mA_16 _) (iv_no i5 (by omega)) (es_w (fun wa6 ea6 ga6 => ?_))
  refine t_Mo_init_45 rfl (wo_f o5 (ga6 25 (Ne.symm (mA_25 (by omega))))) (Nat.le_of_ble_eq_true rfl) rfl (es_w (fun wb6 eb6 gb6 => ?_))
  have o6 : wo wb6 25 11 [.int 0, .ref (mA 1), .ref (mA 2), .ref (mA 3), .ref (mA 4), .int 100, .ref (mA 6), .null, .null, .null, .null, .int 0, .null, .int 0, .null, .null, .null, .int 0, .null, .null, .null, .int 0, .int 0, .int 0, .int 0, .int 0, .int 0, .int 0, .int 0, .long 0, .long 0, .null, .int 0, .int 0] := ⟨by decide, eb6⟩
  have i6 := iv_step i5 ea6 ga6 gb6 rfl
  have f6 : ∀ v, v % 16 ≠ 9 → wb6 v = w v := fun v hv => (gb6 v (by rintro rfl; exact hv (by decide))).trans ((ga6 v (by rintro rfl; exact hv (by decide))).trans (f5 v hv))
  refine t_Mo_init_48 rfl (mA 7) (mA_16 _) (iv_no i6 (by omega)) (es_w (fun wa7 ea7 ga7 => ?_))
  refine t_Mo_init_54 rfl (wo_f o6 (ga7 25 (Ne.symm (mA_25 (by omega))))) (Nat.le_of_ble_eq_true rfl) rfl (es_w (fun wb7 eb7 gb7 => ?_))
  have o7 : wo wb7 25 11 [.int 0, .ref (mA 1), .ref (mA 2), .ref (mA 3), .ref (mA 4), .int 100, .ref (mA 6), .ref (mA 7), .null, .null, .null, .int 0, .null, .int 0, .null, .null, .null, .int 0, .null, .null, .null, .int 0, .int 0, .int 0, .int 0, .int 0, .int 0, .int 0, .int 0, .long 0, .long 0, .null, .int 0, .int 0] := ⟨by decide, eb7⟩
  have i7 := iv_step i6 ea7 ga7 gb7 rfl
  have f7 : ∀ v, v % 16 ≠ 9 → wb7 v = w v := fun v hv => (gb7 v (by rintro rfl; exact hv (by decide))).trans ((ga7 v (by rintro rfl; exact hv (by decide))).trans (f6 v hv))
  refine t_Mo_init_57 rfl (mA 8) (mA_16 _) (iv_no i7 (by omega)) (es_w (fun wa8 ea8 ga8 => ?_))
  refine t_Mo_init_63 rfl (wo_f o7 (ga8 25 (Ne.symm (mA_25 (by omega))))) (Nat.le_of_ble_eq_true rfl) rfl (es_w (fun wb8 eb8 gb8 => ?_))
  have o8 : wo wb8 25 11 [.int 0, .ref (mA 1), .ref (mA 2), .ref (mA 3), .ref (mA 4), .int 100, .ref (mA 6), .ref (mA 7), .ref (mA 8), .null, .null, .int 0, .null, .int 0, .null, .null, .null, .int 0, .null, .null, .null, .int 0, .int 0, .int 0, .int 0, .int 0, .int 0, .int 0, .int 0, .long 0, .long 0, .null, .int 0, .int 0] := ⟨by decide, eb8⟩
  have i8 := iv_step i7 ea8 ga8 gb8 rfl
  have f8 : ∀ v, v % 16 ≠ 9 → wb8 v = w v := fun v hv => (gb8 v (by rintro rfl; exact hv (by decide))).trans ((ga8 v (by rintro rfl; exact hv (by decide))).trans (f7 v hv))
  refine t_Mo_init_66 rfl (mA 9) (mA_16 _) (iv_no i8 (by omega)) (es_w (fun wa9 ea9 ga9 => ?_))
  refine t_Mo_init_72 rfl (wo_f o8 (ga9 25 (Ne.symm (mA_25 (by omega))))) (Nat.le_of_ble_eq_true rfl) rfl (es_w (fun wb9 eb9 gb9 => ?_))
  have o9 : wo wb9 25 11 [.int 0, .ref (mA 1), .ref (mA 2), .ref (mA 3), .ref (mA 4), .int 100, .ref (mA 6), .ref (mA 7), .ref (mA 8), .ref (mA 9), .null, .int 0, .null, .int 0, .null, .null, .null, .int 0, .null, .null, .null, .int 0, .int 0, .int 0, .int 0, .int 0, .int 0, .int 0, .int 0, .long 0, .long 0, .null, .int 0, .int 0] := ⟨by decide, eb9⟩
  have i9 := iv_step i8 ea9 ga9 gb9 rfl
  have f9 : ∀ v, v % 16 ≠ 9 → wb9 v = w v := fun v hv => (gb9 v (by rintro rfl; exact hv (by decide))).trans ((ga9 v (by rintro rfl; exact hv (by decide))).trans (f8 v hv))
  refine t_Mo_init_75 rfl (mA 10) (mA_16 _) (iv_no i9 (by omega)) (es_w (fun wa10 ea10 ga10 => ?_))
  refine t_Mo_init_81 rfl (wo_f o9 (ga10 25 (Ne.symm (mA_25 (by omega))))) (Nat.le_of_ble_eq_true rfl) rfl (es_w (fun wb10 eb10 gb10 => ?_))
  have o10 : wo wb10 25 11 [.int 0, .ref (mA 1), .ref (mA 2), .ref (mA 3), .ref (mA 4), .int 100, .ref (mA 6), .ref (mA 7), .ref (mA 8), .ref (mA 9), .ref (mA 10), .int 0, .null, .int 0, .null, .null, .null, .int 0, .null, .null, .null, .int 0, .int 0, .int 0, .int 0, .int 0, .int 0, .int 0, .int 0, .long 0, .long 0, .null, .int 0, .int 0] := ⟨by decide, eb10⟩
  have i10 := iv_step i9 ea10 ga10 gb10 rfl
  have f10 : ∀ v, v % 16 ≠ 9 → wb10 v = w v := fun v hv => (gb10 v (by rintro rfl; exact hv (by decide))).trans ((ga10 v (by rintro rfl; exact hv (by decide))).trans (f9 v hv))
  have i11 := iv_skip i10 rfl
  have o11 := o10
  have f11 := f10
  refine t_Mo_init_84 rfl (mA 12) (mA_16 _) (iv_no i11 (by omega)) (es_w (fun wa12 ea12 ga12 => ?_))
  refine t_Mo_init_89 rfl (wo_f o11 (ga12 25 (Ne.symm (mA_25 (by omega))))) (Nat.le_of_ble_eq_true rfl) rfl (es_w (fun wb12 eb12 gb12 => ?_))
  have o12 : wo wb12 25 11 [.int 0, .ref (mA 1), .ref (mA 2), .ref (mA 3), .ref (mA 4), .int 100, .ref (mA 6), .ref (mA 7), .ref (mA 8), .ref (mA 9), .ref (mA 10), .int 0, .ref (mA 12), .int 0, .null, .null, .null, .int 0, .null, .null, .null, .int 0, .int 0, .int 0, .int 0, .int 0, .int 0, .int 0, .int 0, .long 0, .long 0, .null, .int 0, .int 0] := ⟨by decide, eb12⟩
  have i12 := iv_step i11 ea12 ga12 gb12 rfl
  have f12 : ∀ v, v % 16 ≠ 9 → wb12 v = w v := fun v hv => (gb12 v (by rintro rfl; exact hv (by decide))).trans ((ga12 v (by rintro rfl; exact hv (by decide))).trans (f11 v hv))
  have i13 := iv_skip i12 rfl
  have o13 := o12
  have f13 := f12
  refine t_Mo_init_92 rfl (mA 14) (mA_16 _) (iv_no i13 (by omega)) (es_w (fun wa14 ea14 ga14 => ?_))
  refine t_Mo_init_97 rfl (wo_f o13 (ga14 25 (Ne.symm (mA_25 (by omega))))) (Nat.le_of_ble_eq_true rfl) rfl (es_w (fun wb14 eb14 gb14 => ?_))
  have o14 : wo wb14 25 11 [.int 0, .ref (mA 1), .ref (mA 2), .ref (mA 3), .ref (mA 4), .int 100, .ref (mA 6), .ref (mA 7), .ref (mA 8), .ref (mA 9), .ref (mA 10), .int 0, .ref (mA 12), .int 0, .ref (mA 14), .null, .null, .int 0, .null, .null, .null, .int 0, .int 0, .int 0, .int 0, .int 0, .int 0, .int 0, .int 0, .long 0, .long 0, .null, .int 0, .int 0] := ⟨by decide, eb14⟩
  have i14 := iv_step i13 ea14 ga14 gb14 rfl
  have f14 : ∀ v, v % 16 ≠ 9 → wb14 v = w v := fun v hv => (gb14 v (by rintro rfl; exact hv (by decide))).trans ((ga14 v (by rintro rfl; exact hv (by decide))).trans (f13 v hv))
  refine t_Mo_init_100 rfl (mA 15) (mA_16 _) (iv_no i14 (by omega)) (es_w (fun wa15 ea15 ga15 => ?_))
  refine t_Mo_init_105 rfl (wo_f o14 (ga15 25 (Ne.symm (mA_25 (by omega))))) (Nat.le_of_ble_eq_true rfl) rfl (es_w (fun wb15 eb15 gb15 => ?_))
  have o15 : wo wb15 25 11 [.int 0, .ref (mA 1), .ref (mA 2), .ref (mA 3), .ref (mA 4), .int 100, .ref (mA 6), .ref (mA 7), .ref (mA 8), .ref (mA 9), .ref (mA 10), .int 0, .ref (mA 12), .int 0, .ref (mA 14), .ref (mA 15), .null, .int 0, .null, .null, .null, .int 0, .int 0, .int 0, .int 0, .int 0, .int 0, .int 0, .int 0, .long 0, .long 0, .null, .int 0, .int 0] := ⟨by decide, eb15⟩
  have i15 := iv_step i14 ea15 ga15 gb15 rfl
  have f15 : ∀ v, v % 16 ≠ 9 → wb15 v = w v := fun v hv => (gb15 v (by rintro rfl; exact hv (by decide))).trans ((ga15 v (by rintro rfl; exact hv (by decide))).trans (f14 v hv))
  refine t_Mo_init_108 rfl (mA 16) (mA_16 _) (iv_no i15 (by omega)) (es_w (fun wa16 ea16 ga16 => ?_))
  refine t_Mo_init_113 rfl (wo_f o15 (ga16 25 (Ne.symm (mA_25 (by omega))))) (Nat.le_of_ble_eq_true rfl) rfl (es_w (fun wb16 eb16 gb16 => ?_))
  have o16 : wo wb16 25 11 [.int 0, .ref (mA 1), .ref (mA 2), .ref (mA 3), .ref (mA 4), .int 100, .ref (mA 6), .ref (mA 7), .ref (mA 8), .ref (mA 9), .ref (mA 10), .int 0, .ref (mA 12), .int 0, .ref (mA 14), .ref (mA 15), .ref (mA 16), .int 0, .null, .null, .null, .int 0, .int 0, .int 0, .int 0, .int 0, .int 0, .int 0, .int 0, .long 0, .long 0, .null, .int 0, .int 0] := ⟨by decide, eb16⟩
  have i16 := iv_step i15 ea16 ga16 gb16 rfl
  have f16 : ∀ v, v % 16 ≠ 9 → wb16 v = w v := fun v hv => (gb16 v (by rintro rfl; exact hv (by decide))).trans ((ga16 v (by rintro rfl; exact hv (by decide))).trans (f15 v hv))
  have i17 := iv_skip i16 rfl
  have o17 := o16
  have f17 := f16
  refine t_Mo_init_116 rfl (mA 18) (mA_16 _) (iv_no i17 (by omega)) (es_w (fun wa18 ea18 ga18 => ?_))
  refine t_Mo_init_121 rfl (wo_f o17 (ga18 25 (Ne.symm (mA_25 (by omega))))) (Nat.le_of_ble_eq_true rfl) rfl (es_w (fun wb18 eb18 gb18 => ?_))
  have o18 : wo wb18 25 11 [.int 0, .ref (mA 1), .ref (mA 2), .ref (mA 3), .ref (mA 4), .int 100, .ref (mA 6), .ref (mA 7), .ref (mA 8), .ref (mA 9), .ref (mA 10), .int 0, .ref (mA 12), .int 0, .ref (mA 14), .ref (mA 15), .ref (mA 16), .int 0, .ref (mA 18), .null, .null, .int 0, .int 0, .int 0, .int 0, .int 0, .int 0, .int 0, .int 0, .long 0, .long 0, .null, .int 0, .int 0] := ⟨by decide, eb18⟩
  have i18 := iv_step i17 ea18 ga18 gb18 rfl
  have f18 : ∀ v, v % 16 ≠ 9 → wb18 v = w v := fun v hv => (gb18 v (by rintro rfl; exact hv (by decide))).trans ((ga18 v (by rintro rfl; exact hv (by decide))).trans (f17 v hv))
  refine t_Mo_init_124 rfl (mA 19) (mA_16 _) (iv_no i18 (by omega)) (es_w (fun wa19 ea19 ga19 => ?_))
  refine t_Mo_init_129 rfl (wo_f o18 (ga19 25 (Ne.symm (mA_25 (by omega))))) (Nat.le_of_ble_eq_true rfl) rfl (es_w (fun wb19 eb19 gb19 => ?_))
  have o19 : wo wb19 25 11 [.int 0, .ref (mA 1), .ref (mA 2), .ref (mA 3), .ref (mA 4), .int 100, .ref (mA 6), .ref (mA 7), .ref (mA 8), .ref (mA 9), .ref (mA 10), .int 0, .ref (mA 12), .int 0, .ref (mA 14), .ref (mA 15), .ref (mA 16), .int 0, .ref (mA 18), .ref (mA 19), .null, .int 0, .int 0, .int 0, .int 0, .int 0, .int 0, .int 0, .int 0, .long 0, .long 0, .null, .int 0, .int 0] := ⟨by decide, eb19⟩
  have i19 := iv_step i18 ea19 ga19 gb19 rfl
  have f19 : ∀ v, v % 16 ≠ 9 → wb19 v = w v := fun v hv => (gb19 v (by rintro rfl; exact hv (by decide))).trans ((ga19 v (by rintro rfl; exact hv (by decide))).trans (f18 v hv))
  refine t_Mo_init_132 rfl (mA 20) (mA_16 _) (iv_no i19 (by omega)) (es_w (fun wa20 ea20 ga20 => ?_))
  refine t_Mo_init_136 rfl (wo_f o19 (ga20 25 (Ne.symm (mA_25 (by omega))))) (Nat.le_of_ble_eq_true rfl) rfl (es_w (fun wb20 eb20 gb20 => ?_))
  have o20 : wo wb20 25 11 [.int 0, .ref (mA 1), .ref (mA 2), .ref (mA 3), .ref (mA 4), .int 100, .ref (mA 6), .ref (mA 7), .ref (mA 8), .ref (mA 9), .ref (mA 10), .int 0, .ref (mA 12), .int 0, .ref (mA 14), .ref (mA 15), .ref (mA 16), .int 0, .ref (mA 18), .ref (mA 19), .ref (mA 20), .int 0, .int 0, .int 0, .int 0, .int 0, .int 0, .int 0, .int 0, .long 0, .long 0, .null, .int 0, .int 0] := ⟨by decide, eb20⟩
  have i20 := iv_step i19 ea20 ga20 gb20 rfl
  have f20 : ∀ v, v % 16 ≠ 9 → wb20 v = w v := fun v hv => (gb20 v (by rintro rfl; exact hv (by decide))).trans ((ga20 v (by rintro rfl; exact hv (by decide))).trans (f19 v hv))
  have i21 := iv_skip i20 rfl
  have o21 := o20
  have f21 := f20
  have i22 := iv_skip i21 rfl
  have o22 := o21
  have f22 := f21
  have i23 := iv_skip i22 rfl
  have o23 := o22
  have f23 := f22
  have i24 := iv_skip i23 rfl
  have o24 := o23
  have f24 := f23
  have i25 := iv_skip i24 rfl
  have o25 := o24
  have f25 := f24
  have i26 := iv_skip i25 rfl
  have o26 := o25
  have f26 := f25
  have i27 := iv_skip i26 rfl
  have o27 := o26
  have f27 := f26
  have i28 := iv_skip i27 rfl
  have o28 := o27
  have f28 := f27
  have i29 := iv_skip i28 rfl
  have o29 := o28
  have f29 := f28
  have i30 := iv_skip i29 rfl
  have o30 := o29
  have f30 := f29
  refine t_Mo_init_139 rfl (mA 31) (mA_16 _) (iv_no i30 (by omega)) (es_w (fun wa31 ea31 ga31 => ?_))
  refine t_Mo_init_144 rfl (wo_f o30 (ga31 25 (Ne.symm (mA_25 (by omega))))) (Nat.le_of_ble_eq_true rfl) rfl (es_w (fun wb31 eb31 gb31 => ?_))
  have o31 : wo wb31 25 11 [.int 0, .ref (mA 1), .ref (mA 2), .ref (mA 3), .ref (mA 4), .int 100, .ref (mA 6), .ref (mA 7), .ref (mA 8), .ref (mA 9), .ref (mA 10), .int 0, .ref (mA 12), .int 0, .ref (mA 14), .ref (mA 15), .ref (mA 16), .int 0, .ref (mA 18), .ref (mA 19), .ref (mA 20), .int 0, .int 0, .int 0, .int 0, .int 0, .int 0, .int 0, .int 0, .long 0, .long 0, .ref (mA 31), .int 0, .int 0] := ⟨by decide, eb31⟩
  have i31 := iv_step i30 ea31 ga31 gb31 rfl
  have f31 : ∀ v, v % 16 ≠ 9 → wb31 v = w v := fun v hv => (gb31 v (by rintro rfl; exact hv (by decide))).trans ((ga31 v (by rintro rfl; exact hv (by decide))).trans (f30 v hv))
  exact t_Mo_init_147 (hq _ f31 o31 i31 _ _ (by omega) (by omega))
end Mo23
