/-! ===== the law's start: the claim out of one Ev of the law's body ===== -/
theorem qk_wm1 {s U : State} (hW : s.WarmedH U.vm) {w : Cond} (h1 : qk_gw w = true) {A a : Array Value} (h2 : w.before A s = true) : w.before a U = true := by
  cases w with
  | fieldLinkNest b i c n d h => exact va_tabs rfl (rfl : (s.setVm U.vm).vm = U.vm) (Cond.fieldLinkNest_warmed (args := A) hW h2)
  | methodLinkNest b i c n => exact va_tabs rfl (rfl : (s.setVm U.vm).vm = U.vm) (Cond.methodLinkNest_warmed (args := A) hW h2)
  | castable c t => exact va_tabs rfl (rfl : (s.setVm U.vm).vm = U.vm) (by rw [Cond.castable_setVm (args := A) hW.alike]; exact h2)
  | declares x => exact va_tabs rfl (rfl : (s.setVm U.vm).vm = U.vm) (by rw [Cond.declares_setVm (args := A) hW.alike]; exact h2)
  | stringRef c i t =>
    have h3 := Cond.stringRef_warmed (args := A) hW h2
    first
      | exact va_tabs rfl (rfl : (s.setVm U.vm).vm = U.vm) h3
      | (simp only [Cond.before, Cond.holds, Cond.value, State.names, State.poolOf?, State.resolvedAt?] at h3 ⊢; exact h3)
  | arrayOver t => cases t with
    | object C => exact va_AO.use (va_AO.moved hW.alike (va_AO.of h2))
    | _ => cases h1
  | _ => exact word_at hW (good_of_word h1) h2
theorem qk_ws0 {s : State} {A : Array Value} (h : ∀ w ∈ lw_tbl, w.before A s = true) : qk_ws s := fun w hw h1 _ => qk_wm1 (State.WarmedH.refl s) h1 (h w hw)
theorem qk_D {s : State} (hws : qk_ws s) : ∃ D : va_G, ∀ (c : Nat) (q : vw_C), qcl[c]? = some q → u_Kn s q.1 q.2.1 q.2.2 (D.1 c) (D.2 c) := by
  have key : ∀ c : Nat, ∃ (cC : ClassId) (iS : Nat → Nat), ∀ q : vw_C, qcl[c]? = some q → u_Kn s q.1 q.2.1 q.2.2 cC iS := by
    intro c
    cases hc : qcl[c]? with
    | none => exact ⟨0, fun _ => 0, fun q h => by cases h⟩
    | some q =>
      have hci : c < 15 := (List.getElem?_eq_some_iff.mp hc).1
      have h1 := List.all_eq_true.mp qcl_in c (List.mem_range.mpr hci)
      rw [hc] at h1
      cases hx : qni[c]? with
      | none => rw [hx] at h1; cases h1
      | some z =>
        rw [hx] at h1
        simp only [Bool.and_eq_true, decide_eq_true_eq] at h1
        obtain ⟨cC, iS, h⟩ := u_known (C := q.1) (T := q.2.1) (N := q.2.2) (n := z.1) (ws := u_ws q.1 q.2.1 q.2.2) (args := #[]) (fun w hw => hws w (qk_lays hc w hw).1 (qk_lays hc w hw).2 #[]) (fun _ h => h) (hws _ (List.mem_of_getElem? h1.1.1) rfl #[])
        exact ⟨cC, iS, fun q' hq' => by cases hq'; exact h⟩
  exact ⟨(fun c => Classical.choose (key c), fun c => Classical.choose (Classical.choose_spec (key c))), fun c q hq => Classical.choose_spec (Classical.choose_spec (key c)) q hq⟩
theorem qk_Ety {s : State} (hws : qk_ws s) : ∃ E : FieldType → ClassId, ∀ ty ∈ qk_tyl, ArrOfT s (E ty) ty ∧ va_RA s (E ty) ty := by
  have prim : ∀ ty, (∀ C, ty ≠ .object C) → Cond.arrayClass ty ∈ lw_tbl → ∃ c, ArrOfT s c ty ∧ va_RA s c ty := by
    intro ty hp hw
    obtain ⟨c, k, comp, h1, h2, h3⟩ := Cond.arrayClass_spec (hws _ hw rfl #[])
    refine ⟨c, fun n z => ⟨fun k h => (by cases h), k, h2, comp, h3⟩, ?_⟩
    cases ty <;> first | exact h1 | exact absurd rfl (hp _)
  have obj : ∀ C, Cond.arrayOver (.object C) ∈ lw_tbl → ∃ c, ArrOfT s c (.object C) ∧ va_RA s c (.object C) := by
    intro C hw
    obtain ⟨comp, c, k, h1, -, h2, h3, h4⟩ := Cond.arrayOver_spec (hws _ hw rfl #[])
    exact ⟨c, fun n z => ⟨fun k h => (by cases h), k, h2, comp, h3⟩, k, comp, h2, h3, h1, h4⟩
  have key : ∀ ty, ∃ c, ty ∈ qk_tyl → ArrOfT s c ty ∧ va_RA s c ty := by
    intro ty
    by_cases h : ty ∈ qk_tyl
    · simp only [qk_tyl, List.mem_cons, List.not_mem_nil, or_false] at h
      have h9 : ∃ c, ArrOfT s c ty ∧ va_RA s c ty := by
        rcases h with rfl | rfl | rfl | rfl | rfl | rfl | rfl | rfl | rfl
        · exact prim _ (fun C h => by cases h) (lw_i1 _ (List.mem_of_getElem? (i := 57) rfl))
        · exact prim _ (fun C h => by cases h) (lw_i2 _ (List.mem_of_getElem? (i := 6) rfl))
        · exact prim _ (fun C h => by cases h) (lw_i5 _ (List.mem_of_getElem? (i := 39) rfl))
        · exact prim _ (fun C h => by cases h) (lw_i5 _ (List.mem_of_getElem? (i := 228) rfl))
        · exact obj _ (lw_i1 _ (List.mem_of_getElem? (i := 37) rfl))
        · exact obj _ (lw_i1 _ (List.mem_of_getElem? (i := 59) rfl))
        · exact obj _ (lw_i1 _ (List.mem_of_getElem? (i := 111) rfl))
        · exact obj _ (lw_i1 _ (List.mem_of_getElem? (i := 127) rfl))
        · exact obj _ (lw_i1 _ (List.mem_of_getElem? (i := 136) rfl))
      obtain ⟨c, hc⟩ := h9
      exact ⟨c, fun _ => hc⟩
    · exact ⟨0, fun h' => absurd h' h⟩
  exact ⟨fun ty => Classical.choose (key ty), fun ty h => Classical.choose_spec (key ty) h⟩
def qk_wid : List Int32 := [0, 4, 6, 8, 10, 12, 16, 20, 24, 32]
def qk_chk : List Int32 := [0, 498536548, 997073096, 651767980, 1994146192, 1802195444, 1303535960, 1342533948, -306674912, -267414716, -690576408, -882789492, -1687895376, -2032938284, -1609899400, -1111625188]
/-- the law's world at its start -/
def qk_w0 (n : Nat) (xs : Nat → Int32) : qk_W := fun v => match v with
  | 0 => some (.inl (.int, n, .inl xs))
  | 1 => some (.inl (.int, 10, .inl (fun j => qk_wid.getD j 0)))
  | 2 => some (.inl (.int, 16, .inl (fun j => qk_chk.getD j 0)))
  | _ => none
def qk_ro (n : Nat) (xs : Nat → Int32) : qk_O := fun v => match v with
  | 0 => some (n, xs)
  | 1 => some (10, fun j => qk_wid.getD j 0)
  | 2 => some (16, fun j => qk_chk.getD j 0)
  | _ => none
theorem qk_stat {s : State} {A : Array Value} {f : String} {N : Nat} {tab : List Int32} (hN : N < 2 ^ 31) (hl : (Cond.laysStatic "QuakeLink" f "[I").before A s = true) (hini : (Cond.initialized "QuakeLink").before A s = true) (harr : (Cond.arrayOf (.static "QuakeLink" f "[I") .int).before A s = true) (hlen : (Cond.eq (.length (.static "QuakeLink" f "[I")) (.int (Int32.ofNat N))).before A s = true)
    (hel : ∀ j, j < N → (Cond.eq (.elem (.static "QuakeLink" f "[I") (.int (Int32.ofNat j))) (.int (tab.getD j 0))).before A s = true) :
    ∃ t, t < s.heap.size ∧ va_Z "QuakeLink" f "[I" (.ref t) (fun q => s.heap.size ≤ q) s s.heap ∧ va_T .int t N (fun j => .int (tab.getD j 0)) (fun q => s.heap.size ≤ q) s s.heap := by
  obtain ⟨t, h1, h2⟩ := va_Tof (A := fun q => s.heap.size ≤ q) hN harr (va_eqt hlen) (fun j hj => va_eqt (hel j hj)) (fun a ha h => by omega)
  refine ⟨t, ?_, va_Zof hl hini h1 (fun a ha h => by omega), h2⟩
  obtain ⟨cell, c1, -⟩ := h2
  exact (Array.getElem?_eq_some_iff.mp c1).1
theorem qk_sfof {s : State} {A : Array Value} {n d : String} {t : FieldType} (ht : parseFieldDescriptor d = some t) (hl : (Cond.laysStatic "java/lang/Throwable" n d).before A s = true) (hr : (Cond.isRef (.static "java/lang/Throwable" n d)).before A s = true) : qk_sf n d s s.heap := by
  obtain ⟨c, k, i, fd, a, cell, hc, hf, hst, hsta, hcell, hiss, hcls, hlt, hty⟩ := Cond.laysStatic_spec hl
  obtain ⟨v, hv, hvr⟩ := Cond.isRef_spec hr
  obtain ⟨hst', a', cell', ha', hcell', -, hslot⟩ := Term.static_spec hf hv
  cases hsta.symm.trans ha'
  cases hcell.symm.trans hcell'
  exact ⟨c, k, i, fd, a, cell, v, hc, hf, hst, hsta, hcell, hiss, hcls, hlt, hty, hslot, hvr⟩
