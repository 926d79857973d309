/-! ===== rules: stores, arrays, new ===== -/
section Heap2
variable {d : Nat} {M : qk_M} {pc : Nat} {L : List (Option Value)} {st : List Value} {w : qk_W} {nc ns : Nat} {Q : Option Value ⊕ Nat → qk_W → Nat → Nat → Prop}
theorem qk_fs_set {ρ : Nat → Nat} {fs : List Value} {k : Nat} {v : Value} (hl : k < fs.length) (j : Nat) : updV (vp_V (fs.map (qk_rv ρ))) k (qk_rv ρ v) j = vp_V ((fs.set k v).map (qk_rv ρ)) j := by
  rw [vp_updV_set (by rw [List.length_map]; exact hl), List.map_set]
theorem qk_ok_set {fs : List Value} {k ci : Nat} {v : Value} (hf : qk_okC w (.inr (ci, fs))) (hv : qk_ok w v) : qk_okC w (.inr (ci, fs.set k v)) := by
  intro x hx
  rcases List.mem_or_eq_of_mem_set hx with h | h
  · exact hf x h
  · rw [h]; exact hv
theorem ev_putf {idx ci k a : Nat} {fs : List Value} {v : Value} (hd : decode M.2.1 pc = .ok (.putfield idx, 3)) (hf : qk_fl M.1.cls idx ci k) (hfin : qk_ffin ci k = false) (ha : 16 ≤ a) (hw : w a = some (.inr (ci, fs))) (hl0 : k < fs.length) (hv : qk_fit (qk_fty ci k) v = true)
    (kk : Ev d M (pc + 3) L st (qk_set w a (.inr (ci, fs.set k v))) nc ns Q) : Ev d M pc L (v :: .ref a :: st) w nc ns Q := by
  refine ev_set (fun r w' kc ks hs p l e R s m args below meth c H locs cells slots G H0 ro ρ ls X hR hL hst hl hlo h1 h2 h3 h4 => ?_) kk
  obtain ⟨q, hc, hk, ho, hw2⟩ := hf
  obtain ⟨g1, g2, g3⟩ := hR.2.2.1 a _ ha hw
  obtain ⟨C, T, N⟩ := q
  have hts : ∀ x ∈ u_ws C T N, x.before args s = true := fun x hx => X.2.2.1.2.1 x (qk_lays hc x hx).1 (qk_lays hc x hx).2 args
  obtain ⟨y, hy, hty⟩ := qk_types hc
  have hK := X.2.2.1.1
  have hap := va_apart (own := M.1.cls) hts (fun _ h => h) y hty (qk_names hc) hK hc
  obtain ⟨r0, hr0, cell, q1, q2, q3, q4⟩ := g2
  have hr : r0 = (C, T, N) := Option.some.inj (hr0.symm.trans hc)
  subst hr
  obtain ⟨hS, hfc, kC, hkC, hkind⟩ := hK.1 ci _ hc
  obtain ⟨cf, kf, fi, f, hi, hsl⟩ := hS k hk
  have hlay := hts _ (u_in_lay hk)
  unfold u_lay at hlay
  rw [if_neg (by simp only [qk_ffin, hc] at hfin; rw [hfin]; decide)] at hlay
  have hst0 := (u_facts hfc hkC (u_lays hts (fun _ h => h) hk) hi).1
  obtain ⟨n1, n2⟩ := qk_fit_rv ρ hv
  simp only [qk_fty, hy] at n1 n2
  have h6 := u_store hfc hkC hkind hlay hi (hty k hk) n1 n2
  refine W.putK X.1.1 X.1.2.1 (f := f) ⟨X.1.2.2.2.2.1, X.2.2.1.2.1 _ hw2 rfl args, ⟨_, _, _, (by rw [ho] at hi; exact hi)⟩, hst0⟩ (by rw [q2]; exact h6) q1 q3 (by rw [hsl]; exact k2_hasslot (q4 k hk)) rfl rfl hd fun H' e1 e2 e3 => ?_
  rw [hsl] at e1 ⊢
  refine qk_Wm (fun t ht => qk_Em (fun u hu => ⟨rfl, qk_set_some hu⟩) (fun _ _ => rfl) ht) (hs p l e R s m args below meth c H' _ cells slots G H0 ro ρ ls X ?_ (fun q hq => qk_ok_mono (fun u hu => qk_set_some hu) (hL q hq)) (fun x hx => qk_ok_mono (fun u hu => qk_set_some hu) (qk_tl (qk_tl hst) x hx)) hl ?_ h1 h2 h3 h4)
  · refine qk_Rset hR ha (by rw [hw]; exact fun h => by cases h) e2 e3 ?_ (qk_ok_set g3 (qk_hd hst))
    exact ⟨_, hc, t_OB.to (V := updV (vp_V (fs.map (qk_rv ρ))) k (qk_rv ρ v)) ⟨_, e1, q2, q3, t_set q4 hap hk (qk_rv ρ v)⟩ (fun j _ => qk_fs_set hl0 j)⟩
  · intro z hz
    rcases List.mem_append.mp hz with h | h
    · exact hlo z h
    · rw [List.mem_singleton.mp h]; exact g1
theorem ev_putF {idx ci k a : Nat} {fs : List Value} {v : Value} (hd : decode M.2.1 pc = .ok (.putfield idx, 3)) (hf : qk_fl M.1.cls idx ci k) (hfin : qk_ffin ci k = true) (hini : M.1.name = "<init>") (hown : (qcl[ci]?.map (·.1)) = some M.1.cls) (ha : 16 ≤ a) (hw : w a = some (.inr (ci, fs))) (hl0 : k < fs.length) (hv : qk_fit (qk_fty ci k) v = true)
    (kk : Ev d M (pc + 3) L st (qk_set w a (.inr (ci, fs.set k v))) nc ns Q) : Ev d M pc L (v :: .ref a :: st) w nc ns Q := by
  refine ev_set (fun r w' kc ks hs p l e R s m args below meth c H locs cells slots G H0 ro ρ ls X hR hL hst hl hlo h1 h2 h3 h4 => ?_) kk
  obtain ⟨q, hc, hk, ho, hw2⟩ := hf
  obtain ⟨g1, g2, g3⟩ := hR.2.2.1 a _ ha hw
  obtain ⟨C, T, N⟩ := q
  have hts : ∀ x ∈ u_ws C T N, x.before args s = true := fun x hx => X.2.2.1.2.1 x (qk_lays hc x hx).1 (qk_lays hc x hx).2 args
  obtain ⟨y, hy, hty⟩ := qk_types hc
  have hK := X.2.2.1.1
  have hap := va_apart (own := M.1.cls) hts (fun _ h => h) y hty (qk_names hc) hK hc
  obtain ⟨r0, hr0, cell, q1, q2, q3, q4⟩ := g2
  have hr : r0 = (C, T, N) := Option.some.inj (hr0.symm.trans hc)
  subst hr
  obtain ⟨hS, hfc, kC, hkC, hkind⟩ := hK.1 ci _ hc
  obtain ⟨cf, kf, fi, f, hi, hsl⟩ := hS k hk
  have hlay := hts _ (u_in_lay hk)
  unfold u_lay at hlay
  rw [if_pos (by simp only [qk_ffin, hc] at hfin; exact hfin)] at hlay
  have hst0 := (u_facts hfc hkC (u_lays hts (fun _ h => h) hk) hi).1
  have hC : C = M.1.cls := by rw [hc] at hown; exact Option.some.inj hown
  have hcf : m.cls = cf := by
    obtain ⟨_, _, c', _, _, _, -, -, hf', -, -, -, hown2, -⟩ := Cond.laysFinal_spec hlay
    have e1 : c' = cf := by have := hi.symm.trans hf'; simp at this; exact this.1.symm
    rw [show (T k).1 = M.1.cls from ho.trans hC] at hown2
    rw [← e1]; exact Option.some.inj (X.1.2.2.2.2.1.symm.trans hown2)
  obtain ⟨n1, n2⟩ := qk_fit_rv ρ hv
  simp only [qk_fty, hy] at n1 n2
  have h6 := u_fits hfc hkC hkind (Or.inr hlay) hi (hty k hk) n1 n2
  refine W.putFinK X.1.1 X.1.2.1 X.1.2.2.2.2.1 (X.2.2.1.2.1 _ hw2 rfl args) (f := f) (by rw [ho] at hi; exact hi) hst0 hcf (X.1.2.2.2.2.2.2.1.trans hini) (by rw [q2]; exact h6) q1 q3 (by rw [hsl]; exact k2_hasslot (q4 k hk)) rfl rfl hd fun H' e1 e2 e3 => ?_
  rw [hsl] at e1 ⊢
  refine qk_Wm (fun t ht => qk_Em (fun u hu => ⟨rfl, qk_set_some hu⟩) (fun _ _ => rfl) ht) (hs p l e R s m args below meth c H' _ cells slots G H0 ro ρ ls X ?_ (fun q hq => qk_ok_mono (fun u hu => qk_set_some hu) (hL q hq)) (fun x hx => qk_ok_mono (fun u hu => qk_set_some hu) (qk_tl (qk_tl hst) x hx)) hl ?_ h1 h2 h3 h4)
  · refine qk_Rset hR ha (by rw [hw]; exact fun h => by cases h) e2 e3 ?_ (qk_ok_set g3 (qk_hd hst))
    exact ⟨_, hc, t_OB.to (V := updV (vp_V (fs.map (qk_rv ρ))) k (qk_rv ρ v)) ⟨_, e1, q2, q3, t_set q4 hap hk (qk_rv ρ v)⟩ (fun j _ => qk_fs_set hl0 j)⟩
  · intro z hz
    rcases List.mem_append.mp hz with h | h
    · exact hlo z h
    · rw [List.mem_singleton.mp h]; exact g1
/-! arrays: reads -/
theorem qk_ty {E : FieldType → ClassId} {ty : FieldType} (h : ty ∈ qk_tyl) : ∃ t0 : Nat, (qk_tys E)[t0]? = some (E ty, ty) := List.getElem?_of_mem (List.mem_map.mpr ⟨ty, h, rfl⟩)
theorem qk_P1 {D : va_G} {q : Nat × va_E} {H : Heap} (h : va_at D qcl q H) : va_P D qcl [q] H := by
  intro k0 q0 h0
  have : k0 = 0 := by
    have := (List.getElem?_eq_some_iff.mp h0).1
    simp at this; omega
  subst this
  cases h0
  exact h
theorem ev_iald {a n : Nat} {f : Nat → Int32} {i : Int32} (hd : decode M.2.1 pc = .ok (.iaload, 1)) (hw : w a = some (.inl (.int, n, .inl f))) (hin : vp_in i n) (kk : Ev d M (pc + 1) L (.int (f i.toNatClampNeg) :: st) w nc ns Q) : Ev d M pc L (.int i :: .ref a :: st) w nc ns Q := by
  refine ev_of (fun r w' kc ks hs p l e R s m args below meth c H locs cells slots G H0 ro ρ ls X hR hL hst hl hlo h1 h2 h3 h4 => ?_) kk
  have k2 := hs p l e R s m args below meth c H locs cells slots G H0 ro ρ ls X hR hL (qk_cons (v := .int (f i.toNatClampNeg)) trivial (qk_tl (qk_tl hst))) hl hlo h1 h2 h3 h4
  by_cases ha : 16 ≤ a
  · obtain ⟨g1, g2, g3⟩ := hR.2.2.1 a _ ha hw
    obtain ⟨t0, ht0⟩ := qk_ty (E := G.2) (ty := .int) (by decide)
    exact va_iald X.1.1 X.1.2.1 X.2.2.1.1 (qk_P1 g2) 0 t0 rfl ht0 hin hd k2
  · have h5 := hR.2.1 a (by omega)
    rw [hw] at h5
    cases hro : ro a with
    | none => rw [hro] at h5; cases h5
    | some z =>
      rw [hro] at h5
      cases h5
      obtain ⟨b1, b2, b3⟩ := X.2.2.1.2.2.2.2 a z.1 z.2 hro
      obtain ⟨cell, c1, c2, c3, c4, c5, c6, c7⟩ := b3
      have hlt : i.toNatClampNeg < z.1 := Nat.not_le.mp fun q => hin (Or.inr q)
      exact W.iald (v := .int (z.2 i.toNatClampNeg)) X.1.1 X.1.2.1 (by rw [hR.1.2.1 _ b2]; exact c1) c2 c3 (fun h => h.elim (fun h => hin (Or.inl h)) (fun h => by omega)) (c6 _ hlt) rfl rfl hd k2
theorem ev_bald {a n : Nat} {f : Nat → Int32} {i : Int32} (hd : decode M.2.1 pc = .ok (.baload, 1)) (ha : 16 ≤ a) (hw : w a = some (.inl (.byte, n, .inl f))) (hin : vp_in i n) (kk : Ev d M (pc + 1) L (.int (f i.toNatClampNeg) :: st) w nc ns Q) : Ev d M pc L (.int i :: .ref a :: st) w nc ns Q := by
  refine ev_of (fun r w' kc ks hs p l e R s m args below meth c H locs cells slots G H0 ro ρ ls X hR hL hst hl hlo h1 h2 h3 h4 => ?_) kk
  have k2 := hs p l e R s m args below meth c H locs cells slots G H0 ro ρ ls X hR hL (qk_cons (v := .int (f i.toNatClampNeg)) trivial (qk_tl (qk_tl hst))) hl hlo h1 h2 h3 h4
  obtain ⟨g1, g2, g3⟩ := hR.2.2.1 a _ ha hw
  obtain ⟨t0, ht0⟩ := qk_ty (E := G.2) (ty := .byte) (by decide)
  exact va_bald X.1.1 X.1.2.1 X.2.2.1.1 (qk_P1 g2) 0 t0 rfl ht0 hin hd k2
theorem ev_zald {a n : Nat} {f : Nat → Int32} {i : Int32} (hd : decode M.2.1 pc = .ok (.baload, 1)) (ha : 16 ≤ a) (hw : w a = some (.inl (.boolean, n, .inl f))) (hin : vp_in i n) (kk : Ev d M (pc + 1) L (.int (f i.toNatClampNeg) :: st) w nc ns Q) : Ev d M pc L (.int i :: .ref a :: st) w nc ns Q := by
  refine ev_of (fun r w' kc ks hs p l e R s m args below meth c H locs cells slots G H0 ro ρ ls X hR hL hst hl hlo h1 h2 h3 h4 => ?_) kk
  have k2 := hs p l e R s m args below meth c H locs cells slots G H0 ro ρ ls X hR hL (qk_cons (v := .int (f i.toNatClampNeg)) trivial (qk_tl (qk_tl hst))) hl hlo h1 h2 h3 h4
  obtain ⟨g1, g2, g3⟩ := hR.2.2.1 a _ ha hw
  obtain ⟨t0, ht0⟩ := qk_ty (E := G.2) (ty := .boolean) (by decide)
  exact va_zald X.1.1 X.1.2.1 X.2.2.1.1 (qk_P1 g2) 0 t0 rfl ht0 hin hd k2
theorem ev_lald {a n : Nat} {f : Nat → Int64} {i : Int32} (hd : decode M.2.1 pc = .ok (.laload, 1)) (ha : 16 ≤ a) (hw : w a = some (.inl (.long, n, .inr (.inl f)))) (hin : vp_in i n) (kk : Ev d M (pc + 1) L (.long (f i.toNatClampNeg) :: st) w nc ns Q) : Ev d M pc L (.int i :: .ref a :: st) w nc ns Q := by
  refine ev_of (fun r w' kc ks hs p l e R s m args below meth c H locs cells slots G H0 ro ρ ls X hR hL hst hl hlo h1 h2 h3 h4 => ?_) kk
  have k2 := hs p l e R s m args below meth c H locs cells slots G H0 ro ρ ls X hR hL (qk_cons (v := .long (f i.toNatClampNeg)) trivial (qk_tl (qk_tl hst))) hl hlo h1 h2 h3 h4
  obtain ⟨g1, g2, g3⟩ := hR.2.2.1 a _ ha hw
  obtain ⟨t0, ht0⟩ := qk_ty (E := G.2) (ty := .long) (by decide)
  exact va_lald X.1.1 X.1.2.1 X.2.2.1.1 (qk_P1 g2) 0 t0 rfl ht0 hin hd k2
theorem ev_aald {a n : Nat} {C : String} {f : Nat → Option Nat} {i : Int32} (hd : decode M.2.1 pc = .ok (.aaload, 1)) (ha : 16 ≤ a) (hC : .object C ∈ qk_tyl) (hw : w a = some (.inl (.object C, n, .inr (.inr (.inr (.inr f)))))) (hin : vp_in i n) (kk : Ev d M (pc + 1) L (va_rf (f i.toNatClampNeg) :: st) w nc ns Q) : Ev d M pc L (.int i :: .ref a :: st) w nc ns Q := by
  refine ev_of (fun r w' kc ks hs p l e R s m args below meth c H locs cells slots G H0 ro ρ ls X hR hL hst hl hlo h1 h2 h3 h4 => ?_) kk
  obtain ⟨g1, g2, g3⟩ := hR.2.2.1 a _ ha hw
  have hok : qk_ok w (va_rf (f i.toNatClampNeg)) := by
    cases hf : f i.toNatClampNeg with
    | none => exact trivial
    | some b => exact g3 _ b hf
  have k2 := hs p l e R s m args below meth c H locs cells slots G H0 ro ρ ls X hR hL (qk_cons hok (qk_tl (qk_tl hst))) hl hlo h1 h2 h3 h4
  obtain ⟨t0, ht0⟩ := qk_ty (E := G.2) hC
  refine va_aldq X.1.1 X.1.2.1 X.2.2.1.1 (qk_P1 g2) 0 t0 rfl ht0 hin hd ?_
  have : va_rf ((f i.toNatClampNeg).map ρ) = qk_rv ρ (va_rf (f i.toNatClampNeg)) := by cases f i.toNatClampNeg <;> rfl
  rw [this]
  exact k2
theorem ev_alen {a : Nat} {ty : FieldType} {x : vp_A} {v : Int32} (hd : decode M.2.1 pc = .ok (.arraylength, 1)) (hT : ty ∈ qk_tyl) (hw : w a = some (.inl (ty, x))) (hv : Int32.ofNat x.1 = v) (kk : Ev d M (pc + 1) L (.int v :: st) w nc ns Q) : Ev d M pc L (.ref a :: st) w nc ns Q := by
  refine ev_of (fun r w' kc ks hs p l e R s m args below meth c H locs cells slots G H0 ro ρ ls X hR hL hst hl hlo h1 h2 h3 h4 => ?_) kk
  have k2 := hs p l e R s m args below meth c H locs cells slots G H0 ro ρ ls X hR hL (qk_cons (v := .int v) trivial (qk_tl hst)) hl hlo h1 h2 h3 h4
  by_cases ha : 16 ≤ a
  · obtain ⟨g1, g2, g3⟩ := hR.2.2.1 a _ ha hw
    obtain ⟨t0, ht0⟩ := qk_ty (E := G.2) hT
    have e1 : (qk_ra ρ x).1 = x.1 := by
      obtain ⟨n, z⟩ := x
      rcases z with f | f | f | f | f <;> rfl
    exact va_alen X.1.1 X.1.2.1 X.2.2.1.1 (qk_P1 g2) 0 t0 rfl ht0 (by rw [e1]; exact hv) hd k2
  · have h5 := hR.2.1 a (by omega)
    rw [hw] at h5
    cases hro : ro a with
    | none => rw [hro] at h5; cases h5
    | some z =>
      rw [hro] at h5
      cases h5
      subst hv
      obtain ⟨b1, b2, b3⟩ := X.2.2.1.2.2.2.2 a z.1 z.2 hro
      obtain ⟨cell, c1, c2, c3, c4, c5, c6, c7⟩ := b3
      exact W.alen X.1.1 X.1.2.1 (by rw [hR.1.2.1 _ b2]; exact c1) c2 c5 rfl rfl hd k2
end Heap2
