/-! ===== rules: array stores, new, statics ===== -/
section Heap3
variable {d : Nat} {M : qk_M} {pc : Nat} {L : List (Option Value)} {st : List Value} {w : qk_W} {nc ns : Nat} {Q : Option Value ⊕ Nat → qk_W → Nat → Nat → Prop}
theorem qk_lo1 {H0 : Heap} {locs : List Loc} {z : Loc} (h : ∀ q ∈ locs, H0.size ≤ q.base) (hz : H0.size ≤ z.base) : ∀ q ∈ locs ++ [z], H0.size ≤ q.base := by
  intro q hq
  rcases List.mem_append.mp hq with h1 | h1
  · exact h q h1
  · rw [List.mem_singleton.mp h1]; exact hz
theorem ev_iast {a n : Nat} {f : Nat → Int32} {i x : Int32} (hd : decode M.2.1 pc = .ok (.iastore, 1)) (ha : 16 ≤ a) (hw : w a = some (.inl (.int, n, .inl f))) (hin : vp_in i n) (kk : Ev d M (pc + 1) L st (qk_set w a (.inl (.int, n, .inl (upd f i.toNatClampNeg x)))) nc ns Q) : Ev d M pc L (.int x :: .int i :: .ref a :: st) w nc ns Q := by
  refine ev_set (fun r w' kc ks hs p l e R s m args below meth c H locs cells slots G H0 ro ρ ls X hR hL hst hl hlo h1 h2 h3 h4 => ?_) kk
  obtain ⟨g1, g2, g3⟩ := hR.2.2.1 a _ ha hw
  obtain ⟨t0, ht0⟩ := qk_ty (E := G.2) (ty := .int) (by decide)
  refine W.iast X.1.1 X.1.2.1 g2 ((X.2.2.1.1.2 t0 _ ht0).1 n (fun j => .int (f j))) (fun q => by cases q) (by show ¬ (i < 0 ∨ (arrV _ _ _).slots.size ≤ _); rw [arrV_size]; exact hin) rfl rfl hd fun H1 e1 z oq => ?_
  refine qk_Wm (fun t ht => qk_Em (fun u hu => ⟨rfl, qk_set_some hu⟩) (fun _ _ => rfl) ht) (hs p l e R s m args below meth c H1 _ cells slots G H0 ro ρ ls X ?_ (fun q hq => qk_ok_mono (fun u hu => qk_set_some hu) (hL q hq)) (fun x hx => qk_ok_mono (fun u hu => qk_set_some hu) (qk_tl (qk_tl (qk_tl hst)) x hx)) hl (qk_lo1 hlo g1) h1 h2 h3 h4)
  refine qk_Rset hR ha (by rw [hw]; exact fun h => by cases h) z oq ?_ trivial
  show H1[ρ a]? = some (vp_cell _ _)
  rw [e1]
  show some ((vp_cell (G.2 .int) (n, Sum.inl f)).setSlot _ _) = some (vp_cell (G.2 .int) (n, Sum.inl _))
  rw [vp_cell_i, vp_cell_i, arrV_store]
  congr 2
  funext q
  by_cases hq : q = i.toNatClampNeg
  · subst hq
    simp [updV, upd]
  · simp [updV, upd, hq]
theorem ev_bast {a n : Nat} {f : Nat → Int32} {i x : Int32} (hd : decode M.2.1 pc = .ok (.bastore, 1)) (ha : 16 ≤ a) (hw : w a = some (.inl (.byte, n, .inl f))) (hin : vp_in i n) (kk : Ev d M (pc + 1) L st (qk_set w a (.inl (.byte, n, .inl (upd f i.toNatClampNeg x.toInt8.toInt32)))) nc ns Q) : Ev d M pc L (.int x :: .int i :: .ref a :: st) w nc ns Q := by
  refine ev_set (fun r w' kc ks hs p l e R s m args below meth c H locs cells slots G H0 ro ρ ls X hR hL hst hl hlo h1 h2 h3 h4 => ?_) kk
  obtain ⟨g1, g2, g3⟩ := hR.2.2.1 a _ ha hw
  obtain ⟨t0, ht0⟩ := qk_ty (E := G.2) (ty := .byte) (by decide)
  refine W.bast X.1.1 X.1.2.1 g2 ((X.2.2.1.1.2 t0 _ ht0).1 n (fun j => .int (f j))) (fun q => by cases q) (by show ¬ (i < 0 ∨ (arrV _ _ _).slots.size ≤ _); rw [arrV_size]; exact hin) rfl rfl hd fun H1 e1 z oq => ?_
  refine qk_Wm (fun t ht => qk_Em (fun u hu => ⟨rfl, qk_set_some hu⟩) (fun _ _ => rfl) ht) (hs p l e R s m args below meth c H1 _ cells slots G H0 ro ρ ls X ?_ (fun q hq => qk_ok_mono (fun u hu => qk_set_some hu) (hL q hq)) (fun x hx => qk_ok_mono (fun u hu => qk_set_some hu) (qk_tl (qk_tl (qk_tl hst)) x hx)) hl (qk_lo1 hlo g1) h1 h2 h3 h4)
  refine qk_Rset hR ha (by rw [hw]; exact fun h => by cases h) z oq ?_ trivial
  show H1[ρ a]? = some (vp_cell _ _)
  rw [e1]
  show some ((vp_cell (G.2 .byte) (n, Sum.inl f)).setSlot _ _) = some (vp_cell (G.2 .byte) (n, Sum.inl _))
  rw [vp_cell_i, vp_cell_i, arrV_store]
  congr 2
  funext q
  by_cases hq : q = i.toNatClampNeg
  · subst hq
    simp [updV, upd, narrow]
  · simp [updV, upd, hq]
theorem ev_zast {a n : Nat} {f : Nat → Int32} {i x : Int32} (hd : decode M.2.1 pc = .ok (.bastore, 1)) (ha : 16 ≤ a) (hw : w a = some (.inl (.boolean, n, .inl f))) (hin : vp_in i n) (hx : narrow .boolean (.int x) = .int x) (kk : Ev d M (pc + 1) L st (qk_set w a (.inl (.boolean, n, .inl (upd f i.toNatClampNeg x)))) nc ns Q) : Ev d M pc L (.int x :: .int i :: .ref a :: st) w nc ns Q := by
  refine ev_set (fun r w' kc ks hs p l e R s m args below meth c H locs cells slots G H0 ro ρ ls X hR hL hst hl hlo h1 h2 h3 h4 => ?_) kk
  obtain ⟨g1, g2, g3⟩ := hR.2.2.1 a _ ha hw
  obtain ⟨t0, ht0⟩ := qk_ty (E := G.2) (ty := .boolean) (by decide)
  refine W.zast X.1.1 X.1.2.1 g2 ((X.2.2.1.1.2 t0 _ ht0).1 n (fun j => .int (f j))) (fun q => by cases q) (by show ¬ (i < 0 ∨ (arrV _ _ _).slots.size ≤ _); rw [arrV_size]; exact hin) rfl rfl hd fun H1 e1 z oq => ?_
  refine qk_Wm (fun t ht => qk_Em (fun u hu => ⟨rfl, qk_set_some hu⟩) (fun _ _ => rfl) ht) (hs p l e R s m args below meth c H1 _ cells slots G H0 ro ρ ls X ?_ (fun q hq => qk_ok_mono (fun u hu => qk_set_some hu) (hL q hq)) (fun x hx => qk_ok_mono (fun u hu => qk_set_some hu) (qk_tl (qk_tl (qk_tl hst)) x hx)) hl (qk_lo1 hlo g1) h1 h2 h3 h4)
  refine qk_Rset hR ha (by rw [hw]; exact fun h => by cases h) z oq ?_ trivial
  show H1[ρ a]? = some (vp_cell _ _)
  rw [e1, hx]
  show some ((vp_cell (G.2 .boolean) (n, Sum.inl f)).setSlot _ _) = some (vp_cell (G.2 .boolean) (n, Sum.inl _))
  rw [vp_cell_i, vp_cell_i, arrV_store]
  congr 2
  funext q
  by_cases hq : q = i.toNatClampNeg
  · subst hq
    simp [updV, upd]
  · simp [updV, upd, hq]
theorem ev_last {a n : Nat} {f : Nat → Int64} {i : Int32} {x : Int64} (hd : decode M.2.1 pc = .ok (.lastore, 1)) (ha : 16 ≤ a) (hw : w a = some (.inl (.long, n, .inr (.inl f)))) (hin : vp_in i n) (kk : Ev d M (pc + 1) L st (qk_set w a (.inl (.long, n, .inr (.inl (vp_updL f i.toNatClampNeg x))))) nc ns Q) : Ev d M pc L (.long x :: .int i :: .ref a :: st) w nc ns Q := by
  refine ev_set (fun r w' kc ks hs p l e R s m args below meth c H locs cells slots G H0 ro ρ ls X hR hL hst hl hlo h1 h2 h3 h4 => ?_) kk
  obtain ⟨g1, g2, g3⟩ := hR.2.2.1 a _ ha hw
  obtain ⟨t0, ht0⟩ := qk_ty (E := G.2) (ty := .long) (by decide)
  refine W.last X.1.1 X.1.2.1 g2 ((X.2.2.1.1.2 t0 _ ht0).1 n (fun j => .long (f j))) (fun q => by cases q) (by show ¬ (i < 0 ∨ (arrV _ _ _).slots.size ≤ _); rw [arrV_size]; exact hin) rfl rfl hd fun H1 e1 z oq => ?_
  refine qk_Wm (fun t ht => qk_Em (fun u hu => ⟨rfl, qk_set_some hu⟩) (fun _ _ => rfl) ht) (hs p l e R s m args below meth c H1 _ cells slots G H0 ro ρ ls X ?_ (fun q hq => qk_ok_mono (fun u hu => qk_set_some hu) (hL q hq)) (fun x hx => qk_ok_mono (fun u hu => qk_set_some hu) (qk_tl (qk_tl (qk_tl hst)) x hx)) hl (qk_lo1 hlo g1) h1 h2 h3 h4)
  refine qk_Rset hR ha (by rw [hw]; exact fun h => by cases h) z oq ?_ trivial
  show H1[ρ a]? = some (vp_cell _ _)
  rw [e1]
  show some ((vp_cell (G.2 .long) (n, Sum.inr (Sum.inl f))).setSlot _ _) = some (vp_cell (G.2 .long) (n, Sum.inr (Sum.inl _)))
  rw [vp_cell_l, vp_cell_l, arrV_store]
  congr 2
  funext q
  by_cases hq : q = i.toNatClampNeg
  · subst hq
    simp [updV, vp_updL]
  · simp [updV, vp_updL, hq]
theorem ev_aast {a n v ci : Nat} {r0 : vw_C} {vs : List Value} {f : Nat → Option Nat} {i : Int32} (hd : decode M.2.1 pc = .ok (.aastore, 1)) (ha : 16 ≤ a) (hv16 : 16 ≤ v) (hc : qcl[ci]? = some r0) (hC : .object r0.1 ∈ qk_tyl) (hw : w a = some (.inl (.object r0.1, n, .inr (.inr (.inr (.inr f)))))) (hv : w v = some (.inr (ci, vs))) (hin : vp_in i n)
    (kk : Ev d M (pc + 1) L st (qk_set w a (.inl (.object r0.1, n, .inr (.inr (.inr (.inr (va_up f i.toNatClampNeg (some v)))))))) nc ns Q) : Ev d M pc L (.ref v :: .int i :: .ref a :: st) w nc ns Q := by
  refine ev_set (fun r w' kc ks hs p l e R s m args below meth c H locs cells slots G H0 ro ρ ls X hR hL hst hl hlo h1 h2 h3 h4 => ?_) kk
  obtain ⟨g1, g2, g3⟩ := hR.2.2.1 a _ ha hw
  obtain ⟨t0, ht0⟩ := qk_ty (E := G.2) hC
  have hlt : i.toNatClampNeg < n := Nat.not_le.mp fun q => hin (Or.inr q)
  have h0 : ¬ i < 0 := fun q => hin (Or.inl q)
  obtain ⟨v1, v2, v3⟩ := hR.2.2.1 v _ hv16 hv
  obtain ⟨r', hr', cellV, f1, f2, f3, -⟩ := v2
  have hcls := (X.2.2.1.1.1 ci r0 hc).2
  obtain ⟨kA, comp, k1, k2, k3, -⟩ := (X.2.2.1.1.2 t0 _ ht0).2
  have hcomp : comp = G.1.1 ci := Option.some.inj (k3.symm.trans hcls.1)
  subst hcomp
  obtain ⟨kC, hkC, -⟩ := hcls.2
  refine W.aast X.1.1 X.1.2.1 g2 (fun q h => by cases h) (fun h => by cases h) k1 k2 rfl hkC ⟨h0, by show _ < (arrV _ _ _).slots.size; rw [arrV_size]; exact hlt⟩ f1 (fun q h => by rw [f3] at h; cases h) (by rw [f2]; exact hkC) (by rw [f2]; exact va_assign hcls) rfl rfl hd fun H1 e1 z oq => ?_
  refine qk_Wm (fun t ht => qk_Em (fun u hu => ⟨rfl, qk_set_some hu⟩) (fun _ _ => rfl) ht) (hs p l e R s m args below meth c H1 _ cells slots G H0 ro ρ ls X ?_ (fun q hq => qk_ok_mono (fun u hu => qk_set_some hu) (hL q hq)) (fun x hx => qk_ok_mono (fun u hu => qk_set_some hu) (qk_tl (qk_tl (qk_tl hst)) x hx)) hl (qk_lo1 hlo g1) h1 h2 h3 h4)
  refine qk_Rset hR ha (by rw [hw]; exact fun h => by cases h) z oq ?_ ?_
  · show H1[ρ a]? = some (vp_cell _ _)
    rw [e1]
    show some ((vp_cell (G.2 (.object r0.1)) (n, Sum.inr (Sum.inr (Sum.inr (Sum.inr fun j => (f j).map ρ))))).setSlot _ _) = some (vp_cell (G.2 (.object r0.1)) (n, Sum.inr (Sum.inr (Sum.inr (Sum.inr _)))))
    rw [vp_cell_q, vp_cell_q, arrV_store]
    congr 2
    funext q
    by_cases hq : q = i.toNatClampNeg
    · subst hq
      simp [updV, va_up, va_rf]
    · simp [updV, va_up, hq]
  · intro j b hj
    by_cases hq : j = i.toNatClampNeg
    · rw [hq] at hj
      simp [va_up] at hj
      rw [← hj, hv]; exact fun h => by cases h
    · simp only [va_up, hq, if_false] at hj
      exact g3 j b hj
/-! new -/
def qk_nr : Value → Bool
  | .ref _ => false
  | _ => true
/-- class ci can be made by entry idx of own's pool; fs: a new object's fields -/
def qk_nl (own : String) (idx ci : Nat) (fs : List Value) : Prop := ∃ q : vw_C, qcl[ci]? = some q ∧ ci < 12 ∧ Cond.classLink own idx q.1 ∈ lw_tbl ∧ fs = (List.range q.2.2).map (fun k => defaultValue (qk_fty ci k)) ∧ fs.all qk_nr = true
theorem qk_nrok {v : Value} (h : qk_nr v = true) : qk_ok w v := by cases v <;> first | trivial | cases h
theorem qk_nrrv {ρ : Nat → Nat} {v : Value} (h : qk_nr v = true) : qk_rv ρ v = v := by cases v <;> first | rfl | cases h
theorem ev_new {idx ci : Nat} {fs : List Value} (v : Nat) (hd : decode M.2.1 pc = .ok (.new idx, 3)) (hf : qk_nl M.1.cls idx ci fs) (hv : 16 ≤ v) (hn : w v = none) (kk : Ev d M (pc + 3) L (.ref v :: st) (qk_set w v (.inr (ci, fs))) (nc + 1) (ns + fs.length) Q) : Ev d M pc L st w nc ns Q := by
  refine ev_to (dc := 1) (ds := fs.length) (fun r w' kc ks hs p l e R s m args below meth c H locs cells slots G H0 ro ρ ls X hR hL hst hl hlo h1 h2 h3 h4 => ?_) kk
  obtain ⟨q, hc, h12, hcl, hfs, hnr⟩ := hf
  obtain ⟨C, T, N⟩ := q
  have hlen : fs.length = N := by rw [hfs]; simp
  have hts : ∀ x ∈ u_ws C T N, x.before args s = true := fun x hx => X.2.2.1.2.1 x (qk_lays hc x hx).1 (qk_lays hc x hx).2 args
  obtain ⟨y, hy, hty⟩ := qk_types hc
  obtain ⟨i1, i2⟩ := qk_inst hc h12
  have hKn := X.2.2.1.1.1 ci _ hc
  refine W.newcK X.1.1 X.1.2.1 X.1.2.2.2.2.1 (X.2.2.1.2.1 _ hcl rfl args) (X.2.2.1.2.1 _ i1 rfl args) (X.2.2.1.2.1 _ i2 rfl args) rfl hd (by omega) (by simp only; omega) hKn.2.1 rfl fun H1 kC hkC e1 z1 o1 => ?_
  have hup := qk_up_dom (ρ := ρ) (n := H.size) hn
  have h16 : ∀ u, u < 16 → va_up ρ v H.size u = ρ u := fun u hu => by simp [va_up, show u ≠ v by omega]
  have hmap : fs.map (qk_rv (va_up ρ v H.size)) = fs := (List.map_congr_left (fun x hx => qk_nrrv (List.all_eq_true.mp hnr x hx))).trans (List.map_id _)
  have hR' : qk_R G H0 ro (va_up ρ v H.size) (qk_set w v (.inr (ci, fs))) H1 := by
    refine qk_Rnew hR hv hn z1 o1 ?_ (fun x hx => qk_nrok (List.all_eq_true.mp hnr x hx))
    refine ⟨_, hc, ?_⟩
    show t_OB H.size (G.1.1 ci) N (G.1.2 ci) H1 (vp_V (fs.map (qk_rv (va_up ρ v H.size))))
    rw [hmap]
    refine (u_born y hts (fun _ h => h) hKn hkC e1 hty).to (fun j hj => ?_)
    rw [hfs]
    simp [vp_V, qk_fty, hy, hj]
  have k2 := hs p l e R s m args below meth c H1 locs (cells + 1) (slots + N) G H0 ro (va_up ρ v H.size) ls ⟨X.1, X.2.1, qk_Kup X.2.2.1 h16, X.2.2.2⟩ hR' (fun q hq => qk_ok_mono (fun u hu => qk_set_some hu) (hL q hq)) (qk_cons (by show qk_set _ _ _ _ ≠ none; rw [qk_set_eq]; exact fun h => by cases h) (fun x hx => qk_ok_mono (fun u hu => qk_set_some hu) (hst x hx))) (by rw [qk_lmap_congr hup hL]; exact hl) hlo h1 h2 (by omega) (by omega)
  have e5 : (Value.ref v :: st).map (qk_rv (va_up ρ v H.size)) = .ref H.size :: st.map (qk_rv ρ) := by
    rw [List.map_cons, qk_map_congr hup hst]
    simp [qk_rv, va_up]
  rw [e5] at k2
  rw [hlen, ← Nat.add_assoc, ← Nat.add_assoc]
  exact qk_Wm (fun t ht => qk_Em (fun u hu => ⟨hup u hu, qk_set_some hu⟩) h16 ht) k2
end Heap3
