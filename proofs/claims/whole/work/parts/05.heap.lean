/-! ===== rules: the heap ===== -/
theorem qk_Wm {p : Program} {l : Launch} {e : Env} {R : Room} {s : State} {m : MethodId} {args : Array Value} {below : List Frame} {meth : Method} {c : Code} {H : Heap} {locs : List Loc} {cells slots : Nat} {Q Q' : State → Prop} {g : JFrame} (h : ∀ t, Q t → Q' t) (k : W p l e R s m args below meth c H locs cells slots Q g) : W p l e R s m args below meth c H locs cells slots Q' g := by
  intro T hT X
  obtain ⟨t, a, b⟩ := k T hT X
  exact ⟨t, a, h t b⟩
theorem qk_Em {G : qk_G} {H0 : Heap} {ro : qk_O} {ρ ρ1 : Nat → Nat} {w w1 w' : qk_W} {s : State} {below : List Frame} {r : Option Value ⊕ Nat} {mc ms : Nat} (hd : ∀ v, w v ≠ none → ρ1 v = ρ v ∧ w1 v ≠ none) (h16 : ∀ v, v < 16 → ρ1 v = ρ v) {t : State} (h : qk_E G H0 ro ρ1 w1 s below r w' mc ms t) : qk_E G H0 ro ρ w s below r w' mc ms t := by
  obtain ⟨o, ρ', L, a1, a2, a3, a4, a5, a6⟩ := h
  refine ⟨o, ρ', L, a1, a2, a3, fun v hv => ?_, fun v hv => (a5 v hv).trans (h16 v hv), a6⟩
  obtain ⟨b1, b2⟩ := hd v hv
  obtain ⟨c1, c2⟩ := a4 v b2
  exact ⟨c1.trans b1, c2⟩
theorem qk_atns {D : va_G} {cl : List vw_C} {q : Nat × va_E} {H : Heap} (h : va_at D cl q H) : ∀ cell, H[q.1]? = some cell → cell.vm.isStatics = false := by
  intro cell hc
  obtain ⟨a, e⟩ := q
  cases e with
  | inl x =>
    have h1 : H[a]? = some (vp_cell x.1 x.2) := h
    rw [show H[a]? = some cell from hc] at h1
    cases h1
    obtain ⟨cA, n, z⟩ := x
    rcases z with f | f | f | f | f <;> rfl
  | inr o =>
    obtain ⟨r, h1, c2, g1, g2, g3, -⟩ := h
    rw [show H[a]? = some cell from hc] at g1
    cases g1
    rw [g3]; rfl
theorem qk_Rlt {G : qk_G} {H0 : Heap} {ro : qk_O} {ρ : Nat → Nat} {w : qk_W} {H : Heap} (hR : qk_R G H0 ro ρ w H) {v : Nat} (h16 : 16 ≤ v) (hv : w v ≠ none) : ρ v < H.size := by
  cases he : w v with
  | none => exact absurd he hv
  | some e => exact (hR.2.2.1 v e h16 he).2.1.lt
theorem qk_Rset {G : qk_G} {H0 : Heap} {ro : qk_O} {ρ : Nat → Nat} {w : qk_W} {H H' : Heap} {a : Nat} {e : qk_C} (hR : qk_R G H0 ro ρ w H) (ha : 16 ≤ a) (hw : w a ≠ none) (hz : H'.size = H.size) (oq : ∀ q, q ≠ ρ a → H'[q]? = H[q]?)
    (he : va_at G.1 qcl (ρ a, qk_re ρ G.2 e) H') (ho : qk_okC w e) : qk_R G H0 ro ρ (qk_set w a e) H' := by
  obtain ⟨⟨r1, r2, r3⟩, r4, r5, r6⟩ := hR
  have hlo : H0.size ≤ ρ a := by
    cases h0 : w a with
    | none => exact absurd h0 hw
    | some e0 => exact (r5 a e0 ha h0).1
  have hsm : ∀ v, w v ≠ none → qk_set w a e v ≠ none := fun v hv => qk_set_some hv
  have hsb : ∀ v, qk_set w a e v ≠ none → w v ≠ none := by
    intro v hv
    by_cases h : v = a
    · rw [h]; exact hw
    · rwa [qk_set_ne h] at hv
  refine ⟨⟨by rw [hz]; exact r1, fun q hq => ?_, fun q cell hq hc => ?_⟩, fun v hv => ?_, fun v e' hv h => ?_, fun v v' hv hv' h h' hvv => r6 v v' hv hv' (hsb v h) (hsb v' h') hvv⟩
  · rw [oq q (by omega)]; exact r2 q hq
  · by_cases h : q = ρ a
    · subst h
      exact qk_atns he cell hc
    · rw [oq q h] at hc
      exact r3 q cell hq hc
  · rw [qk_set_ne (by omega)]; exact r4 v hv
  · by_cases hva : v = a
    · subst hva
      rw [qk_set_eq] at h
      cases h
      exact ⟨hlo, he, qk_okC_mono hsm ho⟩
    · rw [qk_set_ne hva] at h
      obtain ⟨g1, g2, g3⟩ := r5 v e' hv h
      refine ⟨g1, g2.kept (oq _ (fun hh => hva (r6 v a hv ha (by rw [h]; exact fun h => by cases h) hw hh))), qk_okC_mono hsm g3⟩
theorem qk_up_dom {ρ : Nat → Nat} {w : qk_W} {v n : Nat} (hn : w v = none) : ∀ u, w u ≠ none → va_up ρ v n u = ρ u := by
  intro u hu
  have : u ≠ v := fun h => hu (by rw [h]; exact hn)
  simp [va_up, this]
theorem qk_Rnew {G : qk_G} {H0 : Heap} {ro : qk_O} {ρ : Nat → Nat} {w : qk_W} {H H' : Heap} {v : Nat} {e : qk_C} (hR : qk_R G H0 ro ρ w H) (hv : 16 ≤ v) (hn : w v = none) (hz : H'.size = H.size + 1) (oq : ∀ q, q < H.size → H'[q]? = H[q]?)
    (he : va_at G.1 qcl (H.size, qk_re (va_up ρ v H.size) G.2 e) H') (ho : qk_okC w e) : qk_R G H0 ro (va_up ρ v H.size) (qk_set w v e) H' := by
  have hlt : ∀ u, 16 ≤ u → w u ≠ none → ρ u < H.size := fun u h1 h2 => qk_Rlt hR h1 h2
  obtain ⟨⟨r1, r2, r3⟩, r4, r5, r6⟩ := hR
  have hsm : ∀ u, w u ≠ none → qk_set w v e u ≠ none := fun u hu => qk_set_some hu
  have hup := qk_up_dom (ρ := ρ) (n := H.size) hn
  have hvv : va_up ρ v H.size v = H.size := by simp [va_up]
  refine ⟨⟨by omega, fun q hq => by rw [oq q (by omega)]; exact r2 q hq, fun q cell hq hc => ?_⟩, fun u hu => by rw [qk_set_ne (by omega)]; exact r4 u hu, fun u e' hu h => ?_, fun u u' hu hu' h h' huu => ?_⟩
  · by_cases h : q < H.size
    · rw [oq q h] at hc; exact r3 q cell hq hc
    · have hl : q < H'.size := (Array.getElem?_eq_some_iff.mp hc).1
      have : q = H.size := by omega
      subst this
      exact qk_atns he cell hc
  · by_cases huv : u = v
    · subst huv
      rw [qk_set_eq] at h
      cases h
      rw [hvv]
      exact ⟨r1, he, qk_okC_mono hsm ho⟩
    · rw [qk_set_ne huv] at h
      obtain ⟨g1, g2, g3⟩ := r5 u e' hu h
      have hd : w u ≠ none := by rw [h]; exact fun h => by cases h
      rw [hup u hd, qk_re_congr G.2 hup g3]
      exact ⟨g1, g2.kept (oq _ g2.lt), qk_okC_mono hsm g3⟩
  · have key : ∀ u, 16 ≤ u → qk_set w v e u ≠ none → (u = v ∧ va_up ρ v H.size u = H.size) ∨ (w u ≠ none ∧ va_up ρ v H.size u = ρ u ∧ ρ u < H.size) := by
      intro u hu h
      by_cases huv : u = v
      · exact Or.inl ⟨huv, by rw [huv]; exact hvv⟩
      · rw [qk_set_ne huv] at h
        exact Or.inr ⟨h, hup u h, hlt u hu h⟩
    rcases key u hu h with ⟨a1, a2⟩ | ⟨a1, a2, a3⟩ <;> rcases key u' hu' h' with ⟨b1, b2⟩ | ⟨b1, b2, b3⟩
    · rw [a1, b1]
    · omega
    · omega
    · exact r6 u u' hu hu' a1 b1 (by omega)
theorem qk_Kup {G : qk_G} {H0 : Heap} {ro : qk_O} {ρ ρ' : Nat → Nat} {U : State} (h : qk_K G H0 ro ρ U) (h16 : ∀ v, v < 16 → ρ' v = ρ v) : qk_K G H0 ro ρ' U := by
  obtain ⟨k1, k2, k3, k4, k5⟩ := h
  refine ⟨k1, k2, by rw [h16 1 (by omega)]; exact k3, by rw [h16 2 (by omega)]; exact k4, fun v n f hv => ?_⟩
  obtain ⟨a1, a2, a3⟩ := k5 v n f hv
  rw [h16 v a1]
  exact ⟨a1, a2, a3⟩
theorem qk_map_congr {ρ ρ' : Nat → Nat} {w : qk_W} (h : ∀ v, w v ≠ none → ρ' v = ρ v) {st : List Value} (hs : ∀ x ∈ st, qk_ok w x) : st.map (qk_rv ρ') = st.map (qk_rv ρ) := List.map_congr_left fun x hx => qk_rv_congr h (hs x hx)
theorem qk_lmap_congr {ρ ρ' : Nat → Nat} {w : qk_W} (h : ∀ v, w v ≠ none → ρ' v = ρ v) {L : List (Option Value)} (hs : ∀ q ∈ qk_lp 0 L, qk_ok w q.2) : ((qk_lp 0 L).map fun q => (q.1, qk_rv ρ' q.2)) = ((qk_lp 0 L).map fun q => (q.1, qk_rv ρ q.2)) := List.map_congr_left fun q hq => by rw [qk_rv_congr h (hs q hq)]
/-- the field words of a class -/
theorem qk_lays {ci : Nat} {q : vw_C} (hc : qcl[ci]? = some q) : ∀ w ∈ u_ws q.1 q.2.1 q.2.2, w ∈ lw_tbl ∧ qk_gw w = true := by
  intro w hw
  have hci : ci < 15 := (List.getElem?_eq_some_iff.mp hc).1
  have h1 := List.all_eq_true.mp qcl_ix ci (List.mem_range.mpr hci)
  rw [hc] at h1
  obtain ⟨k, hk, rfl⟩ := List.mem_map.mp hw
  cases hx : qix[ci]? with
  | none => rw [hx] at h1; cases h1
  | some l =>
    rw [hx] at h1
    have h2 := List.all_eq_true.mp h1 k hk
    exact ⟨List.mem_of_getElem? (of_decide_eq_true h2), by unfold u_lay; split <;> rfl⟩
theorem qk_types {ci : Nat} {q : vw_C} (hc : qcl[ci]? = some q) : ∃ y, qcy[ci]? = some y ∧ ∀ k, k < q.2.2 → parseFieldDescriptor (q.2.1 k).2.2.1 = some (y k) := by
  have hci : ci < 15 := (List.getElem?_eq_some_iff.mp hc).1
  have h1 := List.all_eq_true.mp qcl_ty ci (List.mem_range.mpr hci)
  rw [hc] at h1
  cases hx : qcy[ci]? with
  | none => rw [hx] at h1; cases h1
  | some y =>
    rw [hx] at h1
    exact ⟨y, rfl, fun k hk => of_decide_eq_true (List.all_eq_true.mp h1 k (List.mem_range.mpr hk))⟩
theorem qk_names {ci : Nat} {q : vw_C} (hc : qcl[ci]? = some q) : ∀ a, a < q.2.2 → ∀ b, b < q.2.2 → a ≠ b → (q.2.1 a).2.1 ≠ (q.2.1 b).2.1 := by
  intro a ha b hb hab
  have hci : ci < 15 := (List.getElem?_eq_some_iff.mp hc).1
  have h1 := List.all_eq_true.mp qcl_nm ci (List.mem_range.mpr hci)
  rw [hc] at h1
  have h2 := of_decide_eq_true (List.all_eq_true.mp (List.all_eq_true.mp h1 a (List.mem_range.mpr ha)) b (List.mem_range.mpr hb))
  exact h2.resolve_left hab
theorem qk_inst {ci : Nat} {q : vw_C} (hc : qcl[ci]? = some q) (h12 : ci < 12) : Cond.instantiable q.1 q.2.2 ∈ lw_tbl ∧ Cond.initialized q.1 ∈ lw_tbl := by
  have hci : ci < 15 := by omega
  have h1 := List.all_eq_true.mp qcl_in ci (List.mem_range.mpr hci)
  rw [hc] at h1
  cases hx : qni[ci]? with
  | none => rw [hx] at h1; cases h1
  | some z =>
    rw [hx] at h1
    simp only [Bool.and_eq_true, Bool.or_eq_true, decide_eq_true_eq] at h1
    have h2 : z.1 = q.2.2 := h1.2.resolve_right (by omega)
    exact ⟨List.mem_of_getElem? (by rw [h1.1.1, h2]), List.mem_of_getElem? h1.1.2⟩
/-- field k of class ci, by entry idx of own's pool -/
def qk_fl (own : String) (idx ci k : Nat) : Prop := ∃ q : vw_C, qcl[ci]? = some q ∧ k < q.2.2 ∧ (q.2.1 k).1 = q.1 ∧ Cond.fieldLink own idx q.1 (q.2.1 k).2.1 (q.2.1 k).2.2.1 ∈ lw_tbl
def qk_ffin (ci k : Nat) : Bool := match qcl[ci]? with | some q => (q.2.1 k).2.2.2 | none => false
def qk_fty (ci k : Nat) : FieldType := match qcy[ci]? with | some y => y k | none => .int
def qk_fit (ty : FieldType) (v : Value) : Bool := decide (narrow ty v = v) && fits ty v
theorem qk_fit_rv {ty : FieldType} {v : Value} (ρ : Nat → Nat) (h : qk_fit ty v = true) : narrow ty (qk_rv ρ v) = qk_rv ρ v ∧ fits ty (qk_rv ρ v) = true := by
  simp only [qk_fit, Bool.and_eq_true, decide_eq_true_eq] at h
  cases v with
  | ref a =>
    have h2 := h.2
    cases ty <;> first | (cases h2; done) | exact ⟨rfl, rfl⟩
  | _ => exact h
section Heap
variable {d : Nat} {M : qk_M} {pc : Nat} {L : List (Option Value)} {st : List Value} {w : qk_W} {nc ns : Nat} {Q : Option Value ⊕ Nat → qk_W → Nat → Nat → Prop}
theorem ev_to {pc' : Nat} {L' : List (Option Value)} {st' : List Value} {w1 : qk_W} {dc ds : Nat} (h : ∀ r w' kc ks, qk_S d M pc' L' st' w1 r w' kc ks → qk_S d M pc L st w r w' (dc + kc) (ds + ks)) (k : Ev d M pc' L' st' w1 (nc + dc) (ns + ds) Q) : Ev d M pc L st w nc ns Q := by
  obtain ⟨r, w', kc, ks, hq, hs⟩ := k
  exact ⟨r, w', dc + kc, ds + ks, by rw [← Nat.add_assoc, ← Nat.add_assoc]; exact hq, h _ _ _ _ hs⟩
theorem ev_set {pc' : Nat} {L' : List (Option Value)} {st' : List Value} {w1 : qk_W} (h : ∀ r w' kc ks, qk_S d M pc' L' st' w1 r w' kc ks → qk_S d M pc L st w r w' kc ks) (k : Ev d M pc' L' st' w1 nc ns Q) : Ev d M pc L st w nc ns Q := by
  obtain ⟨r, w', kc, ks, hq, hs⟩ := k
  exact ⟨r, w', kc, ks, hq, h _ _ _ _ hs⟩
theorem ev_getf {idx ci k a : Nat} {fs : List Value} {v : Value} (hd : decode M.2.1 pc = .ok (.getfield idx, 3)) (hf : qk_fl M.1.cls idx ci k) (ha : 16 ≤ a) (hw : w a = some (.inr (ci, fs))) (hv : fs[k]? = some v) (kk : Ev d M (pc + 3) L (v :: st) w nc ns Q) : Ev d M pc L (.ref a :: st) w nc ns Q := by
  refine ev_of (fun r w' kc ks hs p l e R s m args below meth c H locs cells slots G H0 ro ρ ls X hR hL hst hl hlo h1 h2 h3 h4 => ?_) kk
  obtain ⟨q, hc, hk, ho, hw2⟩ := hf
  obtain ⟨g1, g2, g3⟩ := hR.2.2.1 a _ ha hw
  obtain ⟨C, T, N⟩ := q
  have hts : ∀ x ∈ u_ws C T N, x.before args s = true := fun x hx => X.2.2.1.2.1 x (qk_lays hc x hx).1 (qk_lays hc x hx).2 args
  refine va_get (ws := [(ρ a, qk_re ρ G.2 (.inr (ci, fs)))]) (v := qk_rv ρ v) X.1.1 X.1.2.1 hts (fun _ h => h) X.1.2.2.2.2.1 X.2.2.1.1 (fun k0 q0 h0 => ?_) 0 rfl hc k hk (X.2.2.1.2.1 _ hw2 rfl args) (fun x hx => by rw [ho] at hx; exact hx) (by rw [List.getElem?_map, hv]; rfl) hd (hs p l e R s m args below meth c H locs cells slots G H0 ro ρ ls X hR hL (qk_cons (g3 v (List.mem_of_getElem? hv)) (qk_tl hst)) hl hlo h1 h2 h3 h4)
  have : k0 = 0 := by
    have := (List.getElem?_eq_some_iff.mp h0).1
    simp at this; omega
  subst this
  cases h0
  exact g2
end Heap
