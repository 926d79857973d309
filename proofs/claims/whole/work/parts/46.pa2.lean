/-! ===== packets, under way and closed ===== -/
def anR (w : qk_W) (pa ms rw' bl : Nat) : Prop := ∃ fi n od ib cd bi la sp blk r z, pkW w pa ms rw' bl fi n od ib cd bi la sp blk r z
def opR (w : qk_W) (pa ms rw' bl ch : Nat) (S : Nat → Int32) (fi n : Nat) : Prop :=
  ∃ od blk r z, pkW w pa ms rw' bl fi n od ((n - 1) % 15) (cod S fi (15 * ((n - 1) / 15) + 1) ((n - 1) % 15)) ((eN S fi ((n - 1) / 15)).1 - 160) (S (fi + n - 1)) (if n = 1 then 0 else S (fi + n - 1) - S (fi + n - 2)) blk r z ∧
  (∀ i, i < (n - 1) % 15 → blk i = dif S fi (15 * ((n - 1) / 15) + 1 + i)) ∧ rowS r (eN S fi ((n - 1) / 15)) ∧ getN r 0 8 = ch ∧ getN r 64 32 = fi ∧ getN r 96 32 = vN (S fi)
/-- what stands in a closed packet's row, but for 'oldest' and the check -/
def hdR (r : Nat → Nat) (ch : Nat) (S : Nat → Int32) (fi n q : Nat) : Prop :=
  getN r 0 8 = ch ∧ getN r 8 8 = q ∧ getN r 16 16 = n ∧ getN r 64 32 = fi ∧ getN r 96 32 = vN (S fi) ∧ getN r 128 32 = vN (S (fi + n - 1)) ∧ rowS r (eF S fi n)
def clR (w : qk_W) (pa ms rw' bl ch : Nat) (S : Nat → Int32) (fi n q od : Nat) : Prop :=
  ∃ ib cd bi la sp blk r, pkW w pa ms rw' bl fi n (nI od) ib cd bi la sp blk r (szP S fi n) ∧ hdR r ch S fi n q
theorem pkW_f {w w' : qk_W} {pa ms rw' bl fi n ib cd bi z : Nat} {od la sp : Int32} {blk : Nat → Int32} {r : Nat → Nat} (h : pkW w pa ms rw' bl fi n od ib cd bi la sp blk r z) (e1 : w' pa = w pa) (e2 : w' ms = w ms) (e3 : w' rw' = w rw') (e4 : w' bl = w bl) : pkW w' pa ms rw' bl fi n od ib cd bi la sp blk r z := by
  obtain ⟨h1, h2, h7, h8⟩ := h
  exact ⟨wo_f h1 e1, meR_f h2 e2 e3, wi_f h7 e4, h8⟩
theorem anR_f {w w' : qk_W} {pa ms rw' bl : Nat} (h : anR w pa ms rw' bl) (e1 : w' pa = w pa) (e2 : w' ms = w ms) (e3 : w' rw' = w rw') (e4 : w' bl = w bl) : anR w' pa ms rw' bl := by
  obtain ⟨a1, a2, a3, a4, a5, a6, a7, a8, a9, a10, a11, h⟩ := h
  exact ⟨a1, a2, a3, a4, a5, a6, a7, a8, a9, a10, a11, pkW_f h e1 e2 e3 e4⟩
theorem opR_f {w w' : qk_W} {pa ms rw' bl ch fi n : Nat} {S : Nat → Int32} (h : opR w pa ms rw' bl ch S fi n) (e1 : w' pa = w pa) (e2 : w' ms = w ms) (e3 : w' rw' = w rw') (e4 : w' bl = w bl) : opR w' pa ms rw' bl ch S fi n := by
  obtain ⟨a1, a2, a3, a4, h, g⟩ := h
  exact ⟨a1, a2, a3, a4, pkW_f h e1 e2 e3 e4, g⟩
theorem clR_f {w w' : qk_W} {pa ms rw' bl ch fi n q od : Nat} {S : Nat → Int32} (h : clR w pa ms rw' bl ch S fi n q od) (e1 : w' pa = w pa) (e2 : w' ms = w ms) (e3 : w' rw' = w rw') (e4 : w' bl = w bl) : clR w' pa ms rw' bl ch S fi n q od := by
  obtain ⟨a1, a2, a3, a4, a5, a6, a7, h, g⟩ := h
  exact ⟨a1, a2, a3, a4, a5, a6, a7, pkW_f h e1 e2 e3 e4, g⟩
theorem opR_an {w : qk_W} {pa ms rw' bl ch fi n : Nat} {S : Nat → Int32} (h : opR w pa ms rw' bl ch S fi n) : anR w pa ms rw' bl := by
  obtain ⟨a1, a2, a3, a4, h, g⟩ := h
  exact ⟨_, _, _, _, _, _, _, _, _, _, _, h⟩
theorem clR_an {w : qk_W} {pa ms rw' bl ch fi n q od : Nat} {S : Nat → Int32} (h : clR w pa ms rw' bl ch S fi n q od) : anR w pa ms rw' bl := by
  obtain ⟨a1, a2, a3, a4, a5, a6, a7, h, g⟩ := h
  exact ⟨_, _, _, _, _, _, _, _, _, _, _, h⟩
theorem opR_congr {w : qk_W} {pa ms rw' bl ch fi n : Nat} {S S' : Nat → Int32} (h : opR w pa ms rw' bl ch S fi n) (hn : 1 ≤ n) (e : ∀ i, fi ≤ i → i < fi + n → S i = S' i) : opR w pa ms rw' bl ch S' fi n := by
  obtain ⟨od, blk, r, z, h, h2, h3, h4, h5, h6⟩ := h
  have e1 : eN S fi ((n - 1) / 15) = eN S' fi ((n - 1) / 15) := eN_congr e (by omega)
  have e2 : cod S fi (15 * ((n - 1) / 15) + 1) ((n - 1) % 15) = cod S' fi (15 * ((n - 1) / 15) + 1) ((n - 1) % 15) := cod_congr e (by omega) (by omega)
  refine ⟨od, blk, r, z, ?_, fun i hi => ?_, ?_, h4, h5, ?_⟩
  · rw [e1, e2] at h
    by_cases h1 : n = 1
    · subst h1
      rw [e _ (by omega) (by omega)] at h
      exact h
    · rw [if_neg h1] at h ⊢
      rw [e _ (by omega) (by omega), e (fi + n - 2) (by omega) (by omega)] at h
      exact h
  · rw [h2 i hi]; exact dif_congr e (by omega) (by omega)
  · rw [← e1]; exact h3
  · rw [← e _ (by omega) (by omega)]; exact h6
theorem clR_congr {w : qk_W} {pa ms rw' bl ch fi n q od : Nat} {S S' : Nat → Int32} (h : clR w pa ms rw' bl ch S fi n q od) (hn : 1 ≤ n) (e : ∀ i, fi ≤ i → i < fi + n → S i = S' i) : clR w pa ms rw' bl ch S' fi n q od := by
  obtain ⟨a1, a2, a3, a4, a5, a6, a7, h, g1, g2, g3, g4, g5, g6, g7⟩ := h
  refine ⟨a1, a2, a3, a4, a5, a6, a7, ?_, g1, g2, g3, g4, ?_, ?_, ?_⟩
  · rw [← szP_congr e hn]; exact h
  · rw [← e _ (by omega) (by omega)]; exact g5
  · rw [← e _ (by omega) (by omega)]; exact g6
  · rw [← eF_congr e hn]; exact g7
theorem getN_hd {r r' : Nat → Nat} (h : ∀ p, p < 160 → rbit r' p = rbit r p) {p n : Nat} (hp : p + n ≤ 160) : getN r' p n = getN r p n := getN_congr (fun q _ h2 => h q (by omega))
theorem rowS_put {r : Nat → Nat} {st : Strm} (h : rowS r st) {a n v : Nat} (ha : a + n ≤ 20) : rowS (putR r a n v) st := fun p h1 h2 => by
  rw [rbit_putR, if_neg (by omega)]
  exact h p h1 h2
theorem es_w {d : Nat} {M : qk_M} {pc : Nat} {L : List (Option Value)} {st : List Value} {w : qk_W} {a : Nat} {e : qk_C} {nc ns : Nat} {Q : Option Value ⊕ Nat → qk_W → Nat → Nat → Prop} (h : ∀ w', w' a = some e → (∀ v, v ≠ a → w' v = w v) → Ev d M pc L st w' nc ns Q) : Ev d M pc L st (qk_set w a e) nc ns Q := h _ (qk_set_eq _ _ _) (fun _ h => qk_set_ne h)
section Pa2
variable {d : Nat} {w : qk_W} {nc ns : Nat} {Q : Option Value ⊕ Nat → qk_W → Nat → Nat → Prop} {pa ms rw' bl ch fi n : Nat} {S : Nat → Int32}
theorem c_begin {x : Int32} (h : anR w pa ms rw' bl) (hx : S fi = x) (hch : ch < 4) (hfi : fi < 2 ^ 30) (hq : ∀ w', fr [pa, rw'] w w' → opR w' pa ms rw' bl ch S fi 1 → Q (.inl none) w' nc ns) :
    Ev (d + 1) m_Pa_begin 0 [some (.ref pa), some (.int (nI ch)), some (.int (nI fi)), some (.int x)] [] w nc ns Q := by
  obtain ⟨fi0, n0, od, ib, cd, bi, la, sp, blk, r, z, h1, h2, h7, h8, a1, a2, a3, a4, a5⟩ := h
  refine t_Pa_begin_0 h1 (Nat.le_of_ble_eq_true rfl) (es_w (fun w1 e1 f1 => ?_))
  refine t_Pa_begin_5 ⟨h1.1, e1⟩ (Nat.le_of_ble_eq_true rfl) (es_w (fun w2 e2 f2 => ?_))
  refine t_Pa_begin_10 ⟨h1.1, e2⟩ (Nat.le_of_ble_eq_true rfl) (es_w (fun w3 e3 f3 => ?_))
  refine t_Pa_begin_15 ⟨h1.1, e3⟩ (Nat.le_of_ble_eq_true rfl) (es_w (fun w4 e4 f4 => ?_))
  refine t_Pa_begin_20 ⟨h1.1, e4⟩ (Nat.le_of_ble_eq_true rfl) (es_w (fun w5 e5 f5 => ?_))
  refine t_Pa_begin_25 ⟨h1.1, e5⟩ (Nat.le_of_ble_eq_true rfl) (es_w (fun w6 e6 f6 => ?_))
  refine t_Pa_begin_30 ⟨h1.1, e6⟩ (Nat.le_of_ble_eq_true rfl) (es_w (fun w7 e7 f7 => ?_))
  have hf0 : ∀ v, v ≠ pa → w7 v = w v := fun v hv => by rw [f7 v hv, f6 v hv, f5 v hv, f4 v hv, f3 v hv, f2 v hv, f1 v hv]
  have hpa : wo w7 pa 7 [.ref ms, .int (nI fi), .int 1, .int od, .ref bl, .int 0, .int 0, .int 0, .int x, .int 0] := ⟨h1.1, e7⟩
  have hm0 := meR_f h2 (hf0 _ (Ne.symm a1)) (hf0 _ (Ne.symm a2))
  clear e1 e2 e3 e4 e5 e6 e7 f1 f2 f3 f4 f5 f6 f7
  refine t_Pa_begin_35 hpa rfl hm0.1 (Nat.le_of_ble_eq_true rfl) (c_put (at' := 0) (n := 1) hm0 (by omega) (by omega) (fun w1 f1 m1 => ?_))
  refine t_Pa_begin_45 (wo_f hpa (f1 _ (by simp [a2]))) rfl m1.1 (Nat.le_of_ble_eq_true rfl) (c_put (at' := 8) (n := 4) m1 (by omega) (by omega) (fun w2 f2 m2 => ?_))
  have hpa2 := wo_f (wo_f hpa (f1 _ (by simp [a2]))) (f2 _ (by simp [a2]))
  refine t_Pa_begin_56 hpa2 rfl m2.1 (Nat.le_of_ble_eq_true rfl) (c_put (at' := 12) (n := 4) m2 (by omega) (by omega) (fun w3 f3 m3 => ?_))
  have hpa3 := wo_f hpa2 (f3 _ (by simp [a2]))
  rw [vN_nI (show ch < 2 ^ 32 by omega), vN_nI (show fi < 2 ^ 32 by omega)] at m3
  refine t_Pa_begin_67 (hq w3 (fun v hv => ?_) ⟨od, blk, _, z, ⟨?_, m3, wi_f h7 ?_, h8, a1, a2, a3, a4, a5⟩, fun i hi => absurd hi (by omega), fun p g1 g2 => ?_, ?_, ?_, ?_⟩)
  · have : v ≠ rw' := fun e => hv (by simp [e])
    rw [f3 v (by simp [this]), f2 v (by simp [this]), f1 v (by simp [this])]
    exact hf0 v (fun e => hv (by simp [e]))
  · rw [if_pos rfl, show fi + 1 - 1 = fi by omega, hx, show cod S fi (15 * ((1 - 1) / 15) + 1) ((1 - 1) % 15) = 0 from rfl, show (eN S fi ((1 - 1) / 15)).1 = 160 from rfl, Nat.sub_self, show (1 - 1) % 15 = 0 from rfl]
    exact hpa3
  · rw [f3 _ (by simp [Ne.symm a5]), f2 _ (by simp [Ne.symm a5]), f1 _ (by simp [Ne.symm a5])]
    exact hf0 _ (Ne.symm a3)
  · have e : (eN S fi ((1 - 1) / 15)).1 = 160 := rfl
    rw [e] at g2
    omega
  · rw [getN_put_ne (by omega), getN_put_ne (by omega)]
    have := getN_put (r := r) (a := 0) (n := 1) (v := ch)
    rw [Nat.mul_zero] at this
    rw [this]
    omega
  · rw [getN_put_ne (by omega)]
    have := getN_put (r := putR r 0 1 ch) (a := 8) (n := 4) (v := fi)
    rw [this]
    omega
  · have := getN_put (r := putR (putR r 0 1 ch) 8 4 fi) (a := 12) (n := 4) (v := vN x)
    rw [this, hx]
    have := vN_lt x
    omega
theorem c_pfits {x : Int32} (hk : wk w) (h : opR w pa ms rw' bl ch S fi n) (hn : 1 ≤ n) (hx : S (fi + n) = x) (hsz : szP S fi n ≤ 512) (hq : Q (.inl (some (.int (b2i (decide (szP S fi (n + 1) ≤ 512)))))) w nc ns) :
    Ev (d + 2) m_Pa_fits 0 [some (.ref pa), some (.int x), none] [] w nc ns Q := by
  obtain ⟨od, blk, r, z, h, h2, h3, h4, h5, h6⟩ := h
  have hge := eN_ge S fi ((n - 1) / 15)
  have hle : (eN S fi ((n - 1) / 15)).1 ≤ 4064 := by
    have h1 : (eN S fi ((n - 1) / 15)).1 ≤ (eF S fi n).1 := by
      unfold eF
      split
      · exact Nat.le_refl _
      · rw [eB_1]; omega
    unfold szP at hsz
    omega
  refine c_fits hk h (cod_le _ _ _ _) (Nat.mod_lt _ (by omega)) (by omega) ?_
  have ed : x - S (fi + n - 1) - (if n = 1 then 0 else S (fi + n - 1) - S (fi + n - 2)) = dif S fi (15 * ((n - 1) / 15) + 1 + (n - 1) % 15) := by
    rw [show 15 * ((n - 1) / 15) + 1 + (n - 1) % 15 = n by omega, ← hx]
    unfold dif
    by_cases h1 : n = 1
    · subst h1
      rw [if_pos rfl, if_pos rfl, Int32.sub_zero]
      rfl
    · rw [if_neg h1, if_neg h1]
  rw [ed]
  have e1 := eF_1 S fi (b := (n - 1) / 15) (i := (n - 1) % 15) (Nat.mod_lt _ (by omega))
  rw [show 15 * ((n - 1) / 15) + (n - 1) % 15 + 1 + 1 = n + 1 by omega] at e1
  unfold szP at hq
  rw [e1] at hq
  rw [show (eN S fi ((n - 1) / 15)).1 - 160 + 4 + ((n - 1) % 15 + 1) * wd (lc (cod S fi (15 * ((n - 1) / 15) + 1) ((n - 1) % 15)) (dif S fi (15 * ((n - 1) / 15) + 1 + (n - 1) % 15))) = (eN S fi ((n - 1) / 15)).1 + 4 + ((n - 1) % 15 + 1) * wd (cod S fi (15 * ((n - 1) / 15) + 1) ((n - 1) % 15 + 1)) - 160 by rw [cod]; omega]
  exact hq
theorem c_append {x : Int32} (hk : wk w) (h : opR w pa ms rw' bl ch S fi n) (hn : 1 ≤ n) (hn2 : n < 2 ^ 30) (h16 : 16 ≤ rw') (hx : S (fi + n) = x) (hsz : szP S fi (n + 1) ≤ 512) (hq : ∀ w', fr [pa, rw', bl] w w' → opR w' pa ms rw' bl ch S fi (n + 1) → Q (.inl none) w' nc ns) :
    Ev (d + 2) m_Pa_append 0 [some (.ref pa), some (.int x), none] [] w nc ns Q := by
  obtain ⟨od, blk, r, z, ⟨h1, h2, h7, h8, a1, a2, a3, a4, a5⟩, hb, h3, h4, h5, h6⟩ := h
  have hge := eN_ge S fi ((n - 1) / 15)
  have hcd := cod_le S fi (15 * ((n - 1) / 15) + 1) ((n - 1) % 15)
  have hi15 : (n - 1) % 15 < 15 := Nat.mod_lt _ (by omega)
  have ed : x - S (fi + n - 1) - (if n = 1 then 0 else S (fi + n - 1) - S (fi + n - 2)) = dif S fi (15 * ((n - 1) / 15) + 1 + (n - 1) % 15) := by
    rw [show 15 * ((n - 1) / 15) + 1 + (n - 1) % 15 = n by omega, ← hx]
    unfold dif
    by_cases h1 : n = 1
    · subst h1
      rw [if_pos rfl, if_pos rfl, Int32.sub_zero]
      rfl
    · rw [if_neg h1, if_neg h1]
  have e1 := eF_1 S fi (b := (n - 1) / 15) (i := (n - 1) % 15) hi15
  rw [show 15 * ((n - 1) / 15) + (n - 1) % 15 + 1 + 1 = n + 1 by omega] at e1
  have hmax : (eN S fi ((n - 1) / 15)).1 + 4 + ((n - 1) % 15 + 1) * wd (cod S fi (15 * ((n - 1) / 15) + 1) ((n - 1) % 15 + 1)) ≤ 4064 := by
    unfold szP at hsz
    rw [e1] at hsz
    omega
  refine t_Pa_append_0 h1 rfl rfl rfl rfl h7 (vp_in_nI hi15 (by omega)) h8 ?_
  rw [nI_clamp (by omega), ed]
  have hcod : lc (cod S fi (15 * ((n - 1) / 15) + 1) ((n - 1) % 15)) (dif S fi (15 * ((n - 1) / 15) + 1 + (n - 1) % 15)) = cod S fi (15 * ((n - 1) / 15) + 1) ((n - 1) % 15 + 1) := rfl
  have hblk : ∀ i, i < (n - 1) % 15 + 1 → upd blk ((n - 1) % 15) (dif S fi (15 * ((n - 1) / 15) + 1 + (n - 1) % 15)) i = dif S fi (15 * ((n - 1) / 15) + 1 + i) := by
    intro i hi
    by_cases hii : i = (n - 1) % 15
    · rw [hii, pk_us]
    · rw [pk_un hii, hb i (by omega)]
  generalize hBK : upd blk ((n - 1) % 15) (dif S fi (15 * ((n - 1) / 15) + 1 + (n - 1) % 15)) = BK at *
  refine es_w (fun u1 i1 j1 => ?_)
  refine t_Pa_append_22 (wo_f h1 (j1 _ a3)) rfl (Nat.le_of_ble_eq_true rfl) ?_
  rw [nI_1]
  refine es_w (fun w1 i2 j2 => ?_)
  have p1 : pkW w1 pa ms rw' bl fi n od ((n - 1) % 15 + 1) (cod S fi (15 * ((n - 1) / 15) + 1) ((n - 1) % 15)) ((eN S fi ((n - 1) / 15)).1 - 160) (S (fi + n - 1)) (if n = 1 then 0 else S (fi + n - 1) - S (fi + n - 2)) BK r z :=
    ⟨⟨h1.1, i2⟩, meR_f h2 (by rw [j2 _ (Ne.symm a1), j1 _ a4]) (by rw [j2 _ (Ne.symm a2), j1 _ a5]), (j2 _ (Ne.symm a3)).trans i1, h8, a1, a2, a3, a4, a5⟩
  have hfr1 : fr [pa, rw', bl] w w1 := fun v hv => by rw [j2 v (fun e => hv (by simp [e])), j1 v (fun e => hv (by simp [e]))]
  clear i1 i2 j1 j2 u1
  have hk1 := wk_f hk (fun v hv => hfr1 v (by have := h1.1; simp; omega))
  refine t_Pa_append_32 p1.1 (Nat.le_of_ble_eq_true rfl) ?_
  refine c_codeWith hk1 p1 hcd ?_
  rw [hcod]
  refine t_Pa_append_38 p1.1 (Nat.le_of_ble_eq_true rfl) ?_
  refine t_Pa_append_41 (wo_s h1.1) rfl (Nat.le_of_ble_eq_true rfl) ?_
  refine t_Pa_append_51 (wo_s h1.1) (Nat.le_of_ble_eq_true rfl) ?_
  refine t_Pa_append_56 (wo_s h1.1) rfl (Nat.le_of_ble_eq_true rfl) ?_
  rw [nI_1]
  have hsame : ∀ {e1 e2 e3 e4 : qk_C} {v : Nat}, v ≠ pa → qk_set (qk_set (qk_set (qk_set w1 pa e1) pa e2) pa e3) pa e4 v = w1 v := fun h => by rw [qk_set_ne h, qk_set_ne h, qk_set_ne h, qk_set_ne h]
  refine t_Pa_append_66 (wo_s h1.1) rfl ?_ ?_
  all_goals intro g
  · have hne : ¬ (n - 1) % 15 + 1 = 15 := fun e => g (by show nI ((n - 1) % 15 + 1) = 15; rw [e]; rfl)
    refine t_Pa_append_79 (hq _ (fr_trans hfr1 (fr_set (fr_set (fr_set (fr_set fr_refl (by simp)) (by simp)) (by simp)) (by simp))) ⟨od, BK, r, z, ⟨?_, meR_f p1.2.1 (hsame (Ne.symm a1)) (hsame (Ne.symm a2)), wi_f p1.2.2.1 (hsame (Ne.symm a3)), h8, a1, a2, a3, a4, a5⟩, ?_, ?_, h4, h5, h6⟩)
    · rw [show (n + 1 - 1) / 15 = (n - 1) / 15 by omega, show (n + 1 - 1) % 15 = (n - 1) % 15 + 1 by omega, if_neg (show ¬ n + 1 = 1 by omega), show fi + (n + 1) - 1 = fi + n by omega, show fi + (n + 1) - 2 = fi + n - 1 by omega, hx]
      exact wo_s h1.1
    · rw [show (n + 1 - 1) / 15 = (n - 1) / 15 by omega, show (n + 1 - 1) % 15 = (n - 1) % 15 + 1 by omega]
      exact hblk
    · rw [show (n + 1 - 1) / 15 = (n - 1) / 15 by omega]
      exact h3
  · have he : (n - 1) % 15 + 1 = 15 := (nI_eq (a := (n - 1) % 15 + 1) (b := 15) (by omega) (by omega)).mp g
    have p2 : ∀ {e1 e2 e3 : qk_C}, pkW (qk_set (qk_set (qk_set (qk_set w1 pa e1) pa e2) pa e3) pa (.inr (7, [.ref ms, .int (nI fi), .int (nI (n + 1)), .int od, .ref bl, .int (nI ((n - 1) % 15 + 1)), .int (nI (cod S fi (15 * ((n - 1) / 15) + 1) ((n - 1) % 15 + 1))), .int (nI ((eN S fi ((n - 1) / 15)).1 - 160)), .int x, .int (x - S (fi + n - 1))]))) pa ms rw' bl fi (n + 1) od ((n - 1) % 15 + 1) (cod S fi (15 * ((n - 1) / 15) + 1) ((n - 1) % 15 + 1)) ((eN S fi ((n - 1) / 15)).1 - 160) x (x - S (fi + n - 1)) BK r z :=
      ⟨wo_s h1.1, meR_f p1.2.1 (hsame (Ne.symm a1)) (hsame (Ne.symm a2)), wi_f p1.2.2.1 (hsame (Ne.symm a3)), h8, a1, a2, a3, a4, a5⟩
    refine t_Pa_append_75 p2.1 (Nat.le_of_ble_eq_true rfl) ?_
    refine c_writeBlock (wk_f hk1 (fun v hv => hsame (by have := h1.1; omega))) p2 ⟨h16, h1.1⟩ h3 (cod_le _ _ _ _) (by omega) hge (eN_ok _ _ _) hmax (fun w3 r3 f3 q3 s3 b3 => ?_)
    have eE : eD BK (wd (cod S fi (15 * ((n - 1) / 15) + 1) ((n - 1) % 15 + 1))) (app (eN S fi ((n - 1) / 15)) (cod S fi (15 * ((n - 1) / 15) + 1) ((n - 1) % 15 + 1)) 4) ((n - 1) % 15 + 1) = eN S fi ((n + 1 - 1) / 15) := by
      rw [he] at hblk
      rw [he, show (n + 1 - 1) / 15 = (n - 1) / 15 + 1 by omega, eN, eB]
      exact eD_congr hblk
    rw [eE] at q3 s3
    refine t_Pa_append_79 (hq w3 (fun v hv => ?_) ⟨od, BK, r3, z, ?_, ?_, s3, ?_, ?_, ?_⟩)
    · have hv1 : v ≠ pa := fun e => hv (by simp [e])
      have hv2 : v ≠ rw' := fun e => hv (by simp [e])
      rw [f3 v (by simp [hv1, hv2]), hsame hv1]
      exact hfr1 v hv
    · rw [show (n + 1 - 1) % 15 = 0 by omega, if_neg (show ¬ n + 1 = 1 by omega), show fi + (n + 1) - 1 = fi + n by omega, show fi + (n + 1) - 2 = fi + n - 1 by omega, hx]
      exact q3
    · rw [show (n + 1 - 1) % 15 = 0 by omega]
      intro i hi
      omega
    · rw [getN_hd b3 (by omega)]; exact h4
    · rw [getN_hd b3 (by omega)]; exact h5
    · rw [getN_hd b3 (by omega)]; exact h6
theorem c_pclose {q od : Nat} (hk : wk w) (h : opR w pa ms rw' bl ch S fi n) (hn : 1 ≤ n) (hn2 : n < 2 ^ 16) (hq8 : q < 256) (h16 : 16 ≤ rw') (hsz : szP S fi n ≤ 512) (hq : ∀ w', fr [pa, ms, rw', bl] w w' → clR w' pa ms rw' bl ch S fi n q od → Q (.inl none) w' nc ns) :
    Ev (d + 2) m_Pa_close 0 [some (.ref pa), some (.int (nI q)), some (.int (nI od))] [] w nc ns Q := by
  obtain ⟨od0, blk, r, z, h, hb, h3, h4, h5, h6⟩ := h
  have hge := eN_ge S fi ((n - 1) / 15)
  have hcd := cod_le S fi (15 * ((n - 1) / 15) + 1) ((n - 1) % 15)
  have hi15 : (n - 1) % 15 < 15 := Nat.mod_lt _ (by omega)
  have hF : (eF S fi n).1 ≤ 4064 := by
    unfold szP at hsz
    omega
  have rest : ∀ w1 r1 ib cd, fr [pa, rw'] w w1 → pkW w1 pa ms rw' bl fi n od0 ib cd ((eF S fi n).1 - 160) (S (fi + n - 1)) (if n = 1 then 0 else S (fi + n - 1) - S (fi + n - 2)) blk r1 z → rowS r1 (eF S fi n) → (∀ p, p < 160 → rbit r1 p = rbit r p) →
      Ev (d + 2) m_Pa_close 11 [some (.ref pa), some (.int (nI q)), some (.int (nI od))] [] w1 nc ns Q := by
    intro w1 r1 ib cd f1 p1 s1 b1
    obtain ⟨k1, k2, k7, k8, a1, a2, a3, a4, a5⟩ := p1
    refine t_Pa_close_11 k1 (Nat.le_of_ble_eq_true rfl) (es_w (fun u1 e1 g1 => ?_))
    refine t_Pa_close_16 ⟨k1.1, e1⟩ rfl rfl (Nat.le_of_ble_eq_true rfl) (t_Pa_sizeFor_0 ?_)
    rw [sizeFor_nI (by omega)]
    refine t_Pa_close_27 (wo_f k2.1 (g1 _ (Ne.symm a1))) (Nat.le_of_ble_eq_true rfl) ?_
    refine es_w (fun w2 e2 g2 => ?_)
    have o0 : wo w2 pa 7 [.ref ms, .int (nI fi), .int (nI n), .int (nI od), .ref bl, .int (nI ib), .int (nI cd), .int (nI ((eF S fi n).1 - 160)), .int (S (fi + n - 1)), .int (if n = 1 then 0 else S (fi + n - 1) - S (fi + n - 2))] := ⟨k1.1, (g2 _ a1).trans e1⟩
    have m0 : meR w2 ms rw' r1 (szP S fi n) := ⟨⟨k2.1.1, e2⟩, rowR_f k2.2.1 (by rw [g2 _ (Ne.symm k2.2.2), g1 _ (Ne.symm a2)]), k2.2.2⟩
    have i0 : wi w2 bl 15 blk := wi_f k7 (by rw [g2 _ (Ne.symm a4), g1 _ (Ne.symm a3)])
    have f0 : fr [pa, ms, rw', bl] w w2 := fun v hv => by
      simp at hv
      rw [g2 v hv.2.1, g1 v hv.1, f1 v (by simp [hv.1, hv.2.2.1])]
    clear e1 e2 g1 g2
    refine t_Pa_close_30 o0 rfl m0.1 (Nat.le_of_ble_eq_true rfl) (c_put (at' := 1) (n := 1) m0 (by omega) (by omega) (fun w3 f3 m3 => ?_))
    have o3 := wo_f o0 (f3 _ (by simp [a2]))
    refine t_Pa_close_40 o3 rfl rfl m3.1 (Nat.le_of_ble_eq_true rfl) (c_put (at' := 2) (n := 2) m3 (by omega) (by omega) (fun w4 f4 m4 => ?_))
    have o4 := wo_f o3 (f4 _ (by simp [a2]))
    refine t_Pa_close_53 o4 rfl rfl m4.1 (Nat.le_of_ble_eq_true rfl) (c_put (at' := 16) (n := 4) m4 (by omega) (by omega) (fun w5 f5 m5 => ?_))
    have o5 := wo_f o4 (f5 _ (by simp [a2]))
    rw [vN_nI (show q < 2 ^ 32 by omega), vN_nI (show n < 2 ^ 32 by omega)] at m5
    refine t_Pa_close_67 (hq w5 (fun v hv => ?_) ⟨_, _, _, _, _, blk, _, ⟨o5, m5, wi_f i0 ?_, k8, a1, a2, a3, a4, a5⟩, ?_, ?_, ?_, ?_, ?_, ?_, ?_⟩)
    · have : v ≠ rw' := fun e => hv (by simp [e])
      rw [f5 v (by simp [this]), f4 v (by simp [this]), f3 v (by simp [this])]
      exact f0 v hv
    · rw [f5 _ (by simp [Ne.symm a5]), f4 _ (by simp [Ne.symm a5]), f3 _ (by simp [Ne.symm a5])]
    · rw [getN_put_ne (by omega), getN_put_ne (by omega), getN_put_ne (by omega), getN_hd b1 (by omega)]; exact h4
    · rw [getN_put_ne (by omega), getN_put_ne (by omega)]
      have := getN_put (r := r1) (a := 1) (n := 1) (v := q)
      rw [this]
      omega
    · rw [getN_put_ne (by omega)]
      have := getN_put (r := putR r1 1 1 q) (a := 2) (n := 2) (v := n)
      rw [this]
      omega
    · rw [getN_put_ne (by omega), getN_put_ne (by omega), getN_put_ne (by omega), getN_hd b1 (by omega)]; exact h5
    · rw [getN_put_ne (by omega), getN_put_ne (by omega), getN_put_ne (by omega), getN_hd b1 (by omega)]; exact h6
    · have := getN_put (r := putR (putR r1 1 1 q) 2 2 n) (a := 16) (n := 4) (v := vN (S (fi + n - 1)))
      rw [this]
      have := vN_lt (S (fi + n - 1))
      omega
    · exact rowS_put (rowS_put (rowS_put s1 (by omega)) (by omega)) (by omega)
  refine t_Pa_close_0 h.1 rfl (fun g => ?_) (fun g => ?_)
  · have h0 : (n - 1) % 15 = 0 := Nat.le_zero.mp ((nI_leI (b := 0) (by omega) (by omega)).mp g)
    have eE : eF S fi n = eN S fi ((n - 1) / 15) := by unfold eF; rw [if_pos h0]
    rw [← eE] at h h3
    exact rest w r _ _ fr_refl h h3 (fun _ _ => rfl)
  · have h0 : ¬ (n - 1) % 15 = 0 := fun e => g (by rw [e]; decide)
    have eE : eD blk (wd (cod S fi (15 * ((n - 1) / 15) + 1) ((n - 1) % 15))) (app (eN S fi ((n - 1) / 15)) (cod S fi (15 * ((n - 1) / 15) + 1) ((n - 1) % 15)) 4) ((n - 1) % 15) = eF S fi n := by
      unfold eF
      rw [if_neg h0, eB]
      exact eD_congr hb
    have e1 := congrArg Prod.fst eE
    rw [eD_1] at e1
    refine t_Pa_close_7 h.1 (Nat.le_of_ble_eq_true rfl) (c_writeBlock hk h ⟨h16, h.1.1⟩ h3 hcd (by omega) hge (eN_ok _ _ _) (by have : (app (eN S fi ((n - 1) / 15)) (cod S fi (15 * ((n - 1) / 15) + 1) ((n - 1) % 15)) 4).1 = (eN S fi ((n - 1) / 15)).1 + 4 := rfl; omega) (fun w1 r1 f1 p1 s1 b1 => ?_))
    rw [eE] at p1 s1
    exact rest w1 r1 _ _ f1 p1 s1 b1
theorem c_Pa_init {v0 v4 : Value} (h : wo w pa 7 [v0, .int 0, .int 0, .int 0, v4, .int 0, .int 0, .int 0, .int 0, .int 0]) (hm : 16 ≤ ms ∧ w ms = none) (hr : 16 ≤ rw' ∧ w rw' = none) (hb : 16 ≤ bl ∧ w bl = none) (h1 : ms ≠ rw') (h2 : ms ≠ bl) (h3 : rw' ≠ bl) (hq : ∀ w', fr [pa, ms, rw', bl] w w' → anR w' pa ms rw' bl → Q (.inl none) w' (nc + 3) (ns + 529)) :
    Ev (d + 2) m_Pa_init 0 [some (.ref pa)] [] w nc ns Q := by
  have a1 : pa ≠ ms := fun e => by rw [e] at h; rw [h.2] at hm; cases hm.2
  have a2 : pa ≠ rw' := fun e => by rw [e] at h; rw [h.2] at hr; cases hr.2
  have a3 : pa ≠ bl := fun e => by rw [e] at h; rw [h.2] at hb; cases hb.2
  refine t_Pa_init_0 (Nat.le_of_ble_eq_true rfl) ?_
  refine t_Pa_init_4 rfl ms hm.1 hm.2 ?_
  refine t_Pa_init_8 (Nat.le_of_ble_eq_true rfl) (c_Me_init rw' (wo_s hm.1) hr.1 (by rw [qk_set_ne (Ne.symm h1)]; exact hr.2) (fun w1 f1 m1 => ?_))
  have e0 : ∀ v, v ≠ ms → v ≠ rw' → w1 v = w v := fun v b c => (f1 v (by simp [b, c])).trans (qk_set_ne b)
  have o1 := wo_f h (e0 _ a1 a2)
  refine t_Pa_init_12 rfl o1 (Nat.le_of_ble_eq_true rfl) (qk_fitL _ _) ?_
  refine t_Pa_init_15 rfl bl hb.1 (by rw [qk_set_ne (Ne.symm a3), e0 _ (Ne.symm h2) (Ne.symm h3)]; exact hb.2) ?_
  refine t_Pa_init_20 rfl (wo_n (wo_s h.1) a3) (Nat.le_of_ble_eq_true rfl) (qk_fitA _ _) ?_
  refine t_Pa_init_23 (hq _ (fr_set (fr_set (fr_set (fun v hv => e0 v (fun e => hv (by simp [e])) (fun e => hv (by simp [e]))) (by simp)) (by simp)) (by simp)) ⟨0, 0, 0, 0, 0, 0, 0, 0, fun _ => 0, fun _ => 0, 0, wo_s h.1, meR_f m1 ?_ ?_, wi_n wi_s (Ne.symm a3), hb.1, a1, a2, a3, h2, h3⟩)
  · rw [qk_set_ne (Ne.symm a1), qk_set_ne h2, qk_set_ne (Ne.symm a1)]
  · rw [qk_set_ne (Ne.symm a2), qk_set_ne h3, qk_set_ne (Ne.symm a2)]
end Pa2
