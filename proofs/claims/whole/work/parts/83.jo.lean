/-! ===== class and reference side by side ===== -/
def gO : Nat := 106
def sum4 (g : Nat → Nat) : Nat := g 0 + g 1 + g 2 + g 3
theorem sum4_fu {α : Type} (G : α → Nat) (X : Nat → α) {c : Nat} (hc : c < 4) (y : α) : sum4 (fun i => G (fu X c y i)) + G (X c) = sum4 (fun i => G (X i)) + G y := by
  unfold sum4
  dsimp only
  have h : c = 0 ∨ c = 1 ∨ c = 2 ∨ c = 3 := by omega
  rcases h with h | h | h | h
  · subst h
    rw [fu_s, fu_n _ _ (show (1 : Nat) ≠ 0 by omega), fu_n _ _ (show (2 : Nat) ≠ 0 by omega), fu_n _ _ (show (3 : Nat) ≠ 0 by omega)]
    omega
  · subst h
    rw [fu_s, fu_n _ _ (show (0 : Nat) ≠ 1 by omega), fu_n _ _ (show (2 : Nat) ≠ 1 by omega), fu_n _ _ (show (3 : Nat) ≠ 1 by omega)]
    omega
  · subst h
    rw [fu_s, fu_n _ _ (show (0 : Nat) ≠ 2 by omega), fu_n _ _ (show (1 : Nat) ≠ 2 by omega), fu_n _ _ (show (3 : Nat) ≠ 2 by omega)]
    omega
  · subst h
    rw [fu_s, fu_n _ _ (show (0 : Nat) ≠ 3 by omega), fu_n _ _ (show (1 : Nat) ≠ 3 by omega), fu_n _ _ (show (2 : Nat) ≠ 3 by omega)]
    omega
theorem sum4_le {g : Nat → Nat} {b : Nat} (h : ∀ c, c < 4 → g c ≤ b) : sum4 g ≤ 4 * b := by
  have h0 := h 0 (by omega)
  have h1 := h 1 (by omega)
  have h2 := h 2 (by omega)
  have h3 := h 3 (by omega)
  unfold sum4
  omega
/-- the class's side -/
def ciR (w : qk_W) (X : Nat → Chs) (Y : Nat → Trs) (R : Nat → Nat → Nat) (L : Nat → Nat) (T : Nat → Bool) (np pc bad rej cla sl : Nat) (lw : Bool) : Prop := wk w ∧ qO w ∧ stR w X pc bad np lw ∧ ceR w Y rej cla ∧ airR w sl R L T
/-- the reference's side -/
def moR (w : qk_W) (s : Nat → Int32) (l : Nat → Int64) (X : Nat → Chs) (Y : Nat → Trs) (R : Nat → Nat → Nat) (L : Nat → Nat) (T : Nat → Bool) (np pc bad rej cla sl : Nat) (lw : Bool) : Prop :=
  msR w s l X np pc ∧ akR w X ∧ s 13 = b2i lw ∧ maR w s sl R L T ∧ hvR w Y ∧ ohR w Y ∧ s 21 = nI rej ∧ s 22 = nI cla ∧ s 23 = nI bad ∧ ∃ f, wi w (mA 31) 32768 f
/-- what holds behind k calls -/
def jP (k : Nat) (X : Nat → Chs) (np pc sl : Nat) : Prop := pc ≤ 100 ∧ (∀ c, c < 4 → opnX (X c) < 1000) ∧ (∀ c, c < 4 → ∀ n, n < 32768 → xA (X c) n = true → n < xF (X c) (xC (X c))) ∧ 100 * np ≤ 100 * k + sum4 (fun c => xF (X c) (xC (X c))) ∧ sl ≤ k ∧ k ≤ 512
/-- the room that was used -/
def jN (k : Nat) (X : Nat → Chs) (Y : Nat → Trs) (sl nc ns : Nat) : Prop := nc ≤ 59 + 4 * sum4 (fun c => mkC (X c)) + 2 * min sl 64 + 3 * sum4 (fun c => cnt (yP (Y c)) 32) + 3 * k ∧ ns ≤ 619100 + 539 * sum4 (fun c => mkC (X c)) + 514 * min sl 64 + 2050 * sum4 (fun c => cnt (yP (Y c)) 32) + 27 * k
def JI (n : Nat) (xs : Nat → Int32) (k : Nat) (w : qk_W) (nc ns : Nat) : Prop := ∃ X Y R L T np pc bad rej cla sl lw s l, ciR w X Y R L T np pc bad rej cla sl lw ∧ moR w s l X Y R L T np pc bad rej cla sl lw ∧ jP k X np pc sl ∧ jN k X Y sl nc ns ∧ tmpI w nc ∧ wi w 0 n xs ∧ ∃ f, wl w gO 1 f
section Jo
variable {w w' : qk_W} {s s' : Nat → Int32} {l l' : Nat → Int64} {X : Nat → Chs} {Y : Nat → Trs} {R R' : Nat → Nat → Nat} {L L' : Nat → Nat} {T T' : Nat → Bool} {np pc bad rej cla sl np' pc' bad' rej' cla' sl' : Nat} {lw lw' : Bool}
theorem ciR_J (h : ciR w X Y R L T np pc bad rej cla sl lw) : chJ X := fun c hc => (h.2.2.1.2.2 c hc).2.1
theorem ciR_K (h : ciR w X Y R L T np pc bad rej cla sl lw) (ho : ∀ c, c < 4 → opnX (X c) < 1000) : chK X := fun c hc => by
  obtain ⟨i1, i2, i3, i4, i5, i6, i7⟩ := ciR_J h c hc
  exact ⟨i7, i3, i4, ho c hc⟩
theorem ciR_Y (h : ciR w X Y R L T np pc bad rej cla sl lw) : ∀ c, c < 4 → yO (Y c) ≤ 32768 := fun c hc => (h.2.2.2.1.2.2 c hc).2
theorem jP_np {k : Nat} (h : ciR w X Y R L T np pc bad rej cla sl lw) (hj : jP k X np pc sl) : np ≤ 1822 := by
  obtain ⟨_, _, _, h4, _, h6⟩ := hj
  have := sum4_le (g := fun c => xF (X c) (xC (X c))) (b := 32768) (fun c hc => (chI_cl (ciR_J h c hc)).2)
  omega
/-- what the class has does not lie in the reference's region, nor among the temporaries, nor at the law's own names -/
theorem ciR_f (h : ciR w X Y R L T np pc bad rej cla sl lw) (e : ∀ v, v % 16 ≠ 9 → v % 16 ≠ 11 → v ≠ gO → w' v = w v) : ciR w' X Y R L T np pc bad rej cla sl lw := by
  obtain ⟨h1, h2, ⟨a1, ⟨fa, a2, a2'⟩, a3⟩, ⟨b1, ⟨fb, b2, b2'⟩, b3⟩, h5⟩ := h
  refine ⟨wk_12 h1 (e 1 (by decide) (by decide) (by decide)) (e 2 (by decide) (by decide) (by decide)), wo_f h2 (e gQ (by decide) (by decide) (by decide)), ⟨wo_f a1 (e gS (by decide) (by decide) (by decide)), ⟨fa, wr_f a2 (e gC (by decide) (by decide) (by decide)), a2'⟩, fun c hc => chT_f (a3 c hc) (fun v hv => e v (by omega) (by omega) (by rintro rfl; have : gO % 16 = 10 := rfl; omega))⟩, ⟨wo_f b1 (e gE (by decide) (by decide) (by decide)), ⟨fb, wr_f b2 (e gT (by decide) (by decide) (by decide)), b2'⟩, fun c hc => trT_f (b3 c hc) (fun v hv => e v (by omega) (by omega) (by rintro rfl; have : gO % 16 = 10 := rfl; omega))⟩, airH_f h5 (fun v hv => e v (by omega) (by omega) (by rintro rfl; have : gO % 16 = 10 := rfl; omega))⟩
theorem moR_f (h : moR w s l X Y R L T np pc bad rej cla sl lw) (e : ∀ v, v % 16 = 9 → w' v = w v) : moR w' s l X Y R L T np pc bad rej cla sl lw := by
  obtain ⟨h1, h2, h3, h4, h5, h6, h7, h8, h9, f, hf⟩ := h
  have eA : ∀ k, w' (mA k) = w (mA k) := fun k => e _ (by unfold mA; omega)
  exact ⟨msR_f h1 (moO_f h1.1 (e 25 (by decide))) rfl rfl (fun k _ _ _ => eA k), akR_f h2 (eA _), h3, maR_f h4 rfl (eA _) (eA _) (eA _), hvR_f h5 (eA _) (eA _), ohR_f h6 (eA _), h7, h8, h9, f, wi_f hf (eA _)⟩
/-- only the code and scratch of the reference's object changed -/
theorem moR_0 (h : moR w s l X Y R L T np pc bad rej cla sl lw) (o : moO w' s' l') (e : ∀ v, v ≠ 25 → w' v = w v) (es : ∀ k, 0 < k → k < 24 → s' k = s k) : moR w' s' l' X Y R L T np pc bad rej cla sl lw := by
  obtain ⟨h1, h2, h3, h4, h5, h6, h7, h8, h9, f, hf⟩ := h
  have eA : ∀ k, 0 < k → w' (mA k) = w (mA k) := fun k hk => e _ (mA_25 hk)
  refine ⟨msR_f h1 o (es 11 (by omega) (by omega)) (es 5 (by omega) (by omega)) (fun k _ _ _ => eA k (by omega)), akR_f h2 (eA _ (by omega)), ?_, maR_f h4 (es 17 (by omega) (by omega)) (eA _ (by omega)) (eA _ (by omega)) (eA _ (by omega)), hvR_f h5 (eA _ (by omega)) (eA _ (by omega)), ohR_f h6 (eA _ (by omega)), ?_, ?_, ?_, f, wi_f hf (eA _ (by omega))⟩
  · rw [es 13 (by omega) (by omega)]; exact h3
  · rw [es 21 (by omega) (by omega)]; exact h7
  · rw [es 22 (by omega) (by omega)]; exact h8
  · rw [es 23 (by omega) (by omega)]; exact h9
theorem fu_id {α : Type} (f : Nat → α) (c : Nat) : fu f c (f c) = f := by
  funext j
  by_cases e : j = c
  · rw [e, fu_s]
  · rw [fu_n _ _ e]
/-- a channel and the station's object changed -/
theorem ciR_st {c : Nat} {y : Chs} (h : ciR w X Y R L T np pc bad rej cla sl lw) (hc : c < 4) (g : ∀ v, v % 16 ≠ 12 + c → v ≠ gS → w' v = w v) (ho : stO w' pc' bad' np' lw') (hch : chT w' c y) : ciR w' (fu X c y) Y R L T np' pc' bad' rej cla sl lw' := by
  obtain ⟨h1, h2, ⟨a1, ⟨fa, a2, a2'⟩, a3⟩, ⟨b1, ⟨fb, b2, b2'⟩, b3⟩, h5⟩ := h
  have hs : gS % 16 = 10 := rfl
  refine ⟨wk_12 h1 (g 1 (by omega) (by decide)) (g 2 (by omega) (by decide)), wo_f h2 (g gQ (by unfold gQ; omega) (by decide)), ⟨ho, ⟨fa, wr_f a2 (g gC (by unfold gC; omega) (by decide)), a2'⟩, fun c' hc' => ?_⟩, ⟨wo_f b1 (g gE (by unfold gE; omega) (by decide)), ⟨fb, wr_f b2 (g gT (by unfold gT; omega) (by decide)), b2'⟩, fun c' hc' => trT_f (b3 c' hc') (fun v hv => g v (by omega) (by rintro rfl; omega))⟩, airH_f h5 (fun v hv => g v (by omega) (by rintro rfl; omega))⟩
  by_cases e : c' = c
  · subst e; rw [fu_s]; exact hch
  · rw [fu_n _ _ e]
    exact chT_f (a3 c' hc') (fun v hv => g v (by omega) (by rintro rfl; omega))
theorem ciR_so (h : ciR w X Y R L T np pc bad rej cla sl lw) (g : ∀ v, v ≠ gS → w' v = w v) (ho : stO w' pc' bad' np' lw') : ciR w' X Y R L T np' pc' bad' rej cla sl lw' := by
  have := ciR_st (c := 0) (y := X 0) h (by omega) (fun v _ hv => g v hv) ho (chT_f (h.2.2.1.2.2 0 (by omega)) (fun v hv => g v (by rintro rfl; have : gS % 16 = 10 := rfl; omega)))
  rwa [fu_id] at this
theorem ciR_air (h : ciR w X Y R L T np pc bad rej cla sl lw) (g : ∀ v, v % 16 ≠ 8 → v % 16 ≠ 9 → w' v = w v) (ha : airR w' sl' R' L' T') : ciR w' X Y R' L' T' np pc bad rej cla sl' lw := by
  obtain ⟨h1, h2, ⟨a1, ⟨fa, a2, a2'⟩, a3⟩, ⟨b1, ⟨fb, b2, b2'⟩, b3⟩, h5⟩ := h
  exact ⟨wk_12 h1 (g 1 (by decide) (by decide)) (g 2 (by decide) (by decide)), wo_f h2 (g gQ (by decide) (by decide)), ⟨wo_f a1 (g gS (by decide) (by decide)), ⟨fa, wr_f a2 (g gC (by decide) (by decide)), a2'⟩, fun c hc => chT_f (a3 c hc) (fun v hv => g v (by omega) (by omega))⟩, ⟨wo_f b1 (g gE (by decide) (by decide)), ⟨fb, wr_f b2 (g gT (by decide) (by decide)), b2'⟩, fun c hc => trT_f (b3 c hc) (fun v hv => g v (by omega) (by omega))⟩, ha⟩
/-- a channel, the station's object, the air (and all of the reference) changed -/
theorem ciR_sa {c : Nat} {y : Chs} (h : ciR w X Y R L T np pc bad rej cla sl lw) (hc : c < 4) (g : ∀ v, v % 16 ≠ 8 → v % 16 ≠ 9 → v % 16 ≠ 12 + c → v ≠ gS → w' v = w v) (ho : stO w' pc' bad' np' lw') (hch : chT w' c y) (ha : airR w' sl' R' L' T') : ciR w' (fu X c y) Y R' L' T' np' pc' bad' rej cla sl' lw' := by
  obtain ⟨h1, h2, ⟨a1, ⟨fa, a2, a2'⟩, a3⟩, ⟨b1, ⟨fb, b2, b2'⟩, b3⟩, h5⟩ := h
  have hs : gS % 16 = 10 := rfl
  refine ⟨wk_12 h1 (g 1 (by decide) (by decide) (by omega) (by decide)) (g 2 (by decide) (by decide) (by omega) (by decide)), wo_f h2 (g gQ (by decide) (by decide) (by unfold gQ; omega) (by decide)), ⟨ho, ⟨fa, wr_f a2 (g gC (by decide) (by decide) (by unfold gC; omega) (by decide)), a2'⟩, fun c' hc' => ?_⟩, ⟨wo_f b1 (g gE (by decide) (by decide) (by unfold gE; omega) (by decide)), ⟨fb, wr_f b2 (g gT (by decide) (by decide) (by unfold gT; omega) (by decide)), b2'⟩, fun c' hc' => trT_f (b3 c' hc') (fun v hv => g v (by omega) (by omega) (by omega) (by rintro rfl; omega))⟩, ha⟩
  by_cases e : c' = c
  · subst e; rw [fu_s]; exact hch
  · rw [fu_n _ _ e]
    exact chT_f (a3 c' hc') (fun v hv => g v (by omega) (by omega) (by omega) (by rintro rfl; omega))
/-- a track and the centre's object changed -/
theorem ciR_tr {c : Nat} {y : Trs} (h : ciR w X Y R L T np pc bad rej cla sl lw) (hc : c < 4) (g : ∀ v, v % 16 ≠ 11 → v % 16 ≠ 4 + c → v ≠ gE → w' v = w v) (ho : ceO w' rej' cla') (htr : trT w' c y) : ciR w' X (fu Y c y) R L T np pc bad rej' cla' sl lw := by
  obtain ⟨h1, h2, ⟨a1, ⟨fa, a2, a2'⟩, a3⟩, ⟨b1, ⟨fb, b2, b2'⟩, b3⟩, h5⟩ := h
  have hs : gE % 16 = 10 := rfl
  refine ⟨wk_12 h1 (g 1 (by decide) (by omega) (by decide)) (g 2 (by decide) (by omega) (by decide)), wo_f h2 (g gQ (by decide) (by unfold gQ; omega) (by decide)), ⟨wo_f a1 (g gS (by decide) (by unfold gS; omega) (by decide)), ⟨fa, wr_f a2 (g gC (by decide) (by unfold gC; omega) (by decide)), a2'⟩, fun c' hc' => chT_f (a3 c' hc') (fun v hv => g v (by omega) (by omega) (by rintro rfl; omega))⟩, ⟨ho, ⟨fb, wr_f b2 (g gT (by decide) (by unfold gT; omega) (by decide)), b2'⟩, fun c' hc' => ?_⟩, airH_f h5 (fun v hv => g v (by omega) (by omega) (by rintro rfl; omega))⟩
  by_cases e : c' = c
  · subst e; rw [fu_s]; exact htr
  · rw [fu_n _ _ e]
    exact trT_f (b3 c' hc') (fun v hv => g v (by omega) (by omega) (by rintro rfl; omega))
theorem ciR_ce (h : ciR w X Y R L T np pc bad rej cla sl lw) (g : ∀ v, v % 16 ≠ 11 → v ≠ gE → w' v = w v) (ho : ceO w' rej' cla') : ciR w' X Y R L T np pc bad rej' cla' sl lw := by
  have := ciR_tr (c := 0) (y := Y 0) h (by omega) (fun v h1 _ h3 => g v h1 h3) ho (trT_f (h.2.2.2.1.2.2 0 (by omega)) (fun v hv => g v (by omega) (by rintro rfl; have : gE % 16 = 10 := rfl; omega)))
  rwa [fu_id] at this
theorem jN_up {k nc ns nc' ns' : Nat} (h : jN k X Y sl nc ns) (h1 : nc' ≤ nc + 1) (h2 : ns' ≤ ns + 6) : jN (k + 1) X Y sl nc' ns' := by
  obtain ⟨a, b⟩ := h
  exact ⟨by omega, by omega⟩
theorem jP_up {k : Nat} (h : jP k X np pc sl) (hk : k < 512) : jP (k + 1) X np pc sl := by
  obtain ⟨h1, h2, h3, h4, h5, h6⟩ := h
  exact ⟨h1, h2, h3, by omega, by omega, by omega⟩
theorem mkC_33 (x : Chs) : mkC x ≤ 33 := by unfold mkC; omega
theorem jN_room {k nc ns : Nat} (h : jN k X Y sl nc ns) (hk : k ≤ 512) : nc ≤ 601024 ∧ ns ≤ 7293034 := by
  obtain ⟨a, b⟩ := h
  have h1 := sum4_le (g := fun c => mkC (X c)) (b := 33) (fun c _ => mkC_33 _)
  have h2 := sum4_le (g := fun c => cnt (yP (Y c)) 32) (b := 32) (fun c _ => cnt_le _ _)
  exact ⟨by omega, by omega⟩
end Jo
