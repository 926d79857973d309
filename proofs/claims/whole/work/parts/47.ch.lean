/-! ===== the channel ===== -/
def cO (c : Nat) : Nat := 28 + c
def cA (c : Nat) : Nat := 44 + c
def cB (c : Nat) : Nat := 60 + c
def cP (c : Nat) : Nat := 76 + c
def cK (c p : Nat) : Nat := 16 * (8 + 4 * p) + 12 + c
def cM (c p : Nat) : Nat := 16 * (9 + 4 * p) + 12 + c
def cR (c p : Nat) : Nat := 16 * (10 + 4 * p) + 12 + c
def cL (c p : Nat) : Nat := 16 * (11 + 4 * p) + 12 + c
def frP (c p : Nat) (w w' : qk_W) : Prop := ∀ v, v ≠ cK c p → v ≠ cM c p → v ≠ cR c p → v ≠ cL c p → w' v = w v
theorem frP_R {c p : Nat} {w w' : qk_W} (hc : c < 4) (h : frP c p w w') : frR (12 + c) w w' := fun v hv => h v (by rintro rfl; exact hv (by unfold cK; omega)) (by rintro rfl; exact hv (by unfold cM; omega)) (by rintro rfl; exact hv (by unfold cR; omega)) (by rintro rfl; exact hv (by unfold cL; omega))
theorem fr_P {c p : Nat} {l : List Nat} {w w' : qk_W} (h : fr l w w') (hl : ∀ a ∈ l, a = cK c p ∨ a = cM c p ∨ a = cR c p ∨ a = cL c p) : frP c p w w' := fun v h1 h2 h3 h4 => h v (fun x => by rcases hl v x with e | e | e | e <;> first | exact h1 e | exact h2 e | exact h3 e | exact h4 e)
def chI (S : Nat → Int32) (tk cl : Nat) (F q : Nat → Nat) (us : Nat) : Prop :=
  F 0 = 0 ∧ (∀ s, s < cl → F s < F (s + 1) ∧ F (s + 1) ≤ F s + 1000 ∧ szP S (F s) (F (s + 1) - F s) ≤ 512 ∧ q s ≤ 100) ∧ F cl ≤ tk ∧ tk ≤ 32768 ∧ tk ≤ F cl + 1000 ∧ (F cl < tk → szP S (F cl) (tk - F cl) ≤ 512) ∧ us ≤ cl
def chF (w : qk_W) (c tk cl ic us : Nat) (A : Nat → Bool) (mk : Nat) : Prop :=
  wo w (cO c) 2 [.ref (cA c), .int (nI tk), .int (nI c), .ref (cP c), .int (nI cl), .int (nI ic), .int (nI us)] ∧ nsR w (cA c) (cB c) A ∧
  (∃ f, wr "QuakeLink$Packet" w (cP c) 33 f ∧ ∀ p, p < 33 → f p = if p < mk then some (cK c p) else none) ∧
  (∀ p, p < 33 → mk ≤ p → w (cK c p) = none ∧ w (cM c p) = none ∧ w (cR c p) = none ∧ w (cL c p) = none)
def chP (w : qk_W) (c : Nat) (S : Nat → Int32) (cl : Nat) (F q od : Nat → Nat) (mk j0 : Nat) : Prop :=
  (∀ p, p < 33 → p < mk → p ≠ j0 → anR w (cK c p) (cM c p) (cR c p) (cL c p)) ∧
  ∀ s, s < cl → cl ≤ s + 32 → s % 33 ≠ j0 → clR w (cK c (s % 33)) (cM c (s % 33)) (cR c (s % 33)) (cL c (s % 33)) c S (F s) (F (s + 1) - F s) (q s) (od s)
def mkN (cl ic tk : Nat) : Nat := cl + if ic < tk then 1 else 0
def chR (w : qk_W) (c : Nat) (S : Nat → Int32) (tk cl : Nat) (F q od : Nat → Nat) (us : Nat) (A : Nat → Bool) : Prop :=
  c < 4 ∧ chI S tk cl F q us ∧ chF w c tk cl (F cl) us A (mkN cl (F cl) tk) ∧ chP w c S cl F q od (mkN cl (F cl) tk) 33 ∧
  (F cl < tk → opR w (cK c (cl % 33)) (cM c (cl % 33)) (cR c (cl % 33)) (cL c (cl % 33)) c S (F cl) (tk - F cl))
theorem chF_f {w w' : qk_W} {c tk cl ic us mk : Nat} {A : Nat → Bool} (hc : c < 4) (h : chF w c tk cl ic us A mk) (e : ∀ v, v % 16 = 12 + c → w' v = w v) : chF w' c tk cl ic us A mk := by
  obtain ⟨h1, h2, ⟨f, h3, h4⟩, h5⟩ := h
  refine ⟨wo_f h1 (e _ (by unfold cO; omega)), nsR_f h2 (e _ (by unfold cA; omega)) (e _ (by unfold cB; omega)), ⟨f, wr_f h3 (e _ (by unfold cP; omega)), h4⟩, fun p a b => ?_⟩
  rw [e _ (by unfold cK; omega), e _ (by unfold cM; omega), e _ (by unfold cR; omega), e _ (by unfold cL; omega)]
  exact h5 p a b
theorem chF_p {w w' : qk_W} {c tk cl ic us mk p0 : Nat} {A : Nat → Bool} (h : chF w c tk cl ic us A mk) (hp : p0 < mk) (e : frP c p0 w w') : chF w' c tk cl ic us A mk := by
  obtain ⟨h1, h2, ⟨f, h3, h4⟩, h5⟩ := h
  refine ⟨wo_f h1 (e _ (by unfold cO cK; omega) (by unfold cO cM; omega) (by unfold cO cR; omega) (by unfold cO cL; omega)), nsR_f h2 (e _ (by unfold cA cK; omega) (by unfold cA cM; omega) (by unfold cA cR; omega) (by unfold cA cL; omega)) (e _ (by unfold cB cK; omega) (by unfold cB cM; omega) (by unfold cB cR; omega) (by unfold cB cL; omega)), ⟨f, wr_f h3 (e _ (by unfold cP cK; omega) (by unfold cP cM; omega) (by unfold cP cR; omega) (by unfold cP cL; omega)), h4⟩, fun p a b => ?_⟩
  rw [e (cK c p) (by unfold cK; omega) (by unfold cK cM; omega) (by unfold cK cR; omega) (by unfold cK cL; omega), e (cM c p) (by unfold cM cK; omega) (by unfold cM; omega) (by unfold cM cR; omega) (by unfold cM cL; omega), e (cR c p) (by unfold cR cK; omega) (by unfold cR cM; omega) (by unfold cR; omega) (by unfold cR cL; omega), e (cL c p) (by unfold cL cK; omega) (by unfold cL cM; omega) (by unfold cL cR; omega) (by unfold cL; omega)]
  exact h5 p a b
theorem chP_x {w w' : qk_W} {c cl mk j0 : Nat} {S : Nat → Int32} {F q od : Nat → Nat} (h : chP w c S cl F q od mk j0) (e : ∀ p, p < 33 → p < mk ∨ p < cl → p ≠ j0 → w' (cK c p) = w (cK c p) ∧ w' (cM c p) = w (cM c p) ∧ w' (cR c p) = w (cR c p) ∧ w' (cL c p) = w (cL c p)) : chP w' c S cl F q od mk j0 := by
  obtain ⟨h1, h2⟩ := h
  refine ⟨fun p a b g => ?_, fun s a b g => ?_⟩
  · obtain ⟨e1, e2, e3, e4⟩ := e p a (Or.inl b) g
    exact anR_f (h1 p a b g) e1 e2 e3 e4
  · obtain ⟨e1, e2, e3, e4⟩ := e (s % 33) (by omega) (Or.inr (by omega)) g
    exact clR_f (h2 s a b g) e1 e2 e3 e4
theorem chP_p {w w' : qk_W} {c cl mk j0 : Nat} {S : Nat → Int32} {F q od : Nat → Nat} (h : chP w c S cl F q od mk j0) (e : frP c j0 w w') : chP w' c S cl F q od mk j0 := by
  refine chP_x h (fun p _ _ g => ⟨?_, ?_, ?_, ?_⟩)
  · exact e (cK c p) (by unfold cK; omega) (by unfold cK cM; omega) (by unfold cK cR; omega) (by unfold cK cL; omega)
  · exact e (cM c p) (by unfold cM cK; omega) (by unfold cM; omega) (by unfold cM cR; omega) (by unfold cM cL; omega)
  · exact e (cR c p) (by unfold cR cK; omega) (by unfold cR cM; omega) (by unfold cR; omega) (by unfold cR cL; omega)
  · exact e (cL c p) (by unfold cL cK; omega) (by unfold cL cM; omega) (by unfold cL cR; omega) (by unfold cL; omega)
theorem chP_hole {w : qk_W} {c cl mk : Nat} {S : Nat → Int32} {F q od : Nat → Nat} (h : chP w c S cl F q od mk 33) (j0 : Nat) : chP w c S cl F q od mk j0 := ⟨fun p a b _ => h.1 p a b (by omega), fun s a b _ => h.2 s a b (by omega)⟩
theorem chR_f {w w' : qk_W} {c : Nat} {S : Nat → Int32} {tk cl : Nat} {F q od : Nat → Nat} {us : Nat} {A : Nat → Bool} (h : chR w c S tk cl F q od us A) (e : ∀ v, v % 16 = 12 + c → w' v = w v) : chR w' c S tk cl F q od us A := by
  obtain ⟨h1, h2, h3, h4, h5⟩ := h
  refine ⟨h1, h2, chF_f h1 h3 e, chP_x h4 (fun p _ _ _ => ⟨e _ (by unfold cK; omega), e _ (by unfold cM; omega), e _ (by unfold cR; omega), e _ (by unfold cL; omega)⟩), fun g => opR_f (h5 g) (e _ (by unfold cK; omega)) (e _ (by unfold cM; omega)) (e _ (by unfold cR; omega)) (e _ (by unfold cL; omega))⟩
theorem chI_mono {S : Nat → Int32} {tk cl : Nat} {F q : Nat → Nat} {us : Nat} (h : chI S tk cl F q us) : ∀ t, t ≤ cl → ∀ s, s ≤ t → F s + (t - s) ≤ F t := by
  intro t
  induction t with
  | zero => intro _ s hs; rw [show s = 0 by omega]; omega
  | succ t ih =>
    intro ht s hs
    by_cases e : s = t + 1
    · rw [e]; omega
    · have := ih (by omega) s (by omega)
      have := (h.2.1 t (by omega)).1
      omega
theorem chI_cl {S : Nat → Int32} {tk cl : Nat} {F q : Nat → Nat} {us : Nat} (h : chI S tk cl F q us) : cl ≤ 32768 ∧ F cl ≤ 32768 := by
  have := chI_mono h cl (Nat.le_refl _) 0 (Nat.zero_le _)
  have := h.2.2.1
  have := h.2.2.2.1
  omega
theorem chR_congr {w : qk_W} {c : Nat} {S S' : Nat → Int32} {tk cl : Nat} {F F' q q' od od' : Nat → Nat} {us : Nat} {A : Nat → Bool} (h : chR w c S tk cl F q od us A) (eS : ∀ i, i < tk → S i = S' i) (eF : ∀ s, s ≤ cl → F s = F' s) (eq : ∀ s, s < cl → q s = q' s) (eo : ∀ s, s < cl → od s = od' s) : chR w c S' tk cl F' q' od' us A := by
  obtain ⟨h1, h2, h3, h4, h5⟩ := h
  have hm := chI_mono h2 cl (Nat.le_refl _)
  have hi := h2
  obtain ⟨i1, i2, i3, i4, i5, i6, i7⟩ := h2
  refine ⟨h1, ⟨?_, fun s hs => ?_, ?_, i4, ?_, fun g => ?_, i7⟩, ?_, ⟨by rw [← eF cl (Nat.le_refl _)]; exact h4.1, fun s a b g => ?_⟩, fun g => ?_⟩
  · rw [← eF 0 (Nat.zero_le _)]; exact i1
  · rw [← eF s (by omega), ← eF (s + 1) (by omega), ← eq s hs]
    obtain ⟨a1, a2, a3, a4⟩ := i2 s hs
    refine ⟨a1, a2, ?_, a4⟩
    rw [← szP_congr (S := S) (fun i g1 g2 => eS i (by have := hm (s + 1) (by omega); omega)) (by omega)]
    exact a3
  · rw [← eF cl (Nat.le_refl _)]; exact i3
  · rw [← eF cl (Nat.le_refl _)]; exact i5
  · rw [← eF cl (Nat.le_refl _)] at g ⊢
    rw [← szP_congr (S := S) (fun i g1 g2 => eS i (by omega)) (by omega)]
    exact i6 g
  · rw [← eF cl (Nat.le_refl _)]; exact h3
  · have := h4.2 s a b g
    rw [← eF s (by omega), ← eF (s + 1) (by omega), ← eq s a, ← eo s a]
    exact clR_congr this (by have := (i2 s a).1; omega) (fun i g1 g2 => eS i (by have := hm (s + 1) (by omega); have := (i2 s a).1; omega))
  · rw [← eF cl (Nat.le_refl _)] at g ⊢
    exact opR_congr (h5 g) (by omega) (fun i g1 g2 => eS i (by omega))
section ChC
variable {d : Nat} {w : qk_W} {nc ns : Nat} {Q : Option Value ⊕ Nat → qk_W → Nat → Nat → Prop} {c tk cl ic us mk : Nat} {A : Nat → Bool} {S : Nat → Int32} {F q od : Nat → Nat}
theorem c_packet {s : Nat} (h : chF w c tk cl ic us A mk) (hs : s < 2 ^ 31) (hm : s % 33 < mk) (hq : Q (.inl (some (.ref (cK c (s % 33))))) w nc ns) : Ev (d + 1) m_Ch_packet 0 [some (.ref (cO c)), some (.int (nI s)), none] [] w nc ns Q := by
  obtain ⟨h1, h2, ⟨f, h3, h4⟩, h5⟩ := h
  have hp : s % 33 < 33 := Nat.mod_lt _ (by omega)
  refine t_Ch_packet_0 h1 rfl h3.2 rfl (Nat.le_of_ble_eq_true rfl) (c_floorMod (b := 33) hs (by omega) (by omega) ?_)
  have e : f (nI (s % 33)).toNatClampNeg = some (cK c (s % 33)) := by rw [nI_clamp (by omega), h4 _ hp, if_pos hm]
  exact t_Ch_packet_9 rfl h1 rfl h3 (vp_in_nI hp (by omega)) e (t_Ch_packet_32 h1 rfl h3 (vp_in_nI hp (by omega)) e hq)
theorem c_packet_new (h : chF w c tk cl ic us A mk) (hc : c < 4) (hm : mk < 33) (hq : ∀ w', frR (12 + c) w w' → chF w' c tk cl ic us A (mk + 1) → anR w' (cK c mk) (cM c mk) (cR c mk) (cL c mk) → (∀ p, p ≠ mk → w' (cK c p) = w (cK c p) ∧ w' (cM c p) = w (cM c p) ∧ w' (cR c p) = w (cR c p) ∧ w' (cL c p) = w (cL c p)) → Q (.inl (some (.ref (cK c mk)))) w' (nc + 4) (ns + 539)) :
    Ev (d + 3) m_Ch_packet 0 [some (.ref (cO c)), some (.int (nI mk)), none] [] w nc ns Q := by
  obtain ⟨h1, h2, ⟨f, h3, h4⟩, h5⟩ := h
  have e33 : mk % 33 = mk := Nat.mod_eq_of_lt hm
  obtain ⟨n1, n2, n3, n4⟩ := h5 mk hm (Nat.le_refl _)
  refine t_Ch_packet_0 h1 rfl h3.2 rfl (Nat.le_of_ble_eq_true rfl) (c_floorMod (b := 33) (by omega) (by omega) (by omega) ?_)
  rw [e33]
  have cl' : (nI mk).toNatClampNeg = mk := nI_clamp (by omega)
  refine t_Ch_packet_9n rfl h1 rfl h3 (vp_in_nI hm (by omega)) (by rw [cl', h4 _ hm, if_neg (Nat.lt_irrefl _)]) ?_
  refine t_Ch_packet_19 (cK c mk) (by unfold cK; omega) n1 h1 rfl (es_w (fun w1 e1 f1 => ?_))
  refine t_Ch_packet_27 (Nat.le_of_ble_eq_true rfl) (c_Pa_init (ms := cM c mk) (rw' := cR c mk) (bl := cL c mk) ⟨by unfold cK; omega, e1⟩ ⟨by unfold cM; omega, ?_⟩ ⟨by unfold cR; omega, ?_⟩ ⟨by unfold cL; omega, ?_⟩ (by unfold cM cR; omega) (by unfold cM cL; omega) (by unfold cR cL; omega) (fun w2 f2 a2 => ?_))
  · rw [f1 _ (by unfold cM cK; omega)]; exact n2
  · rw [f1 _ (by unfold cR cK; omega)]; exact n3
  · rw [f1 _ (by unfold cL cK; omega)]; exact n4
  have fP : frP c mk w w2 := fun v g1 g2 g3 g4 => (f2 v (by simp [g1, g2, g3, g4])).trans (f1 v g1)
  have ePr : ∀ {v}, v = cP c → w2 v = w v := fun {v} hv => by subst hv; exact fP _ (by unfold cP cK; omega) (by unfold cP cM; omega) (by unfold cP cR; omega) (by unfold cP cL; omega)
  have a2' := a2
  obtain ⟨_, _, _, _, _, _, _, _, _, _, _, pk⟩ := a2
  refine t_Ch_packet_31 (wr_f h3 (ePr rfl)) (vp_in_nI hm (by omega)) pk.1 (es_w (fun w3 e3 f3 => ?_))
  rw [cl'] at e3
  have o3 : wo w3 (cO c) 2 [.ref (cA c), .int (nI tk), .int (nI c), .ref (cP c), .int (nI cl), .int (nI ic), .int (nI us)] := wo_f h1 (by rw [f3 _ (by unfold cO cP; omega)]; exact fP _ (by unfold cO cK; omega) (by unfold cO cM; omega) (by unfold cO cR; omega) (by unfold cO cL; omega))
  have r3 : wr "QuakeLink$Packet" w3 (cP c) 33 (va_up f mk (some (cK c mk))) := ⟨h3.1, e3⟩
  refine t_Ch_packet_32 o3 rfl r3 (vp_in_nI hm (by omega)) (by rw [cl', va_up_self]) (hq w3 ?_ ⟨o3, ?_, ⟨_, r3, ?_⟩, ?_⟩ ?_ ?_)
  · intro v hv
    rw [f3 v (by rintro rfl; exact hv (by unfold cP; omega))]
    exact frP_R hc fP v hv
  · refine nsR_f h2 ?_ ?_
    · rw [f3 _ (by unfold cA cP; omega)]; exact fP _ (by unfold cA cK; omega) (by unfold cA cM; omega) (by unfold cA cR; omega) (by unfold cA cL; omega)
    · rw [f3 _ (by unfold cB cP; omega)]; exact fP _ (by unfold cB cK; omega) (by unfold cB cM; omega) (by unfold cB cR; omega) (by unfold cB cL; omega)
  · intro p hp
    by_cases hpm : p = mk
    · subst hpm; rw [va_up_self, if_pos (by omega)]
    · rw [va_up_ne _ _ hpm, h4 p hp]
      by_cases g : p < mk
      · rw [if_pos g, if_pos (by omega)]
      · rw [if_neg g, if_neg (by omega)]
  · intro p hp hpm
    rw [f3 _ (by unfold cK cP; omega), f3 _ (by unfold cM cP; omega), f3 _ (by unfold cR cP; omega), f3 _ (by unfold cL cP; omega), fP (cK c p) (by unfold cK; omega) (by unfold cK cM; omega) (by unfold cK cR; omega) (by unfold cK cL; omega), fP (cM c p) (by unfold cM cK; omega) (by unfold cM; omega) (by unfold cM cR; omega) (by unfold cM cL; omega), fP (cR c p) (by unfold cR cK; omega) (by unfold cR cM; omega) (by unfold cR; omega) (by unfold cR cL; omega), fP (cL c p) (by unfold cL cK; omega) (by unfold cL cM; omega) (by unfold cL cR; omega) (by unfold cL; omega)]
    exact h5 p hp (by omega)
  · exact anR_f a2' (f3 _ (by unfold cK cP; omega)) (f3 _ (by unfold cM cP; omega)) (f3 _ (by unfold cR cP; omega)) (f3 _ (by unfold cL cP; omega))
  · intro p hpm
    rw [f3 _ (by unfold cK cP; omega), f3 _ (by unfold cM cP; omega), f3 _ (by unfold cR cP; omega), f3 _ (by unfold cL cP; omega)]
    exact ⟨fP (cK c p) (by unfold cK; omega) (by unfold cK cM; omega) (by unfold cK cR; omega) (by unfold cK cL; omega), fP (cM c p) (by unfold cM cK; omega) (by unfold cM; omega) (by unfold cM cR; omega) (by unfold cM cL; omega), fP (cR c p) (by unfold cR cK; omega) (by unfold cR cM; omega) (by unfold cR; omega) (by unfold cR cL; omega), fP (cL c p) (by unfold cL cK; omega) (by unfold cL cM; omega) (by unfold cL cR; omega) (by unfold cL; omega)⟩
theorem c_inOpen (h : chF w c tk cl ic us A mk) (hi : ic ≤ tk) (hq : Q (.inl (some (.int (nI (tk - ic))))) w nc ns) : Ev d m_Ch_inOpen 0 [some (.ref (cO c))] [] w nc ns Q :=
  t_Ch_inOpen_0 h.1 rfl rfl (by rw [pk_sub hi]; exact hq)
theorem c_inRing (h : chF w c tk cl ic us A mk) (hi : cl < 2 ^ 31) (hq : Q (.inl (some (.int (nI (min cl 32))))) w nc ns) : Ev (d + 1) m_Ch_inRing 0 [some (.ref (cO c))] [] w nc ns Q := by
  refine t_Ch_inRing_0 h.1 rfl (Nat.le_of_ble_eq_true rfl) (c_min ?_)
  rw [show (32 : Int32) = nI 32 from rfl, imin_nI hi (by omega)]
  exact t_Ch_inRing_9 hq
theorem c_firstOfRing (h : chF w c tk cl ic us A mk) (hi : cl < 2 ^ 31) (hq : Q (.inl (some (.int (nI (cl - 32))))) w nc ns) : Ev (d + 2) m_Ch_firstOfRing 0 [some (.ref (cO c))] [] w nc ns Q := by
  refine t_Ch_firstOfRing_0 h.1 rfl (Nat.le_of_ble_eq_true rfl) (c_inRing h hi (t_Ch_firstOfRing_8 ?_))
  rw [pk_sub (by omega), show cl - min cl 32 = cl - 32 by omega]
  exact hq
theorem c_firstThatWaits (h : chF w c tk cl ic us A mk) (hi : cl < 2 ^ 31) (hu : us < 2 ^ 31) (hq : Q (.inl (some (.int (nI (max us (cl - 32)))))) w nc ns) : Ev (d + 3) m_Ch_firstThatWaits 0 [some (.ref (cO c))] [] w nc ns Q := by
  refine t_Ch_firstThatWaits_0 h.1 rfl (Nat.le_of_ble_eq_true rfl) (c_firstOfRing h hi ?_)
  refine t_Ch_firstThatWaits_8 (Nat.le_of_ble_eq_true rfl) (c_max ?_)
  rw [imax_nI hu (by omega)]
  exact t_Ch_firstThatWaits_11 hq
theorem c_howManyWait (h : chR w c S tk cl F q od us A) (hq : Q (.inl (some (.int (nI (cl - max us (cl - 32)))))) w nc ns) : Ev (d + 4) m_Ch_howManyWait 0 [some (.ref (cO c))] [] w nc ns Q := by
  have hcl := chI_cl h.2.1
  have hus := h.2.1.2.2.2.2.2.2
  refine t_Ch_howManyWait_0 h.2.2.1.1 rfl (Nat.le_of_ble_eq_true rfl) (c_firstThatWaits h.2.2.1 (by omega) (by omega) (t_Ch_howManyWait_8 ?_))
  rw [pk_sub (by omega)]
  exact hq
theorem mkN_le (cl ic tk : Nat) : cl ≤ mkN cl ic tk := by unfold mkN; omega
theorem c_oldest (h : chR w c S tk cl F q od us A) (hq : Q (.inl (some (.int (nI (F (cl - 32)))))) w nc ns) : Ev (d + 3) m_Ch_oldest 0 [some (.ref (cO c))] [] w nc ns Q := by
  have hcl := chI_cl h.2.1
  have hmk := mkN_le cl (F cl) tk
  obtain ⟨h1, h2, h3, h4, h5⟩ := h
  refine t_Ch_oldest_0 h3.1 rfl (fun g => ?_) (fun g => t_Ch_oldest_7 ?_)
  · have h0 : 0 < cl := by
      rcases Nat.eq_zero_or_pos cl with e | e
      · rw [e] at g; exact absurd rfl g
      · exact e
    refine t_Ch_oldest_11 h3.1 (Nat.le_of_ble_eq_true rfl) (c_firstOfRing h3 (by omega) ?_)
    refine t_Ch_oldest_16 h3.1 (Nat.le_of_ble_eq_true rfl) (c_packet h3 (by omega) (by omega) ?_)
    obtain ⟨_, _, _, _, _, _, _, p1, _⟩ := h4.2 (cl - 32) (by omega) (by omega) (by omega)
    exact t_Ch_oldest_19 p1.1 rfl hq
  · have h0 : cl = 0 := (nI_eq (b := 0) (by omega) (by omega)).mp g
    subst h0
    rw [Nat.zero_sub, h2.1] at hq
    exact hq
theorem c_mustClose {x : Int32} (hk : wk w) (h : chR w c S tk cl F q od us A) (hx : S tk = x) (hq : Q (.inl (some (.int (b2i (decide (F cl < tk) && !decide (szP S (F cl) (tk - F cl + 1) ≤ 512)))))) w nc ns) :
    Ev (d + 4) m_Ch_mustCloseBefore 0 [some (.ref (cO c)), some (.int x)] [] w nc ns Q := by
  have hcl := chI_cl h.2.1
  obtain ⟨h1, h2, h3, h4, h5⟩ := h
  have i3 := h2.2.2.1
  have i4 := h2.2.2.2.1
  refine t_Ch_mustCloseBefore_0 h3.1 (Nat.le_of_ble_eq_true rfl) (c_inOpen h3 i3 ?_)
  refine t_Ch_mustCloseBefore_4 (fun g => t_Ch_mustCloseBefore_26 ?_) (fun g => ?_)
  · have : tk - F cl ≤ 0 := (nI_leI (b := 0) (by omega) (by omega)).mp g
    rw [decide_eq_false (by omega), Bool.false_and] at hq
    exact hq
  · have hlt : F cl < tk := by
      rcases Nat.lt_or_ge (F cl) tk with e | e
      · exact e
      · exact absurd (by rw [show tk - F cl = 0 by omega]; decide) g
    have hp := h5 hlt
    refine t_Ch_mustCloseBefore_7 h3.1 rfl (Nat.le_of_ble_eq_true rfl) (c_packet h3 (by omega) (by unfold mkN; rw [if_pos hlt]; omega) ?_)
    have hp' := hp
    obtain ⟨_, _, _, _, pk, _⟩ := hp'
    refine t_Ch_mustCloseBefore_15 pk.1 (Nat.le_of_ble_eq_true rfl) (c_pfits hk hp (by omega) (by rw [show F cl + (tk - F cl) = tk by omega]; exact hx) (h2.2.2.2.2.2.1 hlt) ?_)
    rw [decide_eq_true hlt, Bool.true_and] at hq
    refine t_Ch_mustCloseBefore_19 (fun g => t_Ch_mustCloseBefore_26 ?_) (fun g => t_Ch_mustCloseBefore_22 ?_)
    · cases hb : decide (szP S (F cl) (tk - F cl + 1) ≤ 512) with
      | true => rw [hb] at hq; exact hq
      | false => rw [hb] at g; exact absurd rfl g
    · cases hb : decide (szP S (F cl) (tk - F cl + 1) ≤ 512) with
      | true => rw [hb] at g; exact absurd g (by decide)
      | false => rw [hb] at hq; exact hq
theorem c_chclose (hk : wk w) (h : chR w c S tk cl F q od us A) (hF : F (cl + 1) = tk) (ht : F cl < tk) (hq1 : q cl ≤ 100) (hq : ∀ w', frR (12 + c) w w' → chR w' c S tk (cl + 1) F q od us A → Q (.inl none) w' nc ns) :
    Ev (d + 3) m_Ch_close 0 [some (.ref (cO c)), some (.int (nI (q cl))), some (.int (nI (od cl)))] [] w nc ns Q := by
  have hcl := chI_cl h.2.1
  obtain ⟨h1, h2, h3, h4, h5⟩ := h
  obtain ⟨i1, i2, i3, i4, i5, i6, i7⟩ := h2
  have hmk : mkN cl (F cl) tk = cl + 1 := by unfold mkN; rw [if_pos ht]
  rw [hmk] at h3 h4
  have hp := h5 ht
  refine t_Ch_close_0 h3.1 rfl (Nat.le_of_ble_eq_true rfl) (c_packet h3 (by omega) (by omega) ?_)
  have hp' := hp
  obtain ⟨_, _, _, _, pk, _⟩ := hp'
  refine t_Ch_close_8 pk.1 (Nat.le_of_ble_eq_true rfl) (c_pclose (od := od cl) hk hp (by omega) (by omega) (by omega) (by unfold cR; omega) (i6 ht) (fun w1 f1 p1 => ?_))
  have fP : frP c (cl % 33) w w1 := fr_P f1 (fun a ha => by simpa using ha)
  have k3 := chF_p h3 (p0 := cl % 33) (by omega) fP
  have k4 := chP_p (chP_hole h4 (cl % 33)) fP
  refine t_Ch_close_13 k3.1 rfl (Nat.le_of_ble_eq_true rfl) (es_w (fun w2 e2 f2 => ?_))
  rw [nI_1] at e2
  refine t_Ch_close_23 ⟨by unfold cO; omega, e2⟩ rfl (Nat.le_of_ble_eq_true rfl) (es_w (fun w3 e3 f3 => ?_))
  have fO : ∀ v, v ≠ cO c → w3 v = w1 v := fun v hv => (f3 v hv).trans (f2 v hv)
  have hmk2 : mkN (cl + 1) (F (cl + 1)) tk = cl + 1 := by unfold mkN; rw [hF, if_neg (Nat.lt_irrefl _)]
  refine t_Ch_close_31 (hq w3 (fun v hv => ?_) ⟨h1, ⟨i1, fun s hs => ?_, ?_, i4, ?_, ?_, by omega⟩, ?_, ?_, ?_⟩)
  · rw [fO v (by rintro rfl; exact hv (by unfold cO; omega))]
    exact frP_R h1 fP v hv
  · by_cases e : s = cl
    · subst e
      rw [hF]
      exact ⟨ht, by omega, i6 ht, hq1⟩
    · exact i2 s (by omega)
  · rw [hF]; exact Nat.le_refl _
  · rw [hF]; omega
  · rw [hF]; intro g; omega
  · rw [hmk2, hF]
    obtain ⟨g1, g2, ⟨f, g3, g4⟩, g5⟩ := k3
    refine ⟨⟨by unfold cO; omega, e3⟩, nsR_f g2 (fO _ (by unfold cA cO; omega)) (fO _ (by unfold cB cO; omega)), ⟨f, wr_f g3 (fO _ (by unfold cP cO; omega)), g4⟩, fun p a b => ?_⟩
    rw [fO _ (by unfold cK cO; omega), fO _ (by unfold cM cO; omega), fO _ (by unfold cR cO; omega), fO _ (by unfold cL cO; omega)]
    exact g5 p a b
  · rw [hmk2]
    have k5 : ∀ p, clR w1 (cK c p) (cM c p) (cR c p) (cL c p) c S (F cl) (F (cl + 1) - F cl) (q cl) (od cl) → clR w3 (cK c p) (cM c p) (cR c p) (cL c p) c S (F cl) (F (cl + 1) - F cl) (q cl) (od cl) := fun p hp => clR_f hp (fO _ (by unfold cK cO; omega)) (fO _ (by unfold cM cO; omega)) (fO _ (by unfold cR cO; omega)) (fO _ (by unfold cL cO; omega))
    have k6 := chP_x (w' := w3) k4 (fun p _ _ _ => ⟨fO _ (by unfold cK cO; omega), fO _ (by unfold cM cO; omega), fO _ (by unfold cR cO; omega), fO _ (by unfold cL cO; omega)⟩)
    have p2 := k5 (cl % 33) (by rw [hF]; exact p1)
    refine ⟨fun p a b _ => ?_, fun s a b _ => ?_⟩
    · by_cases e : p = cl % 33
      · rw [e]; exact clR_an p2
      · exact k6.1 p a b e
    · by_cases e : s = cl
      · rw [e]; exact p2
      · exact k6.2 s (by omega) (by omega) (by omega)
  · rw [hF]; intro g; omega
theorem c_chadd {x : Int32} (hk : wk w) (h : chR w c S tk cl F q od us A) (hx : S tk = x) (ht : tk < 32768) (hlim : tk < F cl + 1000) (hfit : F cl < tk → szP S (F cl) (tk - F cl + 1) ≤ 512)
    (hq : ∀ w', frR (12 + c) w w' → chR w' c S (tk + 1) cl F q od us A → Q (.inl none) w' (nc + if F cl = tk ∧ cl < 33 then 4 else 0) (ns + if F cl = tk ∧ cl < 33 then 539 else 0)) :
    Ev (d + 4) m_Ch_add 0 [some (.ref (cO c)), some (.int x), none] [] w nc ns Q := by
  have hcl := chI_cl h.2.1
  obtain ⟨h1, h2, h3, h4, h5⟩ := h
  obtain ⟨i1, i2, i3, i4, i5, i6, i7⟩ := h2
  -- what is left once the packet is there
  have fin : ∀ w1 nc1 ns1, frR (12 + c) w w1 → chF w1 c tk cl (F cl) us A (cl + 1) → chP w1 c S cl F q od (cl + 1) (cl % 33) → opR w1 (cK c (cl % 33)) (cM c (cl % 33)) (cR c (cl % 33)) (cL c (cl % 33)) c S (F cl) (tk + 1 - F cl) → nc1 = (nc + if F cl = tk ∧ cl < 33 then 4 else 0) → ns1 = (ns + if F cl = tk ∧ cl < 33 then 539 else 0) →
      ∀ w2, w2 (cO c) = some (.inr (2, [.ref (cA c), .int (nI (tk + 1)), .int (nI c), .ref (cP c), .int (nI cl), .int (nI (F cl)), .int (nI us)])) → (∀ v, v ≠ cO c → w2 v = w1 v) → Q (.inl none) w2 nc1 ns1 := by
    intro w1 nc1 ns1 f1 g3 g4 g5 en1 en2 w2 e2 f2
    have hF2 : chF w2 c (tk + 1) cl (F cl) us A (cl + 1) := by
      obtain ⟨j1, j2, ⟨f, j3, j4⟩, j5⟩ := g3
      refine ⟨⟨by unfold cO; omega, e2⟩, nsR_f j2 (f2 _ (by unfold cA cO; omega)) (f2 _ (by unfold cB cO; omega)), ⟨f, wr_f j3 (f2 _ (by unfold cP cO; omega)), j4⟩, fun p a b => ?_⟩
      rw [f2 _ (by unfold cK cO; omega), f2 _ (by unfold cM cO; omega), f2 _ (by unfold cR cO; omega), f2 _ (by unfold cL cO; omega)]
      exact j5 p a b
    have hO2 := opR_f (w' := w2) g5 (f2 _ (by unfold cK cO; omega)) (f2 _ (by unfold cM cO; omega)) (f2 _ (by unfold cR cO; omega)) (f2 _ (by unfold cL cO; omega))
    have hP0 := chP_x (w' := w2) g4 (fun p _ _ _ => ⟨f2 _ (by unfold cK cO; omega), f2 _ (by unfold cM cO; omega), f2 _ (by unfold cR cO; omega), f2 _ (by unfold cL cO; omega)⟩)
    have hP2 : chP w2 c S cl F q od (cl + 1) 33 := by
      refine ⟨fun p a b _ => ?_, fun s a b _ => hP0.2 s a b (by omega)⟩
      by_cases e : p = cl % 33
      · rw [e]; exact opR_an hO2
      · exact hP0.1 p a b e
    have hmk2 : mkN cl (F cl) (tk + 1) = cl + 1 := by unfold mkN; rw [if_pos (by omega)]
    rw [en1, en2]
    refine hq w2 (fun v hv => ?_) ⟨h1, ⟨i1, i2, by omega, by omega, by omega, fun _ => ?_, i7⟩, by rw [hmk2]; exact hF2, by rw [hmk2]; exact hP2, fun _ => hO2⟩
    case refine_2 =>
      by_cases he : F cl = tk
      · rw [he, show tk + 1 - tk = 1 by omega]
        have : (eF S tk 1).1 = 160 := rfl
        unfold szP
        omega
      · rw [show tk + 1 - F cl = tk - F cl + 1 by omega]
        exact hfit (by omega)
    rw [f2 v (by rintro rfl; exact hv (by unfold cO; omega))]
    exact f1 v hv
  by_cases he : F cl = tk
  · have hmk : mkN cl (F cl) tk = cl := by unfold mkN; rw [if_neg (by omega)]; omega
    rw [hmk] at h3 h4
    -- from the packet's name on
    have go : ∀ w1 nc1 ns1, frR (12 + c) w w1 → chF w1 c tk cl (F cl) us A (cl + 1) → chP w1 c S cl F q od (cl + 1) (cl % 33) → anR w1 (cK c (cl % 33)) (cM c (cl % 33)) (cR c (cl % 33)) (cL c (cl % 33)) → nc1 = (nc + if F cl = tk ∧ cl < 33 then 4 else 0) → ns1 = (ns + if F cl = tk ∧ cl < 33 then 539 else 0) →
        Ev (d + 4) m_Ch_add 8 [some (.ref (cO c)), some (.int x), none] [.ref (cK c (cl % 33))] w1 nc1 ns1 Q := by
      intro w1 nc1 ns1 f1 g3 g4 g5 en1 en2
      refine t_Ch_add_8 rfl rfl g3.1 (Nat.le_of_ble_eq_true rfl) (c_inOpen g3 i3 ?_)
      rw [show tk - F cl = 0 by omega]
      refine t_Ch_add_13 (fun g => absurd rfl g) (fun _ => ?_)
      have g5' := g5
      obtain ⟨_, _, _, _, _, _, _, _, _, _, _, pk⟩ := g5'
      refine t_Ch_add_16 g3.1 rfl rfl pk.1 (Nat.le_of_ble_eq_true rfl) (c_begin (S := S) (ch := c) (fi := tk) g5 hx h1 (by omega) (fun w2 f2 o2 => ?_))
      have fP : frP c (cl % 33) w1 w2 := fr_P f2 (fun a ha => by simp at ha; omega)
      have k3 := chF_p g3 (p0 := cl % 33) (by omega) fP
      have k4 := chP_p g4 fP
      refine t_Ch_add_29 k3.1 rfl (Nat.le_of_ble_eq_true rfl) (es_w (fun w3 e3 f3 => t_Ch_add_47 ?_))
      rw [nI_1] at e3
      refine fin w2 nc1 ns1 (frR_trans f1 (frP_R h1 fP)) k3 k4 ?_ en1 en2 w3 e3 f3
      rw [he, show tk + 1 - tk = 1 by omega]
      exact o2
    refine t_Ch_add_0 h3.1 rfl (Nat.le_of_ble_eq_true rfl) ?_
    by_cases h33 : cl < 33
    · have em : cl % 33 = cl := Nat.mod_eq_of_lt h33
      refine c_packet_new h3 h1 h33 (fun w1 f1 g3 g5 g6 => ?_)
      rw [em] at go
      refine go w1 _ _ f1 g3 ?_ g5 (by rw [if_pos ⟨he, h33⟩]) (by rw [if_pos ⟨he, h33⟩])
      refine ⟨fun p a b e => ?_, fun s a b e => ?_⟩
      · obtain ⟨e1, e2, e3, e4⟩ := g6 p e
        exact anR_f (h4.1 p a (by omega) (by omega)) e1 e2 e3 e4
      · obtain ⟨e1, e2, e3, e4⟩ := g6 (s % 33) e
        exact clR_f (h4.2 s a b (by omega)) e1 e2 e3 e4
    · refine c_packet h3 (by omega) (by omega) ?_
      refine go w _ _ frR_refl ?_ ?_ (h4.1 (cl % 33) (by omega) (by omega) (by omega)) (by rw [if_neg (by omega)]; rfl) (by rw [if_neg (by omega)]; rfl)
      · obtain ⟨j1, j2, ⟨f, j3, j4⟩, j5⟩ := h3
        exact ⟨j1, j2, ⟨f, j3, fun p hp => by rw [j4 p hp, if_pos (by omega), if_pos (by omega)]⟩, fun p a b => absurd b (by omega)⟩
      · exact ⟨fun p a b e => h4.1 p a (by omega) (by omega), fun s a b e => h4.2 s a b (by omega)⟩
  · have hlt : F cl < tk := by omega
    have hmk : mkN cl (F cl) tk = cl + 1 := by unfold mkN; rw [if_pos hlt]
    rw [hmk] at h3 h4
    have hp := h5 hlt
    refine t_Ch_add_0 h3.1 rfl (Nat.le_of_ble_eq_true rfl) (c_packet h3 (by omega) (by omega) ?_)
    refine t_Ch_add_8 rfl rfl h3.1 (Nat.le_of_ble_eq_true rfl) (c_inOpen h3 i3 ?_)
    refine t_Ch_add_13 (fun _ => ?_) (fun g => absurd ((nI_eq (b := 0) (by omega) (by omega)).mp g) (by omega))
    have hp' := hp
    obtain ⟨_, _, _, _, pk, _⟩ := hp'
    refine t_Ch_add_32 pk.1 (Nat.le_of_ble_eq_true rfl) (c_append hk hp (by omega) (by omega) (by unfold cR; omega) (by rw [show F cl + (tk - F cl) = tk by omega]; exact hx) (hfit hlt) (fun w2 f2 o2 => ?_))
    have fP : frP c (cl % 33) w w2 := fr_P f2 (fun a ha => by simp at ha; omega)
    have k3 := chF_p h3 (p0 := cl % 33) (by omega) fP
    have k4 := chP_p (chP_hole h4 (cl % 33)) fP
    refine t_Ch_add_37 k3.1 rfl (Nat.le_of_ble_eq_true rfl) (es_w (fun w3 e3 f3 => t_Ch_add_47 ?_))
    rw [nI_1] at e3
    refine fin w2 nc ns (frP_R h1 fP) k3 k4 ?_ (by rw [if_neg (by omega)]; rfl) (by rw [if_neg (by omega)]; rfl) w3 e3 f3
    rw [show tk + 1 - F cl = tk - F cl + 1 by omega]
    exact o2
end ChC
