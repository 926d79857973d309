/-! ===== the law: its loop, its start, and the goal ===== -/
section La6
variable {d n k nc ns : Nat} {xs : Nat → Int32} {w : qk_W} {Q : Option Value ⊕ Nat → qk_W → Nat → Nat → Prop} {o5 o6 : Option Value}
theorem JI_step (hk : k < 512) (hJ : JI n xs k w nc ns) : JI n xs (k + 1) w nc ns := by
  obtain ⟨X, Y, R, L, T, np, pc, bad, rej, cla, sl, lw, s, l, hC, hM, hP, hN, ht, hs, f, ho⟩ := hJ
  exact ⟨X, Y, R, L, T, np, pc, bad, rej, cla, sl, lw, s, l, hC, hM, jP_up hP hk, jN_up hN (by omega) (by omega), ht, hs, f, ho⟩
theorem law_one {i : Nat} (hn : n ≤ 3072) (hi : i + 6 ≤ n) (hk : k < 512) (hJ : JI n xs k w nc ns) (K : ∀ w' nc' ns' p5 p6, JI n xs (k + 1) w' nc' ns' → Ev (d + 12) m_La_law 23 [some (.ref 0), some (.ref gQ), some (.ref 25), some (.ref gO), some (.int (nI i + 6)), p5, p6] [] w' nc' ns' Q) :
    Ev (d + 12) m_La_law 33 [some (.ref 0), some (.ref gQ), some (.ref 25), some (.ref gO), some (.int (nI i)), o5, o6] [] w nc ns Q := by
  obtain ⟨_, _, _, _, _, _, _, _, _, _, _, _, _, _, _, _, _, _, _, hs, _⟩ := id hJ
  have hv : vp_in (nI i) n := vp_in_nI (by omega) (by omega)
  obtain ⟨q, hq, eq⟩ := wb_of32 (xs (nI i).toNatClampNeg)
  have ev : xs (nI i).toNatClampNeg &&& 31 = nI (q % 32) := by rw [eq]; exact q_and31 hq
  have hj : q % 32 < 32 := Nat.mod_lt _ (by omega)
  generalize q % 32 = j at ev hj
  by_cases h0 : j = 0
  · exact t_La_law_33_c0 hs hv (by rw [ev, h0]; rfl) (l_sample hn hi hk hJ K)
  by_cases h1 : j = 1
  · exact t_La_law_33_c1 hs hv (by rw [ev, h1]; rfl) (l_samples hn hi hk hJ K)
  by_cases h2 : j = 2
  · exact t_La_law_33_c2 hs hv (by rw [ev, h2]; rfl) (l_quality hn hi hk hJ K)
  by_cases h3 : j = 3
  · exact t_La_law_33_c3 hs hv (by rw [ev, h3]; rfl) (l_flush hn hi hk hJ K)
  by_cases h4 : j = 4
  · exact t_La_law_33_c4 hs hv (by rw [ev, h4]; rfl) (l_turn hk hJ K)
  by_cases h5 : j = 5
  · exact t_La_law_33_c5 hs hv (by rw [ev, h5]; rfl) (l_ask hk hJ K)
  by_cases h6 : j = 6
  · exact t_La_law_33_c6 hs hv (by rw [ev, h6]; rfl) (l_deliver hn hi hk hJ K)
  by_cases h7 : j = 7
  · exact t_La_law_33_c7 hs hv (by rw [ev, h7]; rfl) (l_hear hn hi hk hJ K)
  by_cases h8 : j = 8
  · exact t_La_law_33_c8 hs hv (by rw [ev, h8]; rfl) (l_lose hn hi hk hJ K)
  by_cases h9 : j = 9
  · exact t_La_law_33_c9 hs hv (by rw [ev, h9]; rfl) (l_length hn hi hk hJ K)
  by_cases h10 : j = 10
  · exact t_La_law_33_c10 hs hv (by rw [ev, h10]; rfl) (l_air hn hi hk hJ K)
  by_cases h11 : j = 11
  · exact t_La_law_33_c11 hs hv (by rw [ev, h11]; rfl) (l_spoil hn hi hk hJ K)
  by_cases h12 : j = 12
  · exact t_La_law_33_c12 hs hv (by rw [ev, h12]; rfl) (l_mend hn hi hk hJ K)
  by_cases h13 : j = 13
  · exact t_La_law_33_c13 hs hv (by rw [ev, h13]; rfl) (l_has hn hi hk hJ K)
  by_cases h14 : j = 14
  · exact t_La_law_33_c14 hs hv (by rw [ev, h14]; rfl) (l_at hn hi hk hJ K)
  by_cases h15 : j = 15
  · exact t_La_law_33_c15 hs hv (by rw [ev, h15]; rfl) (l_qualityAt hn hi hk hJ K)
  by_cases h16 : j = 16
  · exact t_La_law_33_c16 hs hv (by rw [ev, h16]; rfl) (l_gaps hn hi hk hJ K)
  by_cases h17 : j = 17
  · exact t_La_law_33_c17 hs hv (by rw [ev, h17]; rfl) (l_gap hn hi hk hJ K)
  by_cases h18 : j = 18
  · exact t_La_law_33_c18 hs hv (by rw [ev, h18]; rfl) (l_count hn hi hk hJ K)
  by_cases h19 : j = 19
  · exact t_La_law_33_c19 hs hv (by rw [ev, h19]; rfl) (l_total hn hi hk hJ K)
  · refine t_La_law_33_df hs hv (Or.inr ?_) (t_La_law_1281 rfl (K _ _ _ _ _ (JI_step hk hJ)))
    rw [ev, nI_toInt (by omega)]
    omega
theorem law_loop (hn : n ≤ 3072) : ∀ m k, k + m = 512 → ∀ (w : qk_W) (nc ns : Nat) (o5 o6 : Option Value), JI n xs k w nc ns →
    Ev (d + 12) m_La_law 23 [some (.ref 0), some (.ref gQ), some (.ref 25), some (.ref gO), some (.int (nI (6 * k))), o5, o6] [] w nc ns (fun r _ nc ns => r = .inl (some (.int 1)) ∧ nc ≤ 601024 ∧ ns ≤ 7293034) := by
  intro m
  induction m with
  | zero =>
    intro k hk w nc ns o5 o6 hJ
    obtain ⟨X, Y, R, L, T, np, pc, bad, rej, cla, sl, lw, s, l, hC, hM, hP, hN, ht, hs, f, ho⟩ := hJ
    refine t_La_law_23 hs rfl (fun _ => t_La_law_1287 ⟨rfl, jN_room hN (by omega)⟩) (fun g => absurd ?_ g)
    have e6 : (Int32.ofNat n - 6).toInt = (n : Int) - 6 := pk_sub_toInt (a := n) (b := 6) (by omega) (by omega)
    rw [Int32.lt_iff_toInt_lt, e6, nI_toInt (by omega)]
    omega
  | succ m ih =>
    intro k hk w nc ns o5 o6 hJ
    have hJ' := hJ
    obtain ⟨X, Y, R, L, T, np, pc, bad, rej, cla, sl, lw, s, l, hC, hM, hP, hN, ht, hs, f, ho⟩ := hJ
    refine t_La_law_23 hs rfl (fun _ => t_La_law_1287 ⟨rfl, jN_room hN (by omega)⟩) (fun g => ?_)
    have e6 : (Int32.ofNat n - 6).toInt = (n : Int) - 6 := pk_sub_toInt (a := n) (b := 6) (by omega) (by omega)
    rw [Int32.lt_iff_toInt_lt, e6, nI_toInt (by omega)] at g
    refine law_one hn (by omega) (by omega) hJ' (fun w' nc' ns' p5 p6 hJ2 => ?_)
    have := ih (k + 1) (by omega) w' nc' ns' p5 p6 hJ2
    rwa [show nI (6 * (k + 1)) = nI (6 * k) + 6 from (nI_add (6 * k) 6).symm] at this
end La6
/-- the reference as it is at its start -/
theorem moR_init {w : qk_W} (o : moO w s00 (fun _ => 0)) (h : iv w 31) : moR w s00 (fun _ => 0) (fun _ => x0) (fun _ => y0) (fun _ _ => 0) (fun _ => 0) (fun _ => false) 0 100 0 0 0 0 false := by
  have a : ∀ j, 0 < j → j ≤ 31 → w (mA j) = arrT j := fun j h0 h1 => iv_at h h0 h1
  have w1 : wi w (mA 1) 131072 (fun _ => 0) := a 1 (by omega) (by omega)
  have w2 : wi w (mA 2) 4 (fun _ => 0) := a 2 (by omega) (by omega)
  have w3 : wi w (mA 3) 4 (fun _ => 0) := a 3 (by omega) (by omega)
  have w4 : wi w (mA 4) 4 (fun _ => 0) := a 4 (by omega) (by omega)
  have w6 : wi w (mA 6) 4096 (fun _ => 0) := a 6 (by omega) (by omega)
  have w7 : wi w (mA 7) 4096 (fun _ => 0) := a 7 (by omega) (by omega)
  have w8 : wi w (mA 8) 4096 (fun _ => 0) := a 8 (by omega) (by omega)
  have w9 : wi w (mA 9) 4096 (fun _ => 0) := a 9 (by omega) (by omega)
  have w10 : wz w (mA 10) 4096 (fun _ => 0) := ⟨mA_16 _, a 10 (by omega) (by omega)⟩
  have w12 : wz w (mA 12) 131072 (fun _ => 0) := ⟨mA_16 _, a 12 (by omega) (by omega)⟩
  have w14 : wb w (mA 14) 32768 (fun _ => 0) := ⟨mA_16 _, a 14 (by omega) (by omega)⟩
  have w15 : wi w (mA 15) 64 (fun _ => 0) := a 15 (by omega) (by omega)
  have w16 : wz w (mA 16) 64 (fun _ => 0) := ⟨mA_16 _, a 16 (by omega) (by omega)⟩
  have w18 : wi w (mA 18) 131072 (fun _ => 0) := a 18 (by omega) (by omega)
  have w19 : wb w (mA 19) 131072 (fun _ => 0) := ⟨mA_16 _, a 19 (by omega) (by omega)⟩
  have w20 : wi w (mA 20) 4 (fun _ => 0) := a 20 (by omega) (by omega)
  have w31 : wi w (mA 31) 32768 (fun _ => 0) := a 31 (by omega) (by omega)
  have eT : xT x0 = 0 := rfl
  have eC : xC x0 = 0 := rfl
  have z0 : (0 : Int32) = nI 0 := rfl
  have m1 : smA w (fun _ => x0) := ⟨_, w1, fun c hc q hq => absurd hq (by show ¬ q < xT x0; rw [eT]; omega)⟩
  have m2 : mcR w (fun _ => x0) (fun _ => 0) := ⟨⟨_, w2, fun c hc => z0⟩, ⟨_, w3, fun c hc => z0⟩, w4⟩
  have eob : obX x0 = 0 := rfl
  have m3 : plR w (fun _ => x0) 0 := ⟨_, _, _, _, _, w6, w7, w8, w9, w10, fun c hc t ht => absurd ht (by show ¬ t < xC x0; rw [eC]; omega), fun p hp => absurd hp (by omega), fun c hc t u htu hu => absurd hu (by show ¬ u < xC x0; rw [eC]; omega)⟩
  have m4 : msR w s00 (fun _ => 0) (fun _ => x0) 0 100 := ⟨o, rfl, rfl, m1, ⟨_, m2, fun c hc => by show (0 : Int32) = nI (obX x0); rw [eob]; rfl⟩, m3⟩
  have m5 : akR w (fun _ => x0) := ⟨_, w12, fun c hc q hq => rfl⟩
  have m6 : arR w (fun _ _ => 0) := ⟨_, w14, fun j hj q hq => by show (0 : Int32) = nB 0; decide, fun j q => by show 0 < 256; decide⟩
  have m7 : lnR w (fun _ => 0) := ⟨_, w15, fun j hj => z0⟩
  have m8 : thR w (fun _ => false) := ⟨_, w16, fun j hj => rfl⟩
  have m9 : maR w s00 0 (fun _ _ => 0) (fun _ => 0) (fun _ => false) := ⟨rfl, by omega, m6, m7, m8, fun j hj hs => absurd hs (by omega)⟩
  have m10 : hvR w (fun _ => y0) := ⟨_, _, w18, w19, fun c hc q hq => ⟨z0, Nat.zero_le _, fun h => absurd h (by show ¬ 0 < 0; omega)⟩⟩
  have m11 : ohR w (fun _ => y0) := ⟨_, w20, fun c hc => z0⟩
  exact ⟨m4, m5, rfl, m9, m10, m11, rfl, rfl, rfl, _, w31⟩
theorem the_goal : qk_goal := by
  intro n xs hn
  have h0 : ∀ v, 16 ≤ v → qk_w0 n xs v = none := fun v hv => qk_w0_none hv
  refine t_La_law_0 gQ (by decide) (h0 gQ (by decide)) (es_w (fun w1 e1 g1 => ?_))
  refine t_La_law_3 (Nat.le_of_ble_eq_true rfl) (c_Q_init (R := fun _ _ => 0) (L := fun _ => 0) (T := fun _ => false) ⟨by decide, e1⟩ (fun v hv hne _ => by rw [g1 v hne]; exact h0 v hv) (fun w2 g2 hq2 hst2 hai2 hce2 => ?_))
  have n2 : ∀ v, 16 ≤ v → v % 16 = 9 ∨ v % 16 = 11 ∨ (v % 16 = 10 ∧ 106 ≤ v) → w2 v = none := fun v hv h => by
    rw [g2 v (h.elim Or.inl (fun h => Or.inr (h.elim Or.inl (fun h => Or.inr (Or.inr h))))), g1 v (by rintro rfl; revert h; decide)]
    exact h0 v hv
  refine t_La_law_7 rfl 25 (by decide) (n2 25 (by decide) (Or.inl rfl)) rfl (es_w (fun w3 e3 g3 => ?_))
  have i3 : iv w3 0 := fun j hj => by
    rw [g3 _ (mA_25 hj), if_neg (by omega)]
    exact n2 _ (mA_16 _) (Or.inl (mA_9 _))
  refine t_La_law_11 (Nat.le_of_ble_eq_true rfl) (c_Mo_init0 ⟨by decide, e3⟩ i3 (fun w4 g4 o4 i4 nc4 ns4 hnc hns => ?_))
  have n4 : ∀ v, 16 ≤ v → v % 16 = 11 ∨ (v % 16 = 10 ∧ 106 ≤ v) → w4 v = none := fun v hv h => by
    rw [g4 v (by omega), g3 v (by rintro rfl; revert h; decide)]
    exact n2 v hv (Or.inr h)
  refine t_La_law_15 rfl gO (by decide) (n4 gO (by decide) (Or.inr ⟨rfl, by decide⟩)) rfl (es_w (fun w5 e5 g5 => t_La_law_19 rfl rfl rfl ?_))
  have hgO : gO % 16 = 10 := rfl
  have f52 : ∀ v, v % 16 ≠ 9 → v ≠ gO → w5 v = w2 v := fun v v1 v2 => by
    rw [g5 v v2, g4 v v1, g3 v (by rintro rfl; exact v1 rfl)]
  have f50 : ∀ v, v < 4 → w5 v = qk_w0 n xs v := fun v hv => by
    rw [f52 v (by omega) (by intro e; rw [e] at hv; exact absurd hv (by decide)), g2 v (Or.inr (Or.inr (Or.inl hv))), g1 v (by intro e; rw [e] at hv; exact absurd hv (by decide))]
  have hk2 : wk w2 := by
    refine ⟨?_, ?_⟩
    · show w2 1 = _
      rw [g2 1 (by decide), g1 1 (by decide)]
      rfl
    · show w2 2 = _
      rw [g2 2 (by decide), g1 2 (by decide)]
      rfl
  have hC2 : ciR w2 (fun _ => x0) (fun _ => y0) (fun _ _ => 0) (fun _ => 0) (fun _ => false) 0 100 0 0 0 0 false := ⟨hk2, hq2, hst2, hce2, hai2⟩
  have hC5 := ciR_f hC2 (fun v v1 v2 v3 => f52 v v1 v3)
  have hM5 := moR_f (moR_init o4 i4) (fun v hv => g5 v (by rintro rfl; omega))
  have hP5 : jP 0 (fun _ => x0) 0 100 0 := by
    refine ⟨by omega, fun c hc => ?_, fun c hc m hm ha => ?_, by omega, by omega, by omega⟩
    · show 0 - 0 < 1000
      omega
    · have ha' : false = true := ha
      exact absurd ha' (by decide)
  have hN5 : jN 0 (fun _ => x0) (fun _ => y0) 0 (nc4 + 1) (ns4 + 1) := ⟨by omega, by omega⟩
  have ht5 : tmpI w5 (nc4 + 1) := fun j hj => by
    have h11 : tN j % 16 = 11 := by unfold tN; omega
    rw [g5 _ (by intro e; rw [e] at h11; omega)]
    exact n4 _ (tN16 _) (Or.inl h11)
  exact law_loop (d := 0) hn 512 0 (by omega) w5 _ _ _ _ ⟨_, _, _, _, _, _, _, _, _, _, _, _, _, _, hC5, hM5, hP5, hN5, ht5, f50 0 (by omega), _, ⟨by decide, e5⟩⟩
