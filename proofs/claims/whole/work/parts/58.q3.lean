/-! ===== QuakeLink: deliver, count, total, beginnings ===== -/
section Q3
variable {d : Nat} {w : qk_W} {nc ns : Nat} {Q : Option Value ⊕ Nat → qk_W → Nat → Nat → Prop} {X : Nat → Chs} {pc bad cg : Nat} {lw : Bool} {Y : Nat → Trs} {rej cla : Nat} {sl : Nat} {R : Nat → Nat → Nat} {L : Nat → Nat} {T : Nat → Bool}
theorem c_Qdeliver {x : Int32} (hk : wk w) (hO : qO w) (hce : ceR w Y rej cla) (h : airR w sl R L T) (hsl : sl < 2 ^ 30) (hL : airK sl L) (ht : tmpI w nc)
    (hqn : isSl sl T x = false → ∀ w', exW w w' nc 12 → Q (.inr (tN nc)) w' (nc + 1) (ns + 6))
    (hq : ∀ n r, x = nI n → n < sl → sl ≤ n + 64 → T (n % 64) = false → (∀ k, k < L (n % 64) → r k = R (n % 64) k) → (∀ k, r k < 256) →
      (¬ soB r (L (n % 64)) → ∀ w' nc' ns', (∀ v, v % 16 ≠ 11 → v ≠ gE → w' v = w v) → tmpI w' nc' → ceO w' (rej + 1) cla → nc ≤ nc' → nc' ≤ nc + 3 → ns ≤ ns' → ns' ≤ ns + 27 → Q (.inl (some (.int (-1)))) w' nc' ns') ∧
      (soB r (L (n % 64)) → getN r 16 16 = 0 → ∀ w' nc' ns', (∀ v, v % 16 ≠ 11 → v % 16 ≠ 4 + getN r 0 8 → w' v = w v) → tmpI w' nc' → trT w' (getN r 0 8) (oldY (Y (getN r 0 8)) (getN r 32 32)) → nc ≤ nc' → nc' ≤ nc + 3 → ns ≤ ns' → ns' ≤ ns + 27 → Q (.inl (some (.int 0))) w' nc' ns') ∧
      (soB r (L (n % 64)) → ¬ getN r 16 16 = 0 → clash (Y (getN r 0 8)) (getN r 64 32) (getN r 16 16) (dval r (L (n % 64))) → ∀ w' nc' ns', (∀ v, v % 16 ≠ 11 → v % 16 ≠ 4 + getN r 0 8 → v ≠ gE → w' v = w v) → tmpI w' nc' → ceO w' rej (cla + 1) → trT w' (getN r 0 8) (oldY (Y (getN r 0 8)) (getN r 32 32)) → nc ≤ nc' → nc' ≤ nc + 3 → ns ≤ ns' → ns' ≤ ns + 27 → Q (.inl (some (.int (-2)))) w' nc' ns') ∧
      (soB r (L (n % 64)) → ¬ getN r 16 16 = 0 → ¬ clash (Y (getN r 0 8)) (getN r 64 32) (getN r 16 16) (dval r (L (n % 64))) → ∀ w' nc' ns' pm', (∀ v, v % 16 ≠ 11 → v % 16 ≠ 4 + getN r 0 8 → w' v = w v) → tmpI w' nc' → trT w' (getN r 0 8) (keepY (Y (getN r 0 8)) (getN r 64 32) (getN r 16 16) (getN r 8 8 + 1) (dval r (L (n % 64))) (getN r 32 32) pm') → cnt (yP (Y (getN r 0 8))) 32 ≤ cnt pm' 32 → nc ≤ nc' → nc' ≤ nc + 3 + 3 * (cnt pm' 32 - cnt (yP (Y (getN r 0 8))) 32) → ns ≤ ns' → ns' ≤ ns + 27 + 2050 * (cnt pm' 32 - cnt (yP (Y (getN r 0 8))) 32) → Q (.inl (some (.int (nI (cnt (hs (hU (yH (Y (getN r 0 8))) (getN r 64 32) (getN r 16 16) (getN r 8 8 + 1))) 32768 - cnt (hs (yH (Y (getN r 0 8)))) 32768))))) w' nc' ns')) :
    Ev (d + 8) m_Q_deliver 0 [some (.ref gQ), some (.int x)] [] w nc ns Q := by
  refine t_Q_deliver_0 hO rfl (Nat.le_of_ble_eq_true rfl) (c_msgOf hO h hsl hL ht (fun n a b c e => ?_) (fun e w' hw' => hqn e w' hw'))
  obtain ⟨h1, r, m, hr⟩ := airR_at h b e
  have hl := hL (n % 64) (Nat.mod_lt _ (by omega)) (Nat.lt_of_le_of_lt (Nat.mod_le _ _) b)
  have h256 : ∀ k, r k < 256 := by
    obtain ⟨_, ⟨_, _, _, m4⟩, _⟩ := m
    exact m4
  obtain ⟨q0, q1, q2, q3⟩ := hq n r a b c e hr h256
  refine t_Q_deliver_9 hce.1 (Nat.le_of_ble_eq_true rfl) (c_CeReceive hk hce m (by unfold aM; omega) (by unfold aW; omega) hl.1 hl.2 ht ?_ ?_ ?_ ?_)
  · intro g w1 n1 s1 f1 t1 o1 b1 b2 b3 b4
    exact t_Q_deliver_12 (q0 g w1 n1 s1 f1 t1 o1 b1 b2 b3 b4)
  · intro g g2 w1 n1 s1 f1 t1 o1 b1 b2 b3 b4
    exact t_Q_deliver_12 (q1 g g2 w1 n1 s1 f1 t1 o1 b1 b2 b3 b4)
  · intro g g2 g3 w1 n1 s1 f1 t1 o1 y1 b1 b2 b3 b4
    exact t_Q_deliver_12 (q2 g g2 g3 w1 n1 s1 f1 t1 o1 y1 b1 b2 b3 b4)
  · intro g g2 g3 w1 n1 s1 pm f1 t1 y1 cn b1 b2 b3 b4
    exact t_Q_deliver_12 (q3 g g2 g3 w1 n1 s1 pm f1 t1 y1 cn b1 b2 b3 b4)
def cntX (x : Chs) (y : Trs) (k : Nat) : Nat := match k with
  | 0 => xT x
  | 1 => xF x (xC x - 32)
  | 2 => min (xC x) 32
  | 3 => opnX x
  | 4 => cnt (xA x) 32768
  | 5 => cnt (hs (yH y)) 32768
  | _ => yO y
theorem c_Qcount {x y : Int32} (hO : qO w) (h : stR w X pc bad cg lw) (hce : ceR w Y rej cla) (ht : tmpI w nc)
    (hq1 : ∀ c k, c < 4 → x = nI c → k ≤ 6 → y = nI k → Q (.inl (some (.int (nI (cntX (X c) (Y c) k))))) w nc ns)
    (hq2 : ∀ c, c < 4 → x = nI c → (∀ k, k ≤ 6 → y ≠ nI k) → ∀ w', exW w w' nc 14 → Q (.inr (tN nc)) w' (nc + 1) (ns + 6))
    (hq0 : (∀ c, c < 4 → x ≠ nI c) → ∀ w', exW w w' nc 12 → Q (.inr (tN nc)) w' (nc + 1) (ns + 6)) :
    Ev (d + 8) m_Q_count 0 [some (.ref gQ), some (.int x), some (.int y), none, none] [] w nc ns Q := by
  refine t_Q_count_0 hO (Nat.le_of_ble_eq_true rfl) (c_chOf hO h ht (fun c hc e => ?_) (fun hn w' hw' => hq0 hn w' hw'))
  have hch := h.2.2 c hc
  have hcl := chI_cl hch.2.1
  have y1 := (hce.2.2 c hc).1
  refine t_Q_count_5 rfl rfl hO (Nat.le_of_ble_eq_true rfl) (c_trOf hO hce ht (fun c' hc' e' => ?_) (fun hn => absurd e (hn c hc)))
  have ec : c' = c := (nI_eq (by omega) (by omega)).mp (e'.symm.trans e)
  subst ec
  by_cases hk : ∃ k, k ≤ 6 ∧ y = nI k
  · obtain ⟨k, hk6, ey⟩ := hk
    have hq := hq1 c' k hc e hk6 ey
    have : k = 0 ∨ k = 1 ∨ k = 2 ∨ k = 3 ∨ k = 4 ∨ k = 5 ∨ k = 6 := by omega
    rcases this with rfl | rfl | rfl | rfl | rfl | rfl | rfl
    · exact t_Q_count_11_c0 rfl rfl ey (t_Q_count_56 (chT_O hch) rfl hq)
    · exact t_Q_count_11_c1 rfl rfl ey (t_Q_count_61 (chT_O hch) (Nat.le_of_ble_eq_true rfl) (c_oldest hch (t_Q_count_65 hq)))
    · exact t_Q_count_11_c2 rfl rfl ey (t_Q_count_66 (chT_O hch) (Nat.le_of_ble_eq_true rfl) (c_inRing hch.2.2.1 (by omega) (t_Q_count_70 hq)))
    · exact t_Q_count_11_c3 rfl rfl ey (t_Q_count_71 (chT_O hch) (Nat.le_of_ble_eq_true rfl) (c_inOpen hch.2.2.1 hch.2.1.2.2.1 (t_Q_count_75 hq)))
    · exact t_Q_count_11_c4 rfl rfl ey (t_Q_count_76 (chT_O hch) rfl (chR_nsO hch) rfl hq)
    · exact t_Q_count_11_c5 rfl rfl ey (t_Q_count_84 y1.2.1 rfl (trR_ns y1) rfl hq)
    · exact t_Q_count_11_c6 rfl rfl ey (t_Q_count_93 y1.2.1 rfl hq)
  · refine t_Q_count_11_df rfl rfl ?_ (t_Q_count_99 (tN nc) (tN16 _) (ht nc (Nat.le_refl _)) (hq2 c' hc e (fun k hk6 ey => hk ⟨k, hk6, ey⟩) _ exW_set))
    rcases Int.lt_or_le y.toInt 0 with g | g
    · exact Or.inl g
    · refine Or.inr (Int.lt_of_not_ge (fun g2 => hk ⟨y.toInt.toNat, by omega, ?_⟩))
      obtain ⟨k, hk3, rfl⟩ := nI_of (x := y) (by rw [Int32.lt_iff_toInt_lt]; have : (0 : Int32).toInt = 0 := rfl; omega)
      rw [nI_toInt hk3]
      rfl
def totX (X : Nat → Chs) (sl rej cla bad k : Nat) : Nat := match k with
  | 0 => smW X 4
  | 1 => sl
  | 2 => rej
  | 3 => cla
  | _ => bad
theorem c_Qtotal {y : Int32} (hO : qO w) (h : stR w X pc bad cg lw) (ha : airR w sl R L T) (hce : ceR w Y rej cla) (ht : tmpI w nc)
    (hq1 : ∀ k, k ≤ 4 → y = nI k → Q (.inl (some (.int (nI (totX X sl rej cla bad k))))) w nc ns)
    (hq0 : (∀ k, k ≤ 4 → y ≠ nI k) → ∀ w', exW w w' nc 14 → Q (.inr (tN nc)) w' (nc + 1) (ns + 6)) :
    Ev (d + 8) m_Q_total 0 [some (.ref gQ), some (.int y)] [] w nc ns Q := by
  by_cases hk : ∃ k, k ≤ 4 ∧ y = nI k
  · obtain ⟨k, hk6, ey⟩ := hk
    have hq := hq1 k hk6 ey
    have : k = 0 ∨ k = 1 ∨ k = 2 ∨ k = 3 ∨ k = 4 := by omega
    rcases this with rfl | rfl | rfl | rfl | rfl
    · exact t_Q_total_0_c0 ey (t_Q_total_36 hO rfl h.1 (Nat.le_of_ble_eq_true rfl) (c_StWaits h (t_Q_total_43 hq)))
    · exact t_Q_total_0_c1 ey (t_Q_total_44 hO rfl ha.1 rfl hq)
    · exact t_Q_total_0_c2 ey (t_Q_total_52 hO rfl hce.1 rfl hq)
    · exact t_Q_total_0_c3 ey (t_Q_total_60 hO rfl hce.1 rfl hq)
    · exact t_Q_total_0_c4 ey (t_Q_total_68 hO rfl h.1 rfl hq)
  · refine t_Q_total_0_df ?_ (t_Q_total_76 (tN nc) (tN16 _) (ht nc (Nat.le_refl _)) (hq0 (fun k hk6 ey => hk ⟨k, hk6, ey⟩) _ exW_set))
    rcases Int.lt_or_le y.toInt 0 with g | g
    · exact Or.inl g
    · refine Or.inr (Int.lt_of_not_ge (fun g2 => hk ⟨y.toInt.toNat, by omega, ?_⟩))
      obtain ⟨k, hk3, rfl⟩ := nI_of (x := y) (by rw [Int32.lt_iff_toInt_lt]; have : (0 : Int32).toInt = 0 := rfl; omega)
      rw [nI_toInt hk3]
      rfl
/-! beginnings -/
def x0 : Chs := (fun _ => 0, 0, 0, fun _ => 0, fun _ => 0, fun _ => 0, 0, fun _ => false)
def y0 : Trs := (fun _ => 0, fun _ => 0, 0, fun _ => false)
/-- nothing there in a region -/
def free (w : qk_W) (k : Nat) : Prop := ∀ v, 16 ≤ v → v % 16 = k → w v = none
theorem c_St_init (ho : wo w gS 1 [.null, .int 0, .int 0, .int 0, .int 0]) (hC : w gC = none) (hf : ∀ c, c < 4 → free w (12 + c))
    (hq : ∀ w', (∀ v, v % 16 < 12 → v ≠ gS → v ≠ gC → w' v = w v) → stR w' (fun _ => x0) 100 0 0 false → Q (.inl none) w' (nc + 17) (ns + 4 + 4 * 1066)) :
    Ev (d + 3) m_St_init 0 [some (.ref gS), none] [] w nc ns Q := by
  refine t_St_init_0 (Nat.le_of_ble_eq_true rfl) ?_
  refine t_St_init_4 rfl gC (by decide) hC (es_w (fun w1 e1 f1 => ?_))
  refine t_St_init_9 rfl (wo_f ho (f1 gS (by decide))) (Nat.le_of_ble_eq_true rfl) (qk_fitA _ _) (es_w (fun w2 e2 f2 => ?_))
  refine t_St_init_12 ⟨by decide, e2⟩ (Nat.le_of_ble_eq_true rfl) (es_w (fun w3 e3 f3 => ?_))
  refine t_St_init_18 rfl ?_
  have key : ∀ m c, c + m = 4 → ∀ w4, (∀ v, v % 16 < 12 ∨ 12 + c ≤ v % 16 → v ≠ gS → v ≠ gC → w4 v = w v) → stO w4 100 0 0 false → (∃ f, wr "QuakeLink$Channel" w4 gC 4 f ∧ ∀ j, j < c → f j = some (cO j)) → (∀ j, j < c → chT w4 j x0) →
      Ev (d + 3) m_St_init 20 [some (.ref gS), some (.int (nI c))] [] w4 (nc + 1 + 4 * c) (ns + 4 + 1066 * c) Q := by
    intro m
    induction m with
    | zero =>
      intro c hc w4 f4 o4 a4 c4
      have ec : c = 4 := by omega
      subst ec
      refine t_St_init_20 (fun _ => t_St_init_45 (hq w4 (fun v a b q => f4 v (Or.inl a) b q) ⟨o4, a4, c4⟩)) (fun g => absurd (nI_le (a := 4) (by omega) (by omega)) g)
    | succ m ih =>
      intro c hc w4 f4 o4 a4 c4
      obtain ⟨f, a1, a2⟩ := a4
      have hfree : ∀ v, 16 ≤ v → v % 16 = 12 + c → w4 v = none := fun v hv hv2 => by rw [f4 v (Or.inr (by omega)) (by rintro rfl; unfold gS at hv2; omega) (by rintro rfl; unfold gC at hv2; omega)]; exact hf c (by omega) v hv hv2
      refine t_St_init_20 (fun g => absurd ((nI_leI (a := 4) (by omega) (by omega)).mp g) (by omega)) (fun _ => ?_)
      refine t_St_init_25 (cO c) (by unfold cO; omega) (hfree _ (by unfold cO; omega) (by unfold cO; omega)) o4 rfl (es_w (fun w5 e5 f5 => ?_))
      have hfree5 : ∀ v, 16 ≤ v → v % 16 = 12 + c → v ≠ cO c → w5 v = none := fun v a b q => by rw [f5 v q]; exact hfree v a b
      refine t_St_init_33 (Nat.le_of_ble_eq_true rfl) (c_Ch_init (S := fun _ => 0) (q := fun _ => 0) (od := fun _ => 0) (by omega) ⟨by unfold cO; omega, e5⟩ (hfree5 _ (by unfold cA; omega) (by unfold cA; omega) (by unfold cA cO; omega)) (hfree5 _ (by unfold cB; omega) (by unfold cB; omega) (by unfold cB cO; omega)) (hfree5 _ (by unfold cP; omega) (by unfold cP; omega) (by unfold cP cO; omega)) (fun p hp => ⟨hfree5 _ (by unfold cK; omega) (by unfold cK; omega) (by unfold cK cO; omega), hfree5 _ (by unfold cM; omega) (by unfold cM; omega) (by unfold cM cO; omega), hfree5 _ (by unfold cR; omega) (by unfold cR; omega) (by unfold cR cO; omega), hfree5 _ (by unfold cL; omega) (by unfold cL; omega) (by unfold cL cO; omega)⟩) (fun w6 f6 c6 => ?_))
      have f46 : ∀ v, v % 16 ≠ 12 + c → w6 v = w4 v := fun v hv => by rw [f6 v hv, f5 v (by rintro rfl; exact hv (by unfold cO; omega))]
      refine t_St_init_38 (wr_f a1 (f46 gC (by unfold gC; omega))) (vp_in_nI (by omega) (by omega)) c6.2.2.1.1 (es_w (fun w7 e7 f7 => t_St_init_39 rfl ?_))
      rw [nI_clamp (by omega)] at e7
      rw [nI_1, show nc + 1 + 4 * c + 1 + 3 = nc + 1 + 4 * (c + 1) by omega, show ns + 4 + 1066 * c + 7 + 1059 = ns + 4 + 1066 * (c + 1) by omega]
      refine ih (c + 1) (by omega) w7 (fun v hv h1 h2 => ?_) (wo_f o4 ?_) ⟨_, ⟨a1.1, e7⟩, fun j hj => ?_⟩ (fun j hj => ?_)
      · rw [f7 v h2, f46 v (by omega)]
        exact f4 v (by omega) h1 h2
      · rw [f7 gS (by decide), f46 gS (by unfold gS; omega)]
      · by_cases e : j = c
        · rw [e, va_up_self]
        · rw [va_up_ne _ _ e]; exact a2 j (by omega)
      · by_cases e : j = c
        · rw [e]; exact chT_f (x := x0) c6 (fun v hv => f7 v (by unfold gC; omega))
        · exact chT_f (c4 j (by omega)) (fun v hv => by rw [f7 v (by unfold gC; omega), f46 v (by omega)])
  exact key 4 0 (by omega) w3 (fun v _ h1 h2 => by rw [f3 v h1, f2 v h1, f1 v h2]) ⟨by decide, e3⟩ ⟨_, ⟨by decide, by rw [f3 gC (by decide), f2 gC (by decide)]; exact e1⟩, fun j hj => absurd hj (by omega)⟩ (fun j hj => absurd hj (by omega))
theorem c_Ce_init (ho : wo w gE 5 [.null, .int 0, .int 0]) (hT : w gT = none) (hf : ∀ c, c < 4 → free w (4 + c))
    (hq : ∀ w', (∀ v, v % 16 < 4 ∨ 8 ≤ v % 16 → v ≠ gE → v ≠ gT → w' v = w v) → ceR w' (fun _ => y0) 0 0 → Q (.inl none) w' (nc + 17) (ns + 4 + 4 * 1061)) :
    Ev (d + 3) m_Ce_init 0 [some (.ref gE), none] [] w nc ns Q := by
  refine t_Ce_init_0 (Nat.le_of_ble_eq_true rfl) ?_
  refine t_Ce_init_4 rfl gT (by decide) hT (es_w (fun w1 e1 f1 => ?_))
  refine t_Ce_init_9 rfl (wo_f ho (f1 gE (by decide))) (Nat.le_of_ble_eq_true rfl) (qk_fitA _ _) (es_w (fun w3 e3 f3 => ?_))
  refine t_Ce_init_12 rfl ?_
  have key : ∀ m c, c + m = 4 → ∀ w4, (∀ v, v % 16 < 4 ∨ 4 + c ≤ v % 16 → v ≠ gE → v ≠ gT → w4 v = w v) → ceO w4 0 0 → (∃ f, wr "QuakeLink$Track" w4 gT 4 f ∧ ∀ j, j < c → f j = some (tO j)) → (∀ j, j < c → trT w4 j y0) →
      Ev (d + 3) m_Ce_init 14 [some (.ref gE), some (.int (nI c))] [] w4 (nc + 1 + 4 * c) (ns + 4 + 1061 * c) Q := by
    intro m
    induction m with
    | zero =>
      intro c hc w4 f4 o4 a4 c4
      have ec : c = 4 := by omega
      subst ec
      refine t_Ce_init_14 (fun _ => t_Ce_init_38 (hq w4 (fun v a b q => f4 v (by omega) b q) ⟨o4, a4, c4⟩)) (fun g => absurd (nI_le (a := 4) (by omega) (by omega)) g)
    | succ m ih =>
      intro c hc w4 f4 o4 a4 c4
      obtain ⟨f, a1, a2⟩ := a4
      have hfree : ∀ v, 16 ≤ v → v % 16 = 4 + c → w4 v = none := fun v hv hv2 => by rw [f4 v (Or.inr (by omega)) (by rintro rfl; unfold gE at hv2; omega) (by rintro rfl; unfold gT at hv2; omega)]; exact hf c (by omega) v hv hv2
      refine t_Ce_init_14 (fun g => absurd ((nI_leI (a := 4) (by omega) (by omega)).mp g) (by omega)) (fun _ => ?_)
      refine t_Ce_init_19 (tO c) (by unfold tO; omega) (hfree _ (by unfold tO; omega) (by unfold tO; omega)) o4 rfl (es_w (fun w5 e5 f5 => ?_))
      have hfree5 : ∀ v, 16 ≤ v → v % 16 = 4 + c → v ≠ tO c → w5 v = none := fun v a b q => by rw [f5 v q]; exact hfree v a b
      refine t_Ce_init_27 (Nat.le_of_ble_eq_true rfl) (c_Tr_init (V := fun _ => 0) (by omega) ⟨by unfold tO; omega, e5⟩ (hfree5 _ (by unfold tH; omega) (by unfold tH; omega) (by unfold tH tO; omega)) (hfree5 _ (by unfold tB; omega) (by unfold tB; omega) (by unfold tB tO; omega)) (hfree5 _ (by unfold tP; omega) (by unfold tP; omega) (by unfold tP tO; omega)) (fun p hp => ⟨hfree5 _ (by unfold tK; omega) (by unfold tK; omega) (by unfold tK tO; omega), hfree5 _ (by unfold tV; omega) (by unfold tV; omega) (by unfold tV tO; omega), hfree5 _ (by unfold tQ; omega) (by unfold tQ; omega) (by unfold tQ tO; omega)⟩) (fun w6 f6 c6 => ?_))
      have f46 : ∀ v, v % 16 ≠ 4 + c → w6 v = w4 v := fun v hv => by rw [f6 v hv, f5 v (by rintro rfl; exact hv (by unfold tO; omega))]
      refine t_Ce_init_31 (wr_f a1 (f46 gT (by unfold gT; omega))) (vp_in_nI (by omega) (by omega)) c6.2.1 (es_w (fun w7 e7 f7 => t_Ce_init_32 rfl ?_))
      rw [nI_clamp (by omega)] at e7
      rw [nI_1, show nc + 1 + 4 * c + 1 + 3 = nc + 1 + 4 * (c + 1) by omega, show ns + 4 + 1061 * c + 3 + 1058 = ns + 4 + 1061 * (c + 1) by omega]
      refine ih (c + 1) (by omega) w7 (fun v hv h1 h2 => ?_) (wo_f o4 ?_) ⟨_, ⟨a1.1, e7⟩, fun j hj => ?_⟩ (fun j hj => ?_)
      · rw [f7 v h2, f46 v (by omega)]
        exact f4 v (by omega) h1 h2
      · rw [f7 gE (by decide), f46 gE (by unfold gE; omega)]
      · by_cases e : j = c
        · rw [e, va_up_self]
        · rw [va_up_ne _ _ e]; exact a2 j (by omega)
      · by_cases e : j = c
        · rw [e]; exact trT_f (y := y0) ⟨c6, Nat.zero_le _⟩ (fun v hv => f7 v (by unfold gT; omega))
        · exact trT_f (c4 j (by omega)) (fun v hv => by rw [f7 v (by unfold gT; omega), f46 v (by omega)])
  exact key 4 0 (by omega) w3 (fun v _ h1 h2 => by rw [f3 v h1, f1 v h2]) ⟨by decide, e3⟩ ⟨_, ⟨by decide, by rw [f3 gT (by decide)]; exact e1⟩, fun j hj => absurd hj (by omega)⟩ (fun j hj => absurd hj (by omega))
theorem c_Q_init (ho : wo w gQ 0 [.null, .null, .null]) (hf : ∀ v, 16 ≤ v → v ≠ gQ → (v % 16 = 10 ∧ v < 106) ∨ v % 16 < 9 ∨ 12 ≤ v % 16 → w v = none)
    (hq : ∀ w', (∀ v, v % 16 = 9 ∨ v % 16 = 11 ∨ v < 4 ∨ (v % 16 = 10 ∧ 106 ≤ v) → w' v = w v) → qO w' → stR w' (fun _ => x0) 100 0 0 false → airR w' 0 R L T → ceR w' (fun _ => y0) 0 0 → Q (.inl none) w' (nc + 38) (ns + 8590)) :
    Ev (d + 4) m_Q_init 0 [some (.ref gQ)] [] w nc ns Q := by
  refine t_Q_init_0 (Nat.le_of_ble_eq_true rfl) ?_
  refine t_Q_init_4 rfl gS (by decide) (hf gS (by decide) (by decide) (Or.inl (by decide))) (es_w (fun w1 e1 f1 => ?_))
  have n1 : ∀ v, 16 ≤ v → v ≠ gQ → v ≠ gS → (v % 16 = 10 ∧ v < 106) ∨ v % 16 < 9 ∨ 12 ≤ v % 16 → w1 v = none := fun v a b c g => by rw [f1 v c]; exact hf v a b g
  refine t_Q_init_8 (Nat.le_of_ble_eq_true rfl) (c_St_init ⟨by decide, e1⟩ (n1 gC (by decide) (by decide) (by decide) (Or.inl (by decide))) (fun c hc v hv hv2 => n1 v hv (by rintro rfl; unfold gQ at hv2; omega) (by rintro rfl; unfold gS at hv2; omega) (Or.inr (Or.inr (by omega)))) (fun w2 f2 s2 => ?_))
  have fQ2 : w2 gQ = w gQ := by rw [f2 gQ (by decide) (by decide) (by decide), f1 gQ (by decide)]
  refine t_Q_init_12 rfl (wo_f ho fQ2) (Nat.le_of_ble_eq_true rfl) (qk_fitL _ _) (es_w (fun w3 e3 f3 => ?_))
  have n3 : ∀ v, 16 ≤ v → v ≠ gQ → v ≠ gS → v ≠ gC → (v % 16 = 10 ∧ v < 106) ∨ v % 16 < 9 → w3 v = none := fun v a b c q g => by rw [f3 v b, f2 v (by omega) c q]; exact n1 v a b c (by omega)
  refine t_Q_init_15 rfl aO (by decide) (n3 aO (by decide) (by decide) (by decide) (by decide) (Or.inr (by decide))) (es_w (fun w4 e4 f4 => ?_))
  refine t_Q_init_19 (Nat.le_of_ble_eq_true rfl) (c_Ai_init (R := R) (L := L) (T := T) ⟨by decide, e4⟩ (by rw [f4 aP (by decide)]; exact n3 aP (by decide) (by decide) (by decide) (by decide) (Or.inr (by decide))) (fun j hj => ⟨?_, ?_⟩) (fun w5 f5 a5 => ?_))
  · rw [f4 _ (by unfold aM aO; omega)]
    exact n3 _ (by unfold aM; omega) (by unfold aM gQ; omega) (by unfold aM gS; omega) (by unfold aM gC; omega) (Or.inr (by unfold aM; omega))
  · rw [f4 _ (by unfold aW aO; omega)]
    exact n3 _ (by unfold aW; omega) (by unfold aW gQ; omega) (by unfold aW gS; omega) (by unfold aW gC; omega) (Or.inr (by unfold aW; omega))
  have fQ5 : w5 gQ = w3 gQ := by rw [f5 gQ (by decide), f4 gQ (by decide)]
  refine t_Q_init_23 rfl ⟨by decide, fQ5.trans e3⟩ (Nat.le_of_ble_eq_true rfl) (qk_fitL _ _) (es_w (fun w6 e6 f6 => ?_))
  have n6 : ∀ v, 16 ≤ v → v ≠ gQ → v ≠ gS → v ≠ gC → (v % 16 = 10 ∧ v < 106) ∨ v % 16 < 8 → w6 v = none := fun v a b c q g => by rw [f6 v b, f5 v (by omega), f4 v (by rintro rfl; unfold aO at g; omega)]; exact n3 v a b c q (by omega)
  refine t_Q_init_26 rfl gE (by decide) (n6 gE (by decide) (by decide) (by decide) (by decide) (Or.inl (by decide))) (es_w (fun w7 e7 f7 => ?_))
  refine t_Q_init_30 (Nat.le_of_ble_eq_true rfl) (c_Ce_init ⟨by decide, e7⟩ (by rw [f7 gT (by decide)]; exact n6 gT (by decide) (by decide) (by decide) (by decide) (Or.inl (by decide))) (fun c hc v hv hv2 => by rw [f7 v (by rintro rfl; unfold gE at hv2; omega)]; exact n6 v hv (by rintro rfl; unfold gQ at hv2; omega) (by rintro rfl; unfold gS at hv2; omega) (by rintro rfl; unfold gC at hv2; omega) (Or.inr (by omega))) (fun w8 f8 s8 => ?_))
  have fQ8 : w8 gQ = w6 gQ := by rw [f8 gQ (by decide) (by decide) (by decide), f7 gQ (by decide)]
  refine t_Q_init_34 rfl ⟨by decide, fQ8.trans e6⟩ (Nat.le_of_ble_eq_true rfl) (qk_fitL _ _) (es_w (fun w9 e9 f9 => t_Q_init_37 ?_))
  have fS : ∀ v, v ≠ gQ → v ≠ gE → v ≠ gT → v % 16 < 4 ∨ 8 ≤ v % 16 → w9 v = w6 v := fun v a b c g => by rw [f9 v a, f8 v g b c, f7 v b]
  have fS2 : ∀ v, v ≠ gQ → v ≠ gE → v ≠ gT → v % 16 ≠ 8 → v % 16 < 4 ∨ 8 ≤ v % 16 → w9 v = w2 v := fun v a b c g1 g2 => by rw [fS v a b c g2, f6 v a, f5 v g1, f4 v (by rintro rfl; exact g1 (by decide)), f3 v a]
  obtain ⟨so, ⟨sf, sa1, sa2⟩, sc⟩ := s2
  obtain ⟨co, ⟨cf, ca1, ca2⟩, cc⟩ := s8
  have hqq := hq w9 (fun v hv => by
    have hv2 : v ≠ gQ ∧ v ≠ gE ∧ v ≠ gT ∧ v ≠ gS ∧ v ≠ gC := by
      refine ⟨?_, ?_, ?_, ?_, ?_⟩ <;> rintro rfl <;> revert hv <;> decide
    rw [fS2 v hv2.1 hv2.2.1 hv2.2.2.1 (by omega) (by omega), f2 v (by omega) hv2.2.2.2.1 hv2.2.2.2.2, f1 v hv2.2.2.2.1]) ⟨by decide, e9⟩ ⟨wo_f so (fS2 gS (by decide) (by decide) (by decide) (by decide) (by decide)), ⟨sf, wr_f sa1 (fS2 gC (by decide) (by decide) (by decide) (by decide) (by decide)), sa2⟩, fun c hc => chT_f (sc c hc) (fun v hv => fS2 v (by unfold gQ; omega) (by unfold gE; omega) (by unfold gT; omega) (by omega) (by omega))⟩ (airH_f a5 (fun v hv => by rw [fS v (by unfold gQ; omega) (by unfold gE; omega) (by unfold gT; omega) (by omega), f6 v (by unfold gQ; omega)])) ⟨wo_f co (f9 gE (by decide)), ⟨cf, wr_f ca1 (f9 gT (by decide)), ca2⟩, fun c hc => trT_f (cc c hc) (fun v hv => f9 v (by unfold gQ; omega))⟩
  rw [show nc + 1 + 17 + 1 + 1 + 1 + 17 = nc + 38 by omega, show ns + 5 + 4 + 4 * 1066 + 2 + 64 + 3 + 4 + 4 * 1061 = ns + 8590 by omega]
  exact hqq
end Q3
