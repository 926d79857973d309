/-! ===== the station ===== -/
def gQ : Nat := 26
def gS : Nat := 42
def gC : Nat := 58
def gE : Nat := 74
def gT : Nat := 90
/-- a channel's state: samples, taken, closed, starts, qualities, orders, unsent, asked -/
abbrev Chs : Type := (Nat → Int32) × Nat × Nat × (Nat → Nat) × (Nat → Nat) × (Nat → Nat) × Nat × (Nat → Bool)
def xS (x : Chs) : Nat → Int32 := x.1
def xT (x : Chs) : Nat := x.2.1
def xC (x : Chs) : Nat := x.2.2.1
def xF (x : Chs) : Nat → Nat := x.2.2.2.1
def xQ (x : Chs) : Nat → Nat := x.2.2.2.2.1
def xO (x : Chs) : Nat → Nat := x.2.2.2.2.2.1
def xU (x : Chs) : Nat := x.2.2.2.2.2.2.1
def xA (x : Chs) : Nat → Bool := x.2.2.2.2.2.2.2
def chT (w : qk_W) (c : Nat) (x : Chs) : Prop := chR w c (xS x) (xT x) (xC x) (xF x) (xQ x) (xO x) (xU x) (xA x)
def fu {α : Type} (f : Nat → α) (k : Nat) (v : α) : Nat → α := fun j => if j = k then v else f j
theorem fu_s {α : Type} (f : Nat → α) (k : Nat) (v : α) : fu f k v k = v := by simp [fu]
theorem fu_n {α : Type} (f : Nat → α) {k j : Nat} (v : α) (h : j ≠ k) : fu f k v j = f j := by simp [fu, h]
def clsX (x : Chs) (pc cg : Nat) : Chs := (xS x, xT x, xC x + 1, fu (xF x) (xC x + 1) (xT x), fu (xQ x) (xC x) pc, fu (xO x) (xC x) cg, xU x, xA x)
def mkC (x : Chs) : Nat := min 33 (mkN (xC x) (xF x (xC x)) (xT x))
def opnX (x : Chs) : Nat := xT x - xF x (xC x)
/-- with the sample in its place, but not taken yet -/
def smpX (x : Chs) (v : Int32) : Chs := (fu (xS x) (xT x) v, xT x, xC x, xF x, xQ x, xO x, xU x, xA x)
def mustX (x : Chs) : Bool := decide (xF x (xC x) < xT x) && !decide (szP (xS x) (xF x (xC x)) (opnX x + 1) ≤ 512)
def addX (x : Chs) : Chs := (xS x, xT x + 1, xC x, xF x, xQ x, xO x, xU x, xA x)
def cl1X (x : Chs) (pc cg : Nat) : Chs × Nat := if mustX x then (clsX x pc cg, cg + 1) else (x, cg)
def cl2X (x : Chs) (pc cg : Nat) : Chs × Nat := if opnX x = 1000 then (clsX x pc cg, cg + 1) else (x, cg)
def takeX (x : Chs) (v : Int32) (pc cg : Nat) : Chs × Nat := cl2X (addX (cl1X (smpX x v) pc cg).1) pc (cl1X (smpX x v) pc cg).2
def stO (w : qk_W) (pc bad cg : Nat) (lw : Bool) : Prop := wo w gS 1 [.ref gC, .int (nI pc), .int (nI bad), .int (nI cg), .int (b2i lw)]
def stA (w : qk_W) : Prop := ∃ f, wr "QuakeLink$Channel" w gC 4 f ∧ ∀ c, c < 4 → f c = some (cO c)
def stR (w : qk_W) (X : Nat → Chs) (pc bad cg : Nat) (lw : Bool) : Prop := stO w pc bad cg lw ∧ stA w ∧ ∀ c, c < 4 → chT w c (X c)
theorem chT_f {w w' : qk_W} {c : Nat} {x : Chs} (h : chT w c x) (e : ∀ v, v % 16 = 12 + c → w' v = w v) : chT w' c x := chR_f h e
theorem chT_smp {w : qk_W} {c : Nat} {x : Chs} (h : chT w c x) (v : Int32) : chT w c (smpX x v) := chR_congr h (fun i hi => (fu_n _ _ (by have : i < xT x := hi; omega)).symm) (fun _ _ => rfl) (fun _ _ => rfl) (fun _ _ => rfl)
theorem chT_O {w : qk_W} {c : Nat} {x : Chs} (h : chT w c x) : wo w (cO c) 2 [.ref (cA c), .int (nI (xT x)), .int (nI c), .ref (cP c), .int (nI (xC x)), .int (nI (xF x (xC x))), .int (nI (xU x))] := h.2.2.1.1
theorem mkC_cls {x : Chs} {pc cg : Nat} (h : xF x (xC x) < xT x) : mkC (clsX x pc cg) = mkC x := by
  unfold mkC mkN
  show min 33 (xC x + 1 + if fu (xF x) (xC x + 1) (xT x) (xC x + 1) < xT x then 1 else 0) = _
  rw [fu_s, if_neg (Nat.lt_irrefl _), if_pos h]
section StC
variable {d : Nat} {w : qk_W} {nc ns : Nat} {Q : Option Value ⊕ Nat → qk_W → Nat → Nat → Prop} {c pc bad cg : Nat} {lw : Bool} {x : Chs}
theorem c_Stclose (hk : wk w) (ho : stO w pc bad cg lw) (h : chT w c x) (ht : xF x (xC x) < xT x) (hp : pc ≤ 100)
    (hq : ∀ w', (∀ v, v % 16 ≠ 12 + c → v ≠ gS → w' v = w v) → stO w' pc bad (cg + 1) lw → chT w' c (clsX x pc cg) → Q (.inl none) w' nc ns) :
    Ev (d + 4) m_St_close 0 [some (.ref gS), some (.ref (cO c))] [] w nc ns Q := by
  have hc := h.1
  have h' : chR w c (xS x) (xT x) (xC x) (fu (xF x) (xC x + 1) (xT x)) (fu (xQ x) (xC x) pc) (fu (xO x) (xC x) cg) (xU x) (xA x) := chR_congr h (fun _ _ => rfl) (fun s hs => (fu_n _ _ (by omega)).symm) (fun s hs => (fu_n _ _ (by omega)).symm) (fun s hs => (fu_n _ _ (by omega)).symm)
  have e1 : fu (xQ x) (xC x) pc (xC x) = pc := fu_s _ _ _
  have e2 : fu (xO x) (xC x) cg (xC x) = cg := fu_s _ _ _
  have e3 : fu (xF x) (xC x + 1) (xT x) (xC x) = xF x (xC x) := fu_n _ _ (by omega)
  refine t_St_close_0 ho rfl rfl (chT_O h) (Nat.le_of_ble_eq_true rfl) ?_
  have := c_chclose (d := d) (nc := nc) (ns := ns) (Q := fun r w1 nc1 ns1 => match r with | .inl v => Ev (d + 4) m_St_close 12 [some (.ref gS), some (.ref (cO c))] (v.toList ++ []) w1 nc1 ns1 Q | .inr x => Q (.inr x) w1 nc1 ns1) hk h' (fu_s _ _ _) (by rw [e3]; exact ht) (by rw [e1]; exact hp) (fun w1 f1 c1 => by
    have o1 : wo w1 gS 1 _ := wo_f ho (f1 _ (by unfold gS; omega))
    refine t_St_close_12 o1 rfl (Nat.le_of_ble_eq_true rfl) (es_w (fun w2 e4 f2 => t_St_close_22 ?_))
    rw [nI_1] at e4
    refine hq w2 (fun v v1 v2 => by rw [f2 v v2]; exact f1 v v1) ⟨by unfold gS; omega, e4⟩ (chR_f c1 (fun v hv => f2 v (by unfold gS; omega))))
  rw [e1, e2] at this
  exact this
theorem c_take {v : Int32} (hk : wk w) (ho : stO w pc bad cg lw) (h : chT w c x) (ht : xT x < 32768) (hop : opnX x < 1000) (hp : pc ≤ 100)
    (hq : ∀ w', (∀ v, v % 16 ≠ 12 + c → v ≠ gS → w' v = w v) → stO w' pc bad (takeX x v pc cg).2 lw → chT w' c (takeX x v pc cg).1 → mkC x ≤ mkC (takeX x v pc cg).1 → Q (.inl none) w' (nc + 4 * (mkC (takeX x v pc cg).1 - mkC x)) (ns + 539 * (mkC (takeX x v pc cg).1 - mkC x))) :
    Ev (d + 5) m_St_take 0 [some (.ref gS), some (.ref (cO c)), some (.int v)] [] w nc ns Q := by
  have hc := h.1
  have hs := chT_smp h v
  have hmk0 : mkC (smpX x v) = mkC x := rfl
  have hop0 : opnX (smpX x v) < 1000 := hop
  have ht0 : xT (smpX x v) < 32768 := ht
  have hsv : xS (smpX x v) (xT (smpX x v)) = v := fu_s _ _ _
  unfold takeX at hq
  rw [← hmk0] at hq
  generalize smpX x v = y at *
  -- the last part: maybe a close
  have last : ∀ w1 y1 cg1 nc1 ns1, (∀ v, v % 16 ≠ 12 + c → v ≠ gS → w1 v = w v) → stO w1 pc bad cg1 lw → chT w1 c y1 → xF y1 (xC y1) < xT y1 → wk w1 → mkC y ≤ mkC y1 → nc1 = nc + 4 * (mkC y1 - mkC y) → ns1 = ns + 539 * (mkC y1 - mkC y) →
      (∀ w', (∀ v, v % 16 ≠ 12 + c → v ≠ gS → w' v = w v) → stO w' pc bad (cl2X y1 pc cg1).2 lw → chT w' c (cl2X y1 pc cg1).1 → mkC y ≤ mkC (cl2X y1 pc cg1).1 → Q (.inl none) w' (nc + 4 * (mkC (cl2X y1 pc cg1).1 - mkC y)) (ns + 539 * (mkC (cl2X y1 pc cg1).1 - mkC y))) →
      Ev (d + 5) m_St_take 18 [some (.ref gS), some (.ref (cO c)), some (.int v)] [] w1 nc1 ns1 Q := by
    intro w1 y1 cg1 nc1 ns1 f1 o1 c1 hlt hk1 hm1 en es hq1
    refine t_St_take_18 (chT_O c1) (Nat.le_of_ble_eq_true rfl) (c_inOpen c1.2.2.1 (by omega) ?_)
    have htk := c1.2.1.2.2.2.1
    unfold cl2X at hq1
    refine t_St_take_22 (fun g => t_St_take_33 ?_) (fun g => ?_)
    · have hne : ¬ opnX y1 = 1000 := fun e => g (by unfold opnX at e; rw [e]; rfl)
      rw [if_neg hne] at hq1
      rw [en, es]
      exact hq1 w1 f1 o1 c1 hm1
    · have he : opnX y1 = 1000 := (nI_eq (a := xT y1 - xF y1 (xC y1)) (b := 1000) (by omega) (by omega)).mp g
      rw [if_pos he] at hq1
      refine t_St_take_28 o1 (Nat.le_of_ble_eq_true rfl) (c_Stclose hk1 o1 c1 hlt hp (fun w2 f2 o2 c2 => t_St_take_33 ?_))
      have hmc := mkC_cls (pc := pc) (cg := cg1) hlt
      have := hq1 w2 (fun v v1 v2 => by rw [f2 v v1 v2]; exact f1 v v1 v2) o2 c2 (by rw [hmc]; exact hm1)
      rw [hmc] at this
      rw [en, es]
      exact this
  -- adding
  have adds : ∀ w1 y1 cg1, (∀ v, v % 16 ≠ 12 + c → v ≠ gS → w1 v = w v) → stO w1 pc bad cg1 lw → chT w1 c y1 → wk w1 → mkC y1 = mkC y → xT y1 < 32768 → opnX y1 < 1000 → xS y1 (xT y1) = v → (xF y1 (xC y1) < xT y1 → szP (xS y1) (xF y1 (xC y1)) (opnX y1 + 1) ≤ 512) →
      (∀ w', (∀ v, v % 16 ≠ 12 + c → v ≠ gS → w' v = w v) → stO w' pc bad (cl2X (addX y1) pc cg1).2 lw → chT w' c (cl2X (addX y1) pc cg1).1 → mkC y ≤ mkC (cl2X (addX y1) pc cg1).1 → Q (.inl none) w' (nc + 4 * (mkC (cl2X (addX y1) pc cg1).1 - mkC y)) (ns + 539 * (mkC (cl2X (addX y1) pc cg1).1 - mkC y))) →
      Ev (d + 5) m_St_take 13 [some (.ref gS), some (.ref (cO c)), some (.int v)] [] w1 nc ns Q := by
    intro w1 y1 cg1 f1 o1 c1 hk1 hm1 ht1 hop1 hv1 hfit hq1
    have hFT := c1.2.1.2.2.1
    refine t_St_take_13 (chT_O c1) (Nat.le_of_ble_eq_true rfl) (c_chadd hk1 c1 hv1 ht1 (by unfold opnX at hop1; omega) hfit (fun w2 f2 c2 => ?_))
    have em : mkC (addX y1) = mkC y1 + if xF y1 (xC y1) = xT y1 ∧ xC y1 < 33 then 1 else 0 := by
      unfold mkC mkN
      show min 33 (xC y1 + if xF y1 (xC y1) < xT y1 + 1 then 1 else 0) = _
      rw [if_pos (by omega)]
      by_cases e : xF y1 (xC y1) = xT y1
      · rw [if_neg (show ¬ xF y1 (xC y1) < xT y1 by omega)]
        by_cases e2 : xC y1 < 33
        · rw [if_pos ⟨e, e2⟩]; omega
        · rw [if_neg (fun g => e2 g.2)]; omega
      · rw [if_pos (show xF y1 (xC y1) < xT y1 by omega), if_neg (fun g => e g.1)]; omega
    refine last w2 (addX y1) cg1 _ _ (fun v v1 v2 => by rw [f2 v v1]; exact f1 v v1 v2) (wo_f o1 (f2 _ (by unfold gS; omega))) c2 (by show xF y1 (xC y1) < xT y1 + 1; omega) (wk_12 hk1 (f2 1 (by omega)) (f2 2 (by omega))) (by rw [em, hm1]; omega) ?_ ?_ hq1
    · rw [em, hm1]
      split <;> omega
    · rw [em, hm1]
      split <;> omega
  refine t_St_take_0 (chT_O h) (Nat.le_of_ble_eq_true rfl) (c_mustClose hk hs hsv ?_)
  unfold cl1X at hq
  refine t_St_take_5 (fun g => ?_) (fun g => ?_)
  · have hm : ¬ mustX y = true := fun e => by unfold mustX opnX at e; rw [e] at g; exact absurd g (by decide)
    rw [if_neg hm] at hq
    refine adds w y cg (fun _ _ _ => rfl) ho hs hk rfl ht0 hop0 hsv (fun hlt => ?_) hq
    by_cases e : szP (xS y) (xF y (xC y)) (opnX y + 1) ≤ 512
    · exact e
    · exact absurd (by unfold mustX; rw [decide_eq_true hlt, decide_eq_false e]; rfl) hm
  · have hm : mustX y = true := by
      cases hb : mustX y with
      | true => rfl
      | false => unfold mustX opnX at hb; rw [hb] at g; exact absurd rfl g
    rw [if_pos hm] at hq
    have hlt : xF y (xC y) < xT y := by
      unfold mustX at hm
      exact of_decide_eq_true ((Bool.and_eq_true _ _).mp hm).1
    refine t_St_take_8 ho (Nat.le_of_ble_eq_true rfl) (c_Stclose hk ho hs hlt hp (fun w1 f1 o1 c1 => ?_))
    have e1 : xF (clsX y pc cg) (xC (clsX y pc cg)) = xT (clsX y pc cg) := fu_s _ _ _
    refine adds w1 (clsX y pc cg) (cg + 1) f1 o1 c1 (wk_12 hk (f1 1 (by omega) (by decide)) (f1 2 (by omega) (by decide))) (mkC_cls hlt) ht0 (by unfold opnX; rw [e1]; omega) hsv (fun g => by rw [e1] at g; omega) hq
end StC
