/-! ===== the reference: count, total ===== -/
def smU (X : Nat → Chs) (u : Nat → Nat) : Nat → Nat
  | 0 => 0
  | n + 1 => smU X u n + (u n - fwX (X n))
theorem smU_W {X : Nat → Chs} {u : Nat → Nat} : ∀ n, (∀ c, c < n → u c = xC (X c)) → smU X u n = smW X n
  | 0, _ => rfl
  | n + 1, h => by
    rw [smU, smW, smU_W n (fun c hc => h c (by omega)), h n (by omega)]
theorem smU_n {X : Nat → Chs} {u : Nat → Nat} {c x : Nat} : ∀ n, n ≤ c → smU X (fu u c x) n = smU X u n
  | 0, _ => rfl
  | n + 1, h => by rw [smU, smU, smU_n n (by omega), fu_n _ _ (by omega)]
theorem smU_s {X : Nat → Chs} {u : Nat → Nat} {c : Nat} : ∀ n, c < n → smU X (fu u c (u c + 1)) n = smU X u n + (if fwX (X c) ≤ u c then 1 else 0)
  | 0, h => absurd h (by omega)
  | n + 1, h => by
    rw [smU, smU]
    by_cases e : c = n
    · subst e
      rw [smU_n c (Nat.le_refl _), fu_s]
      split <;> omega
    · rw [smU_s n (by omega), fu_n _ _ (by omega)]
      omega
theorem smU_0 {X : Nat → Chs} : ∀ n, smU X (fun _ => 0) n = 0
  | 0 => rfl
  | n + 1 => by rw [smU, smU_0 n]; omega
section Mo22
variable {d : Nat} {w : qk_W} {nc ns : Nat} {Q : Option Value ⊕ Nat → qk_W → Nat → Nat → Prop} {s : Nat → Int32} {l : Nat → Int64} {X : Nat → Chs} {np pc : Nat} {Y : Nat → Trs}
theorem c_mcount {x y : Int32} (h : msR w s l X np pc) (hJ : chJ X) (hk : akR w X) (hv : hvR w Y) (hoh : ohR w Y) (hnp : np < 4096)
    (hq1 : ∀ c k, c < 4 → x = nI c → k ≤ 6 → y = nI k → ∀ w', (∀ v, v ≠ 25 → w' v = w v) → moO w' (fu s 0 0) l → Q (.inl (some (.int (nI (cntX (X c) (Y c) k))))) w' nc ns)
    (hq2 : ∀ c, c < 4 → x = nI c → (∀ k, k ≤ 6 → y ≠ nI k) → ∀ w', (∀ v, v ≠ 25 → w' v = w v) → moO w' (fu s 0 2) l → Q (.inl (some (.int 0))) w' nc ns)
    (hq0 : (∀ c, c < 4 → x ≠ nI c) → ∀ w', (∀ v, v ≠ 25 → w' v = w v) → moO w' (fu s 0 1) l → Q (.inl (some (.int 0))) w' nc ns) :
    Ev (d + 2) m_Mo_count 0 [some (.ref 25), some (.int x), some (.int y), none, none, none, none] [] w nc ns Q := by
  have ho := h.1
  refine t_Mo_count_0 rfl (Nat.le_of_ble_eq_true rfl) (c_misCh (fun c hc e => ?_) (fun hn => ?_))
  · subst e
    have bad : (∀ k, k ≤ 6 → y ≠ nI k) → Ev (d + 2) m_Mo_count 22 [some (.ref 25), some (.int (nI c)), some (.int y), none, none, none, none] [.ref 25] w nc ns Q := by
      intro hb
      refine t_Mo_count_22 ho (Nat.le_of_ble_eq_true rfl) (es_w (fun w1 e1 g1 => ?_))
      rw [moL_0] at e1
      have o1 : moO w1 (fu s 0 2) l := ⟨by decide, e1⟩
      exact t_Mo_count_30 o1 rfl (fun g => absurd (show (2 : Int32) ≤ 0 by rw [fu_s] at g; exact g) (by decide)) (fun _ => t_Mo_count_37 (hq2 c hc rfl hb w1 g1 o1))
    refine t_Mo_count_5 (fun _ => ?_) (fun g => absurd g (by decide))
    refine t_Mo_count_12 (fun g => bad (fun k hk' e => ?_)) (fun g => t_Mo_count_16 (fun g2 => ?_) (fun g2 => bad (fun k hk' e => ?_)))
    · rw [e] at g
      exact absurd g (nI_pos (by omega))
    · obtain ⟨k, hk31, e⟩ := nI_of g
      subst e
      have hk6 : k ≤ 6 := (nI_leI (b := 6) (by omega) (by omega)).mp g2
      have hqa := hq1 c k hc rfl hk6 rfl
      clear hq0 hq1 hq2 bad
      refine t_Mo_count_26 ho (Nat.le_of_ble_eq_true rfl) (es_w (fun w1 e1 g1 => ?_))
      rw [moL_0] at e1
      have o1 : moO w1 (fu s 0 0) l := ⟨by decide, e1⟩
      have fin := hqa w1 g1 o1
      have h1 := msR_0 h o1 g1
      obtain ⟨_, h11, h5, hsm, ⟨f4, ⟨⟨f2, w2, hf2⟩, ⟨f3, w3, hf3⟩, w4⟩, h4⟩, ⟨f6, f7, f8, f9, f10, w6, w7, w8, w9, w10, hP⟩⟩ := id h1
      have hI := hJ c hc
      obtain ⟨i1, i2, i3, i4, i5, i6, i7⟩ := id hI
      have hcl := chI_cl hI
      have ccl : (nI c).toNatClampNeg = c := nI_clamp (by omega)
      have ak1 : akR w1 X := akR_f hk (g1 _ (mA_25 (by omega)))
      have hv1 : hvR w1 Y := hvR_f hv (g1 _ (mA_25 (by omega))) (g1 _ (mA_25 (by omega)))
      obtain ⟨f20, w20, hf20⟩ := ohR_f hoh (g1 _ (mA_25 (by omega)))
      obtain ⟨f12, w12, hf12⟩ := id ak1
      -- the answer
      have ans : Ev (d + 2) m_Mo_count 149 [some (.ref 25), some (.int (nI c)), some (.int (nI k)), some (.int (nI (min (xC (X c)) 32))), some (.int (nI (cnt (xA (X c)) 32768))), some (.int (nI (cnt (hs (yH (Y c))) 32768))), some (.int (nI 32768))] [] w1 nc ns Q := by
        have ek : ∀ b, b ≤ 6 → (nI k = nI b ↔ k = b) := fun b hb => nI_eq (by omega) (by omega)
        refine t_Mo_count_149 (fun g0 => ?_) (fun g0 => t_Mo_count_153 o1 rfl w2 (vp_in_nI hc (by omega)) ?_)
        · have n0 : k ≠ 0 := fun e => g0 ((ek 0 (by omega)).mpr e)
          refine t_Mo_count_162 (fun g0 => ?_) (fun g0 => t_Mo_count_167 o1 (Nat.le_of_ble_eq_true rfl) (c_moldest o1 h1.2.1 h1.2.2.2.2.2 hc (by omega) i1 (t_Mo_count_172 ?_)))
          · have n1 : k ≠ 1 := fun e => g0 ((ek 1 (by omega)).mpr e)
            refine t_Mo_count_175 (fun g0 => ?_) (fun g0 => t_Mo_count_180 ?_)
            · have n2 : k ≠ 2 := fun e => g0 ((ek 2 (by omega)).mpr e)
              refine t_Mo_count_184 (fun g0 => ?_) (fun g0 => t_Mo_count_189 o1 rfl w2 (vp_in_nI hc (by omega)) rfl w3 (vp_in_nI hc (by omega)) ?_)
              · have n3 : k ≠ 3 := fun e => g0 ((ek 3 (by omega)).mpr e)
                refine t_Mo_count_205 (fun g0 => ?_) (fun g0 => t_Mo_count_210 ?_)
                · have n4 : k ≠ 4 := fun e => g0 ((ek 4 (by omega)).mpr e)
                  refine t_Mo_count_215 (fun g0 => t_Mo_count_225 o1 rfl w20 (vp_in_nI hc (by omega)) ?_) (fun g0 => t_Mo_count_220 ?_)
                  · have n5 : k ≠ 5 := fun e => g0 ((ek 5 (by omega)).mpr e)
                    rw [ccl, hf20 c hc]
                    rw [show k = 6 by omega] at fin
                    exact fin
                  · rw [(ek 5 (by omega)).mp g0] at fin; exact fin
                · rw [(ek 4 (by omega)).mp g0] at fin; exact fin
              · rw [ccl, hf2 c hc, hf3 c hc, pk_sub i3]
                rw [(ek 3 (by omega)).mp g0] at fin; exact fin
            · rw [(ek 2 (by omega)).mp g0] at fin; exact fin
          · rw [(ek 1 (by omega)).mp g0] at fin; exact fin
        · rw [ccl, hf2 c hc]
          rw [(ek 0 (by omega)).mp g0] at fin; exact fin
      have lp2 : ∀ m a, a + m = 32768 → Ev (d + 2) m_Mo_count 91 [some (.ref 25), some (.int (nI c)), some (.int (nI k)), some (.int (nI (min (xC (X c)) 32))), some (.int (nI (cnt (xA (X c)) a))), some (.int (nI (cnt (hs (yH (Y c))) a))), some (.int (nI a))] [] w1 nc ns Q := by
        intro m
        induction m with
        | zero =>
          intro a ha
          have ea : a = 32768 := by omega
          subst ea
          exact t_Mo_count_91 (fun _ => ans) (fun g => absurd (nI_le (a := 32768) (Nat.le_refl _) (by omega)) g)
        | succ m ih =>
          intro a ha
          have nx := ih (a + 1) (by omega)
          rw [cnt, cnt] at nx
          have hfa := hf12 c hc a (by omega)
          -- behind the asked one
          have two : ∀ u, u = cnt (xA (X c)) a + (if xA (X c) a then 1 else 0) → Ev (d + 2) m_Mo_count 132 [some (.ref 25), some (.int (nI c)), some (.int (nI k)), some (.int (nI (min (xC (X c)) 32))), some (.int (nI u)), some (.int (nI (cnt (hs (yH (Y c))) a))), some (.int (nI a))] [.int (b2i (sIn (hs (yH (Y c))) (nI a))), .int (nI (cnt (hs (yH (Y c))) a))] w1 nc ns Q := by
            intro u hu
            rw [sIn_at (by omega)]
            cases hh : hs (yH (Y c)) a with
            | true =>
              refine t_Mo_count_132 (fun g => absurd g (by decide)) (fun _ => t_Mo_count_135 rfl ?_)
              rw [← hu, hh, if_pos rfl] at nx
              rw [nI_1, nI_1]
              exact nx
            | false =>
              refine t_Mo_count_132 (fun _ => t_Mo_count_139 rfl ?_) (fun g => absurd rfl g)
              rw [← hu, hh, if_neg (by decide), Nat.add_zero] at nx
              rw [nI_1, Int32.add_zero]
              exact nx
          refine t_Mo_count_91 (fun g => absurd ((nI_leI (a := 32768) (by omega) (by omega)).mp g) (by omega)) (fun _ => ?_)
          refine t_Mo_count_98 o1 rfl w12 (by rw [ix_nI]; exact vp_in_nI (by omega) (by omega)) (fun g => ?_) (fun g => ?_)
          · rw [ix_nI, nI_clamp (by omega), hfa] at g
            have hx : xA (X c) a = false := by
              cases hx : xA (X c) a
              · rfl
              · rw [hx] at g; exact absurd g (by decide)
            refine t_Mo_count_119 rfl o1 (Nat.le_of_ble_eq_true rfl) (c_misHeard o1 hv1 hc ?_)
            rw [Int32.add_zero]
            exact two _ (by rw [hx, if_neg (by decide)]; rfl)
          · rw [ix_nI, nI_clamp (by omega), hfa] at g
            have hx : xA (X c) a = true := by
              cases hx : xA (X c) a
              · rw [hx] at g; exact absurd rfl g
              · rfl
            refine t_Mo_count_115 rfl o1 (Nat.le_of_ble_eq_true rfl) (c_misHeard o1 hv1 hc ?_)
            rw [nI_1]
            exact two _ (by rw [hx, if_pos rfl])
      have lp1 : ∀ m p u, p + m = np → u ≤ xC (X c) → xC (X c) - 32 ≤ u → (∀ t, t < u → xO (X c) t < p) → (∀ t, u ≤ t → t < xC (X c) → p ≤ xO (X c) t) → Ev (d + 2) m_Mo_count 48 [some (.ref 25), some (.int (nI c)), some (.int (nI k)), some (.int (nI (u - (xC (X c) - 32)))), some (.int (nI p)), none, none] [] w1 nc ns Q := by
        intro m
        induction m with
        | zero =>
          intro p u hp hu1 hu2 hlo hhi
          have eu : u = xC (X c) := by
            rcases Nat.lt_or_ge u (xC (X c)) with e | e
            · have a1 := hhi u (Nat.le_refl _) e
              have a2 := (hP.1 c hc u e).1
              omega
            · omega
          subst eu
          refine t_Mo_count_48 o1 rfl (fun _ => t_Mo_count_82 rfl ?_) (fun g => absurd (by rw [h11]; exact nI_le (by omega) (by omega)) g)
          rw [show xC (X c) - (xC (X c) - 32) = min (xC (X c)) 32 by omega]
          exact lp2 32768 0 (by omega)
        | succ m ih =>
          intro p u hp hu1 hu2 hlo hhi
          have pcl : (nI p).toNatClampNeg = p := nI_clamp (by omega)
          refine t_Mo_count_48 o1 rfl (fun g => ?_) (fun _ => ?_)
          · rw [h11] at g
            exact absurd ((nI_leI (by omega) (by omega)).mp g) (by omega)
          obtain ⟨c', hc', t, ht, hpt⟩ := hP.2.1 p (by omega)
          have a2 := (hP.1 c' hc' t ht).2.1
          rw [hpt] at a2
          refine t_Mo_count_57 o1 rfl w6 (vp_in_nI (by omega) (by omega)) (fun g => t_Mo_count_73 rfl ?_) (fun g => t_Mo_count_69 rfl ?_)
          · rw [pcl, a2] at g
            have ec : c' ≠ c := fun e => g (by rw [e])
            rw [nI_1, Int32.add_zero]
            refine ih (p + 1) u (by omega) hu1 hu2 (fun t ht' => by have := hlo t ht'; omega) (fun t' h1 h2 => ?_)
            have := hhi t' h1 h2
            rcases Nat.eq_or_lt_of_le this with e | e
            · exfalso
              have b2 := (hP.1 c hc t' h2).2.1
              rw [← e, a2] at b2
              exact ec ((nI_eq (by omega) (by omega)).mp b2)
            · omega
          · rw [pcl, a2] at g
            have ec : c' = c := (nI_eq (by omega) (by omega)).mp g
            subst ec
            have htu : t = u := by
              rcases Nat.lt_trichotomy t u with e | e | e
              · have := hlo t e; omega
              · exact e
              · have b1 := hP.2.2 c' hc u t e ht
                have b2 := hhi u (Nat.le_refl _) (by omega)
                omega
            subst htu
            rw [nI_1, nI_1, show t - (xC (X c') - 32) + 1 = t + 1 - (xC (X c') - 32) by omega]
            refine ih (p + 1) (t + 1) (by omega) (by omega) (by omega) (fun t' ht' => ?_) (fun t' h1 h2 => ?_)
            · by_cases e : t' = t
              · rw [e]; omega
              · have := hlo t' (by omega); omega
            · have := hP.2.2 c' hc t t' (by omega) h2
              omega
      refine t_Mo_count_30 o1 rfl (fun _ => ?_) (fun g => absurd (by rw [fu_s]; decide) g)
      refine t_Mo_count_39 rfl o1 (Nat.le_of_ble_eq_true rfl) (c_ringFirst (X := X) (np := np) o1 h11 w6 hc (by omega) (fun c' hc' t ht => ⟨(hP.1 c' hc' t ht).1, (hP.1 c' hc' t ht).2.1⟩) hP.2.1 hP.2.2 (t_Mo_count_46 rfl ?_))
      unfold rfX
      by_cases e0 : xC (X c) = 0
      · rw [if_pos e0]
        have := lp1 0 np 0 (by omega) (by omega) (by omega) (fun t ht => absurd ht (by omega)) (fun t h1 h2 => absurd h2 (by omega))
        rwa [Nat.zero_sub] at this
      · rw [if_neg e0]
        have hx := (hP.1 c hc (xC (X c) - 32) (by omega)).1
        have := lp1 (np - xO (X c) (xC (X c) - 32)) (xO (X c) (xC (X c) - 32)) (xC (X c) - 32) (by omega) (by omega) (by omega) (fun t ht => hP.2.2 c hc t _ ht (by omega)) (fun t h1 h2 => by
          rcases Nat.eq_or_lt_of_le h1 with e | e
          · rw [e]; exact Nat.le_refl _
          · exact Nat.le_of_lt (hP.2.2 c hc _ t e h2))
        rwa [Nat.sub_self] at this
    · rw [e] at g2
      exact g2 (nI_le (b := 6) hk' (by omega))
  · refine t_Mo_count_5 (fun g => absurd rfl g) (fun _ => t_Mo_count_8 ho (Nat.le_of_ble_eq_true rfl) (es_w (fun w1 e1 g1 => ?_)))
    rw [moL_0] at e1
    have o1 : moO w1 (fu s 0 1) l := ⟨by decide, e1⟩
    exact t_Mo_count_30 o1 rfl (fun g => absurd (show (1 : Int32) ≤ 0 by rw [fu_s] at g; exact g) (by decide)) (fun _ => t_Mo_count_37 (hq0 hn w1 g1 o1))
theorem c_mtotal {y : Int32} {sl rej cla bad : Nat} (h : msR w s l X np pc) (h17 : s 17 = nI sl) (h21 : s 21 = nI rej) (h22 : s 22 = nI cla) (h23 : s 23 = nI bad) (hnp : np < 4096)
    (hq1 : ∀ k, k ≤ 4 → y = nI k → ∀ w', (∀ v, v ≠ 25 → w' v = w v) → moO w' (fu s 0 0) l → Q (.inl (some (.int (nI (totX X sl rej cla bad k))))) w' nc ns)
    (hq0 : (∀ k, k ≤ 4 → y ≠ nI k) → ∀ w', (∀ v, v ≠ 25 → w' v = w v) → moO w' (fu s 0 1) l → Q (.inl (some (.int 0))) w' nc ns) :
    Ev d m_Mo_total 0 [some (.ref 25), some (.int y), none, none] [] w nc ns Q := by
  have ho := h.1
  have badc : (∀ k, k ≤ 4 → y ≠ nI k) → Ev d m_Mo_total 10 [some (.ref 25), some (.int y), none, none] [.ref 25] w nc ns Q := by
    intro hb
    refine t_Mo_total_10 ho (Nat.le_of_ble_eq_true rfl) (es_w (fun w1 e1 g1 => ?_))
    rw [moL_0] at e1
    have o1 : moO w1 (fu s 0 1) l := ⟨by decide, e1⟩
    exact t_Mo_total_18 o1 rfl (fun g => absurd (show (1 : Int32) ≤ 0 by rw [fu_s] at g; exact g) (by decide)) (fun _ => t_Mo_total_25 (hq0 hb w1 g1 o1))
  refine t_Mo_total_0 rfl (fun g => badc (fun k hk' e => ?_)) (fun g => t_Mo_total_5 (fun g2 => ?_) (fun g2 => badc (fun k hk' e => ?_)))
  · rw [e] at g
    exact absurd g (nI_pos (by omega))
  · obtain ⟨k, hk31, e⟩ := nI_of g
    subst e
    have hk4 : k ≤ 4 := (nI_leI (b := 4) (by omega) (by omega)).mp g2
    have hqa := hq1 k hk4 rfl
    clear hq0 hq1 badc
    refine t_Mo_total_14 ho (Nat.le_of_ble_eq_true rfl) (es_w (fun w1 e1 g1 => ?_))
    rw [moL_0] at e1
    have o1 : moO w1 (fu s 0 0) l := ⟨by decide, e1⟩
    have fin := hqa w1 g1 o1
    have h1 := msR_0 h o1 g1
    obtain ⟨_, h11, _, _, _, ⟨f6, f7, f8, f9, f10, w6, w7, w8, w9, w10, hP⟩⟩ := id h1
    refine t_Mo_total_18 o1 rfl (fun _ => t_Mo_total_27 rfl ?_) (fun g => absurd (by rw [fu_s]; decide) g)
    have sk : ∀ j, j ≠ 0 → fu s 0 0 j = s j := fun j hj => fu_n _ _ hj
    have loop : ∀ m p (u : Nat → Nat), p + m = np → (∀ c, c < 4 → u c ≤ xC (X c)) → (∀ c, c < 4 → ∀ t, t < u c → xO (X c) t < p) → (∀ c, c < 4 → ∀ t, u c ≤ t → t < xC (X c) → p ≤ xO (X c) t) → Ev d m_Mo_total 31 [some (.ref 25), some (.int (nI k)), some (.int (nI (smU X u 4))), some (.int (nI p))] [] w1 nc ns Q := by
      intro m
      induction m with
      | zero =>
        intro p u hp hu hlo hhi
        have eu : ∀ c, c < 4 → u c = xC (X c) := by
          intro c hc
          rcases Nat.lt_or_ge (u c) (xC (X c)) with e | e
          · have a1 := hhi c hc (u c) (Nat.le_refl _) e
            have a2 := (hP.1 c hc (u c) e).1
            omega
          · have := hu c hc; omega
        refine t_Mo_total_31 o1 rfl (fun _ => ?_) (fun g => absurd (by rw [h11]; exact nI_le (by omega) (by omega)) g)
        rw [smU_W 4 eu]
        have ek : ∀ b, b ≤ 4 → (nI k = nI b ↔ k = b) := fun b hb => nI_eq (by omega) (by omega)
        refine t_Mo_total_62 (fun g0 => ?_) (fun g0 => t_Mo_total_66 ?_)
        · have n0 : k ≠ 0 := fun e => g0 ((ek 0 (by omega)).mpr e)
          refine t_Mo_total_70 (fun g0 => ?_) (fun g0 => t_Mo_total_75 o1 rfl ?_)
          · have n1 : k ≠ 1 := fun e => g0 ((ek 1 (by omega)).mpr e)
            refine t_Mo_total_82 (fun g0 => ?_) (fun g0 => t_Mo_total_87 o1 rfl ?_)
            · have n2 : k ≠ 2 := fun e => g0 ((ek 2 (by omega)).mpr e)
              refine t_Mo_total_94 (fun g0 => t_Mo_total_106 o1 rfl ?_) (fun g0 => t_Mo_total_99 o1 rfl ?_)
              · have n3 : k ≠ 3 := fun e => g0 ((ek 3 (by omega)).mpr e)
                rw [sk 23 (by omega), h23]
                rw [show k = 4 by omega] at fin; exact fin
              · rw [sk 22 (by omega), h22]
                rw [(ek 3 (by omega)).mp g0] at fin; exact fin
            · rw [sk 21 (by omega), h21]
              rw [(ek 2 (by omega)).mp g0] at fin; exact fin
          · rw [sk 17 (by omega), h17]
            rw [(ek 1 (by omega)).mp g0] at fin; exact fin
        · rw [(ek 0 (by omega)).mp g0] at fin; exact fin
      | succ m ih =>
        intro p u hp hu hlo hhi
        have pcl : (nI p).toNatClampNeg = p := nI_clamp (by omega)
        refine t_Mo_total_31 o1 rfl (fun g => ?_) (fun _ => ?_)
        · rw [h11] at g
          exact absurd ((nI_leI (by omega) (by omega)).mp g) (by omega)
        obtain ⟨c, hc, t, ht, hpt⟩ := hP.2.1 p (by omega)
        obtain ⟨a1, a2, a3, a4, a5, a6⟩ := hP.1 c hc t ht
        rw [hpt] at a2 a6
        have htu : t = u c := by
          rcases Nat.lt_trichotomy t (u c) with e | e | e
          · have := hlo c hc t e; omega
          · exact e
          · have b1 := hP.2.2 c hc (u c) t e ht
            have b2 := hhi c hc (u c) (Nat.le_refl _) (by omega)
            omega
        have nx := ih (p + 1) (fu u c (u c + 1)) (by omega) (fun c' hc' => ?_) (fun c' hc' t' ht' => ?_) (fun c' hc' t' h1 h2 => ?_)
        · rw [smU_s 4 hc] at nx
          refine t_Mo_total_39 o1 rfl w10 (vp_in_nI (by omega) (by omega)) (fun g => t_Mo_total_53 rfl ?_) (fun g => t_Mo_total_49 rfl ?_)
          · rw [pcl, a6] at g
            have hn : ¬ fwX (X c) ≤ u c := by
              intro e
              rw [htu, decide_eq_true e] at g
              exact absurd g (by decide)
            rw [if_neg hn] at nx
            rw [nI_1, Int32.add_zero]
            exact nx
          · rw [pcl, a6] at g
            have hn : fwX (X c) ≤ u c := by
              rcases Nat.lt_or_ge (u c) (fwX (X c)) with e | e
              · rw [htu, decide_eq_false (by omega)] at g
                exact absurd rfl g
              · exact e
            rw [if_pos hn] at nx
            rw [nI_1, nI_1]
            exact nx
        · by_cases e : c' = c
          · subst e; rw [fu_s]; omega
          · rw [fu_n _ _ e]; exact hu c' hc'
        · by_cases e : c' = c
          · subst e
            rw [fu_s] at ht'
            by_cases e2 : t' = u c'
            · rw [e2, ← htu]; omega
            · have := hlo c' hc' t' (by omega); omega
          · rw [fu_n _ _ e] at ht'
            have := hlo c' hc' t' ht'; omega
        · by_cases e : c' = c
          · subst e
            rw [fu_s] at h1
            have := hP.2.2 c' hc' t t' (by omega) h2
            omega
          · rw [fu_n _ _ e] at h1
            have := hhi c' hc' t' h1 h2
            rcases Nat.eq_or_lt_of_le this with e3 | e3
            · exfalso
              have b2 := (hP.1 c' hc' t' h2).2.1
              rw [← e3, a2] at b2
              exact e ((nI_eq (by omega) (by omega)).mp b2).symm
            · omega
    have := loop np 0 (fun _ => 0) (by omega) (fun c hc => Nat.zero_le _) (fun c hc t ht => absurd ht (by omega)) (fun c hc t h1 h2 => Nat.zero_le _)
    rwa [smU_0] at this
  · rw [e] at g2
    exact g2 (nI_le (b := 4) hk' (by omega))
end Mo22
