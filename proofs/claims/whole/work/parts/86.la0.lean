/-! ===== the law: what its cases share ===== -/
section La0
variable {n k nc ns nc' ns' : Nat} {xs : Nat → Int32} {w w' : qk_W} {s s' : Nat → Int32} {l l' : Nat → Int64} {X : Nat → Chs} {Y : Nat → Trs} {R : Nat → Nat → Nat} {L : Nat → Nat} {T : Nat → Bool} {np pc bad rej cla sl : Nat} {lw : Bool}
theorem mA_9 (j : Nat) : mA j % 16 = 9 := by unfold mA; omega
theorem mA_gO (j : Nat) : mA j ≠ gO := by unfold mA gO; omega
theorem exf {m ci : Nat} (h : exW w w' m ci) : ∀ v, v % 16 ≠ 11 → w' v = w v := fr_11 h.1
/-- nothing changed but the code, what was thrown, and the law's own cell -/
theorem JI_same {f : Nat → Int64} (hC : ciR w X Y R L T np pc bad rej cla sl lw) (hM : moR w s l X Y R L T np pc bad rej cla sl lw) (hP : jP k X np pc sl) (hN : jN k X Y sl nc ns) (hs : wi w 0 n xs) (hk : k < 512)
    (g : ∀ v, v % 16 ≠ 11 → v ≠ gO → v ≠ 25 → w' v = w v) (o : moO w' s' l') (es : ∀ k, 0 < k → k < 24 → s' k = s k) (ht : tmpI w' nc') (h1 : nc' ≤ nc + 1) (h2 : ns' ≤ ns + 6) (ho : wl w' gO 1 f) : JI n xs (k + 1) w' nc' ns' := by
  have g25 : (25 : Nat) % 16 = 9 := rfl
  have hgO : gO % 16 = 10 := rfl
  have hM0 : moR w s l X Y R L T np pc bad rej cla sl lw := hM
  -- the reference: all of its region but its object
  have hM' : moR w' s' l' X Y R L T np pc bad rej cla sl lw := by
    obtain ⟨a1, a2, a3, a4, a5, a6, a7, a8, a9, f', hf'⟩ := hM
    have eA : ∀ j, 0 < j → w' (mA j) = w (mA j) := fun j hj => g _ (by rw [mA_9]; decide) (mA_gO j) (mA_25 hj)
    refine ⟨msR_f a1 o (es 11 (by omega) (by omega)) (es 5 (by omega) (by omega)) (fun j _ _ _ => eA j (by omega)), akR_f a2 (eA _ (by omega)), ?_, maR_f a4 (es 17 (by omega) (by omega)) (eA _ (by omega)) (eA _ (by omega)) (eA _ (by omega)), hvR_f a5 (eA _ (by omega)) (eA _ (by omega)), ohR_f a6 (eA _ (by omega)), ?_, ?_, ?_, f', wi_f hf' (eA _ (by omega))⟩
    · rw [es 13 (by omega) (by omega)]; exact a3
    · rw [es 21 (by omega) (by omega)]; exact a7
    · rw [es 22 (by omega) (by omega)]; exact a8
    · rw [es 23 (by omega) (by omega)]; exact a9
  exact ⟨X, Y, R, L, T, np, pc, bad, rej, cla, sl, lw, s', l', ciR_f hC (fun v v1 v2 v3 => g v v2 v3 (by rintro rfl; exact v1 g25)), hM', jP_up hP hk, jN_up hN h1 h2, ht, wi_f hs (g 0 (by decide) (by decide) (by decide)), f, ho⟩
theorem isSl_t {m : Nat} (hm : m < 2 ^ 31) (h1 : m < sl) (h2 : sl ≤ m + 64) (h3 : T (m % 64) = false) : isSl sl T (nI m) = true := by
  rw [isSl_nI hm, decide_eq_true h1, decide_eq_true h2, h3]
  rfl
theorem nI_in4 {c c' : Nat} (hc : c < 4) (hc' : c' < 4) (e : nI c = nI c') : c' = c := ((nI_eq (by omega) (by omega)).mp e).symm
end La0
