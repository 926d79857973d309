/-! ===== which handler takes which exception; by gen_law.py ===== -/
theorem lk_13 : Cond.classLink "QuakeLinkLaw" 13 "java/lang/IndexOutOfBoundsException" ∈ lw_tbl := (lw_i2 _ (List.mem_of_getElem? (i := 150) rfl))
theorem ct_13 : Cond.castable "java/lang/IndexOutOfBoundsException" "java/lang/IndexOutOfBoundsException" ∈ lw_tbl := (lw_i2 _ (List.mem_of_getElem? (i := 166) rfl))
theorem lk_15 : Cond.classLink "QuakeLinkLaw" 15 "java/lang/IllegalStateException" ∈ lw_tbl := (lw_i2 _ (List.mem_of_getElem? (i := 151) rfl))
theorem ct_15 : Cond.castable "java/lang/IllegalStateException" "java/lang/IllegalStateException" ∈ lw_tbl := (lw_i2 _ (List.mem_of_getElem? (i := 237) rfl))
theorem lk_21 : Cond.classLink "QuakeLinkLaw" 21 "java/lang/IllegalArgumentException" ∈ lw_tbl := (lw_i3 _ (List.mem_of_getElem? (i := 76) rfl))
theorem ct_21 : Cond.castable "java/lang/IllegalArgumentException" "java/lang/IllegalArgumentException" ∈ lw_tbl := (lw_i3 _ (List.mem_of_getElem? (i := 83) rfl))
theorem fx_sample_12 : ∃ q, qcl[12]? = some q ∧ qk_find "QuakeLinkLaw" q.1 5 m_La_sample.2.2.2.2 13 := ⟨_, rfl, ⟨by decide, by decide, by decide, _, lk_13, Or.inl ⟨rfl, ct_13, rfl⟩⟩⟩
theorem fx_sample_13 : ∃ q, qcl[13]? = some q ∧ qk_find "QuakeLinkLaw" q.1 5 m_La_sample.2.2.2.2 17 := ⟨_, rfl, ⟨by decide, by decide, by decide, _, lk_13, Or.inr ⟨by decide, ⟨by decide, by decide, by decide, _, lk_15, Or.inl ⟨rfl, ct_15, rfl⟩⟩⟩⟩⟩
theorem fx_samples_12 : ∃ q, qcl[12]? = some q ∧ qk_find "QuakeLinkLaw" q.1 11 m_La_samples.2.2.2.2 19 := ⟨_, rfl, ⟨by decide, by decide, by decide, _, lk_13, Or.inl ⟨rfl, ct_13, rfl⟩⟩⟩
theorem fx_samples_14 : ∃ q, qcl[14]? = some q ∧ qk_find "QuakeLinkLaw" q.1 11 m_La_samples.2.2.2.2 23 := ⟨_, rfl, ⟨by decide, by decide, by decide, _, lk_13, Or.inr ⟨by decide, ⟨by decide, by decide, by decide, _, lk_21, Or.inl ⟨rfl, ct_21, rfl⟩⟩⟩⟩⟩
theorem fx_samples_13 : ∃ q, qcl[13]? = some q ∧ qk_find "QuakeLinkLaw" q.1 11 m_La_samples.2.2.2.2 27 := ⟨_, rfl, ⟨by decide, by decide, by decide, _, lk_13, Or.inr ⟨by decide, ⟨by decide, by decide, by decide, _, lk_21, Or.inr ⟨by decide, ⟨by decide, by decide, by decide, _, lk_15, Or.inl ⟨rfl, ct_15, rfl⟩⟩⟩⟩⟩⟩⟩
theorem fx_quality_14 : ∃ q, qcl[14]? = some q ∧ qk_find "QuakeLinkLaw" q.1 2 m_La_quality.2.2.2.2 8 := ⟨_, rfl, ⟨by decide, by decide, by decide, _, lk_21, Or.inl ⟨rfl, ct_21, rfl⟩⟩⟩
theorem fx_flush_12 : ∃ q, qcl[12]? = some q ∧ qk_find "QuakeLinkLaw" q.1 4 m_La_flush.2.2.2.2 12 := ⟨_, rfl, ⟨by decide, by decide, by decide, _, lk_13, Or.inl ⟨rfl, ct_13, rfl⟩⟩⟩
theorem fx_deliver_12 : ∃ q, qcl[12]? = some q ∧ qk_find "QuakeLinkLaw" q.1 4 m_La_deliver.2.2.2.2 12 := ⟨_, rfl, ⟨by decide, by decide, by decide, _, lk_13, Or.inl ⟨rfl, ct_13, rfl⟩⟩⟩
theorem fx_hear_12 : ∃ q, qcl[12]? = some q ∧ qk_find "QuakeLinkLaw" q.1 4 m_La_hear.2.2.2.2 12 := ⟨_, rfl, ⟨by decide, by decide, by decide, _, lk_13, Or.inl ⟨rfl, ct_13, rfl⟩⟩⟩
theorem fx_lose_12 : ∃ q, qcl[12]? = some q ∧ qk_find "QuakeLinkLaw" q.1 2 m_La_lose.2.2.2.2 8 := ⟨_, rfl, ⟨by decide, by decide, by decide, _, lk_13, Or.inl ⟨rfl, ct_13, rfl⟩⟩⟩
theorem fx_length_12 : ∃ q, qcl[12]? = some q ∧ qk_find "QuakeLinkLaw" q.1 4 m_La_length.2.2.2.2 12 := ⟨_, rfl, ⟨by decide, by decide, by decide, _, lk_13, Or.inl ⟨rfl, ct_13, rfl⟩⟩⟩
theorem fx_air_12 : ∃ q, qcl[12]? = some q ∧ qk_find "QuakeLinkLaw" q.1 5 m_La_air.2.2.2.2 13 := ⟨_, rfl, ⟨by decide, by decide, by decide, _, lk_13, Or.inl ⟨rfl, ct_13, rfl⟩⟩⟩
theorem fx_spoil_12 : ∃ q, qcl[12]? = some q ∧ qk_find "QuakeLinkLaw" q.1 4 m_La_spoil.2.2.2.2 10 := ⟨_, rfl, ⟨by decide, by decide, by decide, _, lk_13, Or.inl ⟨rfl, ct_13, rfl⟩⟩⟩
theorem fx_mend_12 : ∃ q, qcl[12]? = some q ∧ qk_find "QuakeLinkLaw" q.1 2 m_La_mend.2.2.2.2 8 := ⟨_, rfl, ⟨by decide, by decide, by decide, _, lk_13, Or.inl ⟨rfl, ct_13, rfl⟩⟩⟩
theorem fx_has_12 : ∃ q, qcl[12]? = some q ∧ qk_find "QuakeLinkLaw" q.1 5 m_La_has.2.2.2.2 20 := ⟨_, rfl, ⟨by decide, by decide, by decide, _, lk_13, Or.inl ⟨rfl, ct_13, rfl⟩⟩⟩
theorem fx_at_12 : ∃ q, qcl[12]? = some q ∧ qk_find "QuakeLinkLaw" q.1 5 m_La_at.2.2.2.2 13 := ⟨_, rfl, ⟨by decide, by decide, by decide, _, lk_13, Or.inl ⟨rfl, ct_13, rfl⟩⟩⟩
theorem fx_qualityAt_12 : ∃ q, qcl[12]? = some q ∧ qk_find "QuakeLinkLaw" q.1 5 m_La_qualityAt.2.2.2.2 13 := ⟨_, rfl, ⟨by decide, by decide, by decide, _, lk_13, Or.inl ⟨rfl, ct_13, rfl⟩⟩⟩
theorem fx_gaps_12 : ∃ q, qcl[12]? = some q ∧ qk_find "QuakeLinkLaw" q.1 4 m_La_gaps.2.2.2.2 12 := ⟨_, rfl, ⟨by decide, by decide, by decide, _, lk_13, Or.inl ⟨rfl, ct_13, rfl⟩⟩⟩
theorem fx_gap_12 : ∃ q, qcl[12]? = some q ∧ qk_find "QuakeLinkLaw" q.1 7 m_La_gap.2.2.2.2 15 := ⟨_, rfl, ⟨by decide, by decide, by decide, _, lk_13, Or.inl ⟨rfl, ct_13, rfl⟩⟩⟩
theorem fx_count_12 : ∃ q, qcl[12]? = some q ∧ qk_find "QuakeLinkLaw" q.1 5 m_La_count.2.2.2.2 13 := ⟨_, rfl, ⟨by decide, by decide, by decide, _, lk_13, Or.inl ⟨rfl, ct_13, rfl⟩⟩⟩
theorem fx_count_14 : ∃ q, qcl[14]? = some q ∧ qk_find "QuakeLinkLaw" q.1 5 m_La_count.2.2.2.2 17 := ⟨_, rfl, ⟨by decide, by decide, by decide, _, lk_13, Or.inr ⟨by decide, ⟨by decide, by decide, by decide, _, lk_21, Or.inl ⟨rfl, ct_21, rfl⟩⟩⟩⟩⟩
theorem fx_total_14 : ∃ q, qcl[14]? = some q ∧ qk_find "QuakeLinkLaw" q.1 4 m_La_total.2.2.2.2 12 := ⟨_, rfl, ⟨by decide, by decide, by decide, _, lk_21, Or.inl ⟨rfl, ct_21, rfl⟩⟩⟩
