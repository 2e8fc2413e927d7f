/-! PURE: the relation at the start -/
theorem s0_law : (∀ i, i < 1 → rd μ0 9 i = (usu 0).getD i 0) ∧ (∀ i, i < 9 → rd μ0 12 i = (usu 1).getD i 0) := by decide +kernel
theorem s0_sh : ∀ s, s < 4 → rd μ0 (97 + 2 * s) 1 = 0 ∧ rd μ0 116 s = 0 ∧ rd μ0 (97 + 2 * s) 2 = 0 ∧ rd μ0 117 s = 0 ∧ ∀ i, i < 40 → rd μ0 (98 + 2 * s) i = 0 ∧ rd μ0 118 (40 * s + i) = 0 := by decide +kernel
theorem s0_re : ∀ k, k < 6 → rd μ0 96 k = rd μ0 109 k := by decide +kernel
theorem s0_all : rd μ0 2 5 = 0 ∧ rd μ0 106 0 = 0 ∧ rd μ0 14 3 = 0 ∧ rd μ0 14 4 = 0 ∧ rd μ0 106 1 = 0 ∧ rd μ0 106 3 = 0 ∧ rd μ0 28 3 = 0 ∧ rd μ0 106 2 = 0 ∧ rd μ0 32 1 = 0 ∧ rd μ0 106 5 = 0 ∧ rd μ0 1 7 = 0 ∧ rd μ0 106 6 = 0 ∧ rd μ0 1 8 = rd μ0 106 4 ∧ rd μ0 8 3 = nI 1 ∧ rd μ0 11 3 = nI 9 ∧ rd μ0 106 170 = 0 ∧ rd μ0 106 171 = 0 ∧ rd μ0 0 9 = 0 ∧ rd μ0 105 3 = 0 ∧ rd μ0 92 1 = 0 ∧ rd μ0 105 20 = 0 ∧ rd μ0 105 12 = -1 ∧ rd μ0 8 2 = 0 ∧ rd μ0 11 2 = -999 := by decide +kernel
theorem s0_bz : ∀ p, p < 4 → bz (rd μ0 (14 + 2 + 3 * p) 7) = true := by decide +kernel
theorem getD_of {l : List Int32} {i : Nat} {v : Int32} (h : l[i]? = some v) : l.getD i 0 = v := by
  rw [List.getD_eq_getElem?_getD, h]
  rfl
theorem rel0 : Rel μ0 := by
  obtain ⟨a1, a2, a3, a4, a5, a6, a7, a8, a9, b1, b2, b3, b4, b5, b6, b7, b8, b9, c1, c2, c3, c4, c5, c6⟩ := s0_all
  refine ⟨⟨?_, ?_, ?_, ?_, b4, ?_, ?_⟩, ⟨b9.trans c1.symm, fun q => absurd b9 q⟩, s0_re, ?_, ?_, c4, c5, c6⟩
  · exact ⟨s0_bz, 0, fun _ => 0, fun _ => 0, fun _ => 0, fun _ => 0, fun _ => 0, 0, 0, fun _ => 0, fun _ => 0, fun _ => 0, fun _ => 0, fun _ => 0, fun _ _ => 0, fun _ _ => 0, ⟨a1, fun i hi => absurd hi (by omega)⟩, ⟨a2, fun i hi => absurd hi (by omega)⟩, ⟨by omega, fun i hi => absurd hi (by omega)⟩, ⟨a3, a4, fun i hi => absurd hi (by omega)⟩, ⟨a5, a6, fun i hi => absurd hi (by omega)⟩, ⟨by omega, by omega, fun i hi => absurd hi (by omega)⟩⟩
  · refine ⟨[], by simp, fun x hx => by simp at hx, ⟨a7, fun i x hx => by simp [msrt] at hx⟩, ⟨a8, fun i x hx => by simp at hx⟩⟩
  · exact ⟨0, by omega, a9, b1, fun i hi => absurd hi (by omega)⟩
  · exact ⟨0, by omega, b2, b3, fun i hi => absurd hi (by omega)⟩
  · refine ⟨0, fun _ => 0, usu 0, by omega, by decide, b5, fun i v hv => ?_, b7, fun i hi => absurd hi (by omega), by unfold LAWS; rw [if_pos rfl]⟩
    have := lt_of_get hv
    rw [← getD_of hv]
    exact s0_law.1 i this
  · refine ⟨0, fun _ => 0, usu 1, by omega, by decide, b6, fun i v hv => ?_, b8, fun i hi => absurd hi (by omega), by unfold LAWS; rw [if_pos rfl]⟩
    have := lt_of_get hv
    rw [← getD_of hv]
    exact s0_law.2 i this
  · exact ⟨0, by omega, c2, c3, fun i hi => absurd hi (by omega)⟩
  · intro s hs
    obtain ⟨q1, q2, q3, q4, q5⟩ := s0_sh s hs
    exact ⟨0, 0, Or.inl rfl, by omega, q1, q2, q3, q4, fun _ => rfl, fun i hi => ⟨0, (q5 i hi).1, (q5 i hi).2⟩⟩
