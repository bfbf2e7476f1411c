/-! ===== THE REFERENCE: curves ===== -/
theorem S_of {M : q_M} (h : SH M) {i j : Nat} (hk : 1 + 6 * i + j < 60190) : q_CL 142 [.inr (.inr (some 49)), .inl (nI i), .inl (nI j)] M = some (some (.inl (gL M 50 (1 + 6 * i + j)).toInt32), M) := by
  rw [C_X12_of]
  simp only [m_s h, Option.bind_some, pk_mul, nI_add, m_aL h hk]
theorem S_kind {M : q_M} (h : SH M) {i : Nat} (hk : i < 8) : q_CL 143 [.inr (.inr (some 49)), .inl (nI i)] M = some (some (.inl (gL M 50 (1 + 6 * i)).toInt32), M) := by
  rw [C_X12_kind]
  simp only [m_sel h, Option.bind_some, S_of h (show 1 + 6 * i + 0 < 60190 by omega), z_rI, Nat.add_zero]
