/-! ===== MEMORY, READ AND WRITTEN ===== -/
def gI (M : q_M) (a k : Nat) : Int32 := M.2.2.1 a k
def gL (M : q_M) (a k : Nat) : Int64 := M.2.2.2.1 a k
def gR (M : q_M) (a k : Nat) : Option Nat := M.2.2.2.2.1 a k
def gN (M : q_M) : Nat := M.2.2.2.2.2.1
def gS (M : q_M) : Nat := M.2.2.2.2.2.2
def stI (M : q_M) (a k : Nat) (v : Int32) : q_M := (M.1, M.2.1, q_w2 M.2.2.1 a k v, M.2.2.2)
def stL (M : q_M) (a k : Nat) (v : Int64) : q_M := (M.1, M.2.1, M.2.2.1, q_w2 M.2.2.2.1 a k v, M.2.2.2.2)
def stR (M : q_M) (a k : Nat) (v : Option Nat) : q_M := (M.1, M.2.1, M.2.2.1, M.2.2.2.1, q_w2 M.2.2.2.2.1 a k v, M.2.2.2.2.2)
theorem q_w2_at {α : Type} (f : Nat → Nat → α) (a k : Nat) (v : α) (b j : Nat) : q_w2 f a k v b j = if b = a ∧ j = k then v else f b j := by
  unfold q_w2
  by_cases h : b = a
  · subst h
    rw [va_up_self]
    by_cases h2 : j = k
    · subst h2
      rw [va_up_self, if_pos ⟨rfl, rfl⟩]
    · rw [va_up_ne _ _ h2, if_neg (fun q => h2 q.2)]
  · rw [va_up_ne _ _ h, if_neg (fun q => h q.1)]
theorem gI_stI (M : q_M) (a k : Nat) (v : Int32) (b j : Nat) : gI (stI M a k v) b j = if b = a ∧ j = k then v else gI M b j := q_w2_at _ a k v b j
theorem gL_stL (M : q_M) (a k : Nat) (v : Int64) (b j : Nat) : gL (stL M a k v) b j = if b = a ∧ j = k then v else gL M b j := q_w2_at _ a k v b j
theorem gR_stR (M : q_M) (a k : Nat) (v : Option Nat) (b j : Nat) : gR (stR M a k v) b j = if b = a ∧ j = k then v else gR M b j := q_w2_at _ a k v b j
theorem gI_stL (M : q_M) (a k : Nat) (v : Int64) (b j : Nat) : gI (stL M a k v) b j = gI M b j := rfl
theorem gI_stR (M : q_M) (a k : Nat) (v : Option Nat) (b j : Nat) : gI (stR M a k v) b j = gI M b j := rfl
theorem gL_stI (M : q_M) (a k : Nat) (v : Int32) (b j : Nat) : gL (stI M a k v) b j = gL M b j := rfl
theorem gL_stR (M : q_M) (a k : Nat) (v : Option Nat) (b j : Nat) : gL (stR M a k v) b j = gL M b j := rfl
theorem gR_stI (M : q_M) (a k : Nat) (v : Int32) (b j : Nat) : gR (stI M a k v) b j = gR M b j := rfl
theorem gR_stL (M : q_M) (a k : Nat) (v : Int64) (b j : Nat) : gR (stL M a k v) b j = gR M b j := rfl
theorem t_stI (M : q_M) (a k : Nat) (v : Int32) : (stI M a k v).1 = M.1 := rfl
theorem t_stL (M : q_M) (a k : Nat) (v : Int64) : (stL M a k v).1 = M.1 := rfl
theorem t_stR (M : q_M) (a k : Nat) (v : Option Nat) : (stR M a k v).1 = M.1 := rfl
theorem l_stI (M : q_M) (a k : Nat) (v : Int32) : (stI M a k v).2.1 = M.2.1 := rfl
theorem l_stL (M : q_M) (a k : Nat) (v : Int64) : (stL M a k v).2.1 = M.2.1 := rfl
theorem l_stR (M : q_M) (a k : Nat) (v : Option Nat) : (stR M a k v).2.1 = M.2.1 := rfl
theorem n_stI (M : q_M) (a k : Nat) (v : Int32) : gN (stI M a k v) = gN M := rfl
theorem n_stL (M : q_M) (a k : Nat) (v : Int64) : gN (stL M a k v) = gN M := rfl
theorem n_stR (M : q_M) (a k : Nat) (v : Option Nat) : gN (stR M a k v) = gN M := rfl
theorem s_stI (M : q_M) (a k : Nat) (v : Int32) : gS (stI M a k v) = gS M := rfl
theorem s_stL (M : q_M) (a k : Nat) (v : Int64) : gS (stL M a k v) = gS M := rfl
theorem s_stR (M : q_M) (a k : Nat) (v : Option Nat) : gS (stR M a k v) = gS M := rfl
theorem q_isTs (t : Nat) : q_isT t t = true := by
  unfold q_isT
  rw [Nat.beq_refl]
  rfl
/-! fields and arrays where the shape is known -/
theorem z_fI {M : q_M} {t a k : Nat} (h : q_isT t (M.1 a) = true) : q_fI M t a k = some (gI M a k) := if_pos h
theorem z_fL {M : q_M} {t a k : Nat} (h : q_isT t (M.1 a) = true) : q_fL M t a k = some (gL M a k) := if_pos h
theorem z_fR {M : q_M} {t a k : Nat} (h : q_isT t (M.1 a) = true) : q_fR M t a k = some (gR M a k) := if_pos h
theorem z_sI {M : q_M} {t a k : Nat} {v : Int32} (h : q_isT t (M.1 a) = true) : q_sI M t a k v = some (stI M a k v) := if_pos h
theorem z_sL {M : q_M} {t a k : Nat} {v : Int64} (h : q_isT t (M.1 a) = true) : q_sL M t a k v = some (stL M a k v) := if_pos h
theorem z_sR {M : q_M} {t a k : Nat} {v : Option Nat} (h : q_isT t (M.1 a) = true) : q_sR M t a k v = some (stR M a k v) := if_pos h
theorem z_ix {k n : Nat} (h : k < n) (hn : n ≤ 2147483647) : 0 ≤ nI k ∧ (nI k).toNatClampNeg < n := by
  rw [nI_clamp (by omega)]
  exact ⟨nI_pos' (by omega), h⟩
theorem z_aI {M : q_M} {t a k n : Nat} (h : M.1 a = t) (hl : M.2.1 a = n) (hk : k < n) (hn : n ≤ 2147483647) : q_aI M t a (nI k) = some (gI M a k) := by
  unfold q_aI
  rw [if_pos ⟨h, by rw [hl]; exact z_ix hk hn⟩, nI_clamp (by omega)]
  rfl
theorem z_aL {M : q_M} {a k n : Nat} (h : M.1 a = 15) (hl : M.2.1 a = n) (hk : k < n) (hn : n ≤ 2147483647) : q_aL M a (nI k) = some (gL M a k) := by
  unfold q_aL
  rw [if_pos ⟨h, by rw [hl]; exact z_ix hk hn⟩, nI_clamp (by omega)]
  rfl
theorem z_aR {M : q_M} {a k n : Nat} (h : 17 ≤ M.1 a ∧ M.1 a ≤ 22) (hl : M.2.1 a = n) (hk : k < n) (hn : n ≤ 2147483647) : q_aR M a (nI k) = some (gR M a k) := by
  unfold q_aR
  rw [if_pos ⟨h, by rw [hl]; exact z_ix hk hn⟩, nI_clamp (by omega)]
  rfl
theorem z_bI {M : q_M} {t a k n : Nat} {v : Int32} (h : M.1 a = t) (hl : M.2.1 a = n) (hk : k < n) (hn : n ≤ 2147483647) : q_bI M t a (nI k) v = some (stI M a k v) := by
  unfold q_bI
  rw [if_pos ⟨h, by rw [hl]; exact z_ix hk hn⟩, nI_clamp (by omega)]
  rfl
theorem z_bL {M : q_M} {a k n : Nat} {v : Int64} (h : M.1 a = 15) (hl : M.2.1 a = n) (hk : k < n) (hn : n ≤ 2147483647) : q_bL M a (nI k) v = some (stL M a k v) := by
  unfold q_bL
  rw [if_pos ⟨h, by rw [hl]; exact z_ix hk hn⟩, nI_clamp (by omega)]
  rfl
theorem z_bR {M : q_M} {a k n : Nat} {v : Option Nat} (h : 17 ≤ M.1 a ∧ M.1 a ≤ 21 ∧ q_may M (M.1 a) v = true) (hl : M.2.1 a = n) (hk : k < n) (hn : n ≤ 2147483647) : q_bR M a (nI k) v = some (stR M a k v) := by
  unfold q_bR
  rw [if_pos ⟨h, by rw [hl]; exact z_ix hk hn⟩, nI_clamp (by omega)]
  rfl
theorem z_sel {M : q_M} {t y a : Nat} {r : List (Nat × Nat)} (h : M.1 a = t) : q_sel M ((t, y) :: r) a = some y := if_pos h
theorem z_rI {x : Int32} {M : q_M} : q_rI (some (some (.inl x), M)) = some (x, M) := rfl
theorem z_rL {x : Int64} {M : q_M} : q_rL (some (some (.inr (.inl x)), M)) = some (x, M) := rfl
theorem z_rR {x : Option Nat} {M : q_M} : q_rR (some (some (.inr (.inr x)), M)) = some (x, M) := rfl
theorem z_rV {M : q_M} : q_rV (some (none, M)) = some M := rfl
/-! ===== THE SHAPE OF THE FIRST CELLS ===== -/
def q_tgs : List Nat := [23, 11, 8, 17, 20, 14, 7, 15, 15, 1, 18, 15, 14, 15, 15, 5, 19, 5, 19, 5, 19, 5, 19, 21, 13, 10, 22, 14, 14, 14, 22, 14, 14, 14, 14, 15, 14, 14, 14, 4, 15, 16, 7, 15, 15, 1, 18, 15, 16, 12, 15, 15, 16, 14, 14, 14, 14, 14, 15, 14, 16, 16, 13]
def q_lns : List Nat := [0, 9, 9, 8, 4, 6, 4, 200, 200, 4, 300, 300, 8, 8, 8, 4, 6, 4, 6, 4, 6, 4, 6, 2, 2700, 9, 3, 61, 61, 61, 3, 61, 61, 61, 61, 61, 61, 3, 3, 6, 300, 300, 4, 200, 200, 4, 20, 20, 301, 21, 60190, 120380, 2, 60, 60, 3, 3, 3, 402, 3, 300, 300, 2700]
/-- references that never change: cell, place, what -/
def q_crs : List (Nat × Nat × Nat) := [(1, 0, 2), (1, 1, 23), (1, 2, 24), (1, 4, 25), (1, 5, 39), (1, 6, 42), (1, 7, 45), (1, 8, 48), (2, 0, 3), (2, 2, 4), (2, 3, 5), (2, 4, 6), (2, 5, 9), (2, 6, 12), (2, 7, 13), (2, 8, 14), (4, 0, 15), (4, 1, 17), (4, 2, 19), (4, 3, 21), (6, 0, 7), (6, 1, 8), (9, 0, 10), (9, 1, 11), (15, 2, 16), (17, 2, 18), (19, 2, 20), (21, 2, 22), (25, 0, 26), (25, 1, 30), (25, 2, 34), (25, 3, 35), (25, 4, 36), (25, 5, 37), (25, 6, 38), (26, 0, 27), (26, 1, 28), (26, 2, 29), (30, 0, 31), (30, 1, 32), (30, 2, 33), (39, 0, 40), (39, 1, 41), (42, 0, 43), (42, 1, 44), (45, 0, 46), (45, 1, 47), (49, 0, 50), (49, 1, 51), (49, 2, 52), (49, 5, 53), (49, 6, 54), (49, 7, 55), (49, 8, 56), (49, 9, 57), (49, 12, 58), (49, 14, 59), (49, 15, 60), (49, 16, 61), (49, 19, 62)]
def q_isc (a k : Nat) : Bool := q_crs.any fun e => Nat.beq e.1 a && Nat.beq e.2.1 k
def SH (M : q_M) : Prop := (∀ a, a < 63 → M.1 a = q_tgs.getD a 0) ∧ (∀ a, 1 ≤ a → a < 63 → M.2.1 a = q_lns.getD a 0) ∧ (∀ e ∈ q_crs, gR M e.1 e.2.1 = some e.2.2) ∧ 63 ≤ gN M
theorem SH_stI {M : q_M} {a k : Nat} {v : Int32} : SH (stI M a k v) ↔ SH M := Iff.rfl
theorem SH_stL {M : q_M} {a k : Nat} {v : Int64} : SH (stL M a k v) ↔ SH M := Iff.rfl
theorem SH_stR {M : q_M} {a k : Nat} {v : Option Nat} (hk : q_isc a k = false) (h : SH M) : SH (stR M a k v) := by
  refine ⟨h.1, h.2.1, fun e he => ?_, h.2.2.2⟩
  rw [gR_stR, if_neg]
  · exact h.2.2.1 e he
  · rintro ⟨h1, h2⟩
    have := List.any_eq_false.mp hk e he
    rw [h1, h2, Nat.beq_refl, Nat.beq_refl] at this
    exact this rfl
theorem SH.tg {M : q_M} (h : SH M) {a : Nat} (ha : a < 63) {t : Nat} (ht : q_tgs.getD a 0 = t) : M.1 a = t := (h.1 a ha).trans ht
theorem SH.ln {M : q_M} (h : SH M) {a : Nat} (h1 : 1 ≤ a) (ha : a < 63) {t : Nat} (ht : q_lns.getD a 0 = t) : M.2.1 a = t := (h.2.1 a h1 ha).trans ht
theorem SH.cr {M : q_M} (h : SH M) (e : Nat × Nat × Nat) (he : e ∈ q_crs) : gR M e.1 e.2.1 = some e.2.2 := h.2.2.1 e he
/-! reads of fixed cells -/
theorem y_fI {M : q_M} (h : SH M) {t a k : Nat} (ha : a < 63) (ht : q_isT t (q_tgs.getD a 0) = true) : q_fI M t a k = some (gI M a k) := z_fI (by rw [h.1 a ha]; exact ht)
theorem y_fL {M : q_M} (h : SH M) {t a k : Nat} (ha : a < 63) (ht : q_isT t (q_tgs.getD a 0) = true) : q_fL M t a k = some (gL M a k) := z_fL (by rw [h.1 a ha]; exact ht)
theorem y_sI {M : q_M} (h : SH M) {t a k : Nat} {v : Int32} (ha : a < 63) (ht : q_isT t (q_tgs.getD a 0) = true) : q_sI M t a k v = some (stI M a k v) := z_sI (by rw [h.1 a ha]; exact ht)
theorem y_sL {M : q_M} (h : SH M) {t a k : Nat} {v : Int64} (ha : a < 63) (ht : q_isT t (q_tgs.getD a 0) = true) : q_sL M t a k v = some (stL M a k v) := z_sL (by rw [h.1 a ha]; exact ht)
theorem y_sel {M : q_M} (h : SH M) {t y a : Nat} {r : List (Nat × Nat)} (ha : a < 63) (ht : q_tgs.getD a 0 = t) : q_sel M ((t, y) :: r) a = some y := z_sel (h.tg ha ht)
theorem y_aI {M : q_M} (h : SH M) {t a k : Nat} (h1 : 1 ≤ a) (ha : a < 63) (ht : q_tgs.getD a 0 = t) (hk : k < q_lns.getD a 0) (hn : q_lns.getD a 0 ≤ 2147483647) : q_aI M t a (nI k) = some (gI M a k) := z_aI (h.tg ha ht) (h.ln h1 ha rfl) hk hn
theorem y_aL {M : q_M} (h : SH M) {a k : Nat} (h1 : 1 ≤ a) (ha : a < 63) (ht : q_tgs.getD a 0 = 15) (hk : k < q_lns.getD a 0) (hn : q_lns.getD a 0 ≤ 2147483647) : q_aL M a (nI k) = some (gL M a k) := z_aL (h.tg ha ht) (h.ln h1 ha rfl) hk hn
theorem y_bI {M : q_M} (h : SH M) {t a k : Nat} {v : Int32} (h1 : 1 ≤ a) (ha : a < 63) (ht : q_tgs.getD a 0 = t) (hk : k < q_lns.getD a 0) (hn : q_lns.getD a 0 ≤ 2147483647) : q_bI M t a (nI k) v = some (stI M a k v) := z_bI (h.tg ha ht) (h.ln h1 ha rfl) hk hn
theorem y_bL {M : q_M} (h : SH M) {a k : Nat} {v : Int64} (h1 : 1 ≤ a) (ha : a < 63) (ht : q_tgs.getD a 0 = 15) (hk : k < q_lns.getD a 0) (hn : q_lns.getD a 0 ≤ 2147483647) : q_bL M a (nI k) v = some (stL M a k v) := z_bL (h.tg ha ht) (h.ln h1 ha rfl) hk hn
/-! the model's own -/
theorem m_s {M : q_M} (h : SH M) : q_fR M 12 49 0 = some (some 50) := (z_fR (by rw [h.1 49 (by omega)]; rfl)).trans (congrArg some (h.cr (49, 0, 50) (by decide)))
theorem m_aL {M : q_M} (h : SH M) {k : Nat} (hk : k < 60190) : q_aL M 50 (nI k) = some (gL M 50 k) := y_aL h (by omega) (by omega) rfl hk (by decide)
theorem m_bL {M : q_M} (h : SH M) {k : Nat} {v : Int64} (hk : k < 60190) : q_bL M 50 (nI k) v = some (stL M 50 k v) := y_bL h (by omega) (by omega) rfl hk (by decide)
theorem m_sel {M : q_M} (h : SH M) {y : Nat} : q_sel M [(12, y)] 49 = some y := y_sel h (by omega) rfl
