/-! ===== STEPS OVER MEMORY ===== -/
theorem q_cell_eq {G : q_G} {M M1 : q_M} {i : Nat} (h1 : M1.1 i = M.1 i) (h2 : M1.2.1 i = M.2.1 i) (h3 : M1.2.2.1 i = M.2.2.1 i) (h4 : M1.2.2.2.1 i = M.2.2.2.1 i) (h5 : M1.2.2.2.2.1 i = M.2.2.2.2.1 i) : q_cell G M1 i = q_cell G M i := by
  have hf : ∀ t, q_fs G M1 i t = q_fs G M i t := by
    intro t
    unfold q_fs q_fv
    simp only [h3, h4, h5]
  unfold q_cell
  rw [h1, h2, h3, h4, h5, hf]
theorem q_w2_ne {α : Type} (f : Nat → Nat → α) {a i : Nat} (k : Nat) (v : α) (h : i ≠ a) : q_w2 f a k v i = f i := va_up_ne f _ h
theorem q_w2_self {α : Type} (f : Nat → Nat → α) (a k : Nat) (v : α) : q_w2 f a k v a = va_up (f a) k v := va_up_self f a _
theorem q_map_up {α β : Type} (g : α → β) (f : Nat → Option α) (k : Nat) (v : Option α) : (fun j => (va_up f k v j).map g) = va_up (fun j => (f j).map g) k (v.map g) := by
  funext j
  by_cases h : j = k
  · subst h
    rw [va_up_self, va_up_self]
  · rw [va_up_ne _ _ h, va_up_ne _ _ h]
theorem q_vin {i : Int32} {n : Nat} (h1 : 0 ≤ i) (h2 : i.toNatClampNeg < n) : vp_in i n := by
  rintro (h | h)
  · exact absurd h1 (by rw [Int32.le_iff_toInt_le]; rw [Int32.lt_iff_toInt_lt] at h; omega)
  · omega
theorem q_n0 {i : Int32} (h1 : 0 ≤ i) : ¬ i < 0 := by
  rw [Int32.le_iff_toInt_le] at h1
  rw [Int32.lt_iff_toInt_lt]
  omega
/-- one cell changed: its new content is given as va_ rows give it -/
theorem q_In.set {G : q_G} {L : Nat} {xs : Nat → Int32} {M M1 : q_M} {a : Nat} {H H1 : Heap} {E : va_E} (h : q_In G L xs M H) (ha : M.1 a ≤ 22) (t1 : M1.1 = M.1) (t2 : M1.2.1 = M.2.1) (t3 : ∀ i, i ≠ a → M1.2.2.1 i = M.2.2.1 i) (t4 : ∀ i, i ≠ a → M1.2.2.2.1 i = M.2.2.2.1 i) (t5 : ∀ i, i ≠ a → M1.2.2.2.2.1 i = M.2.2.2.2.1 i) (tn : M1.2.2.2.2.2.1 = M.2.2.2.2.2.1) (hE : q_cell G M1 a = E)
    (hP : va_P G.2.1 q_cl ((q_ws G M).set (a - 1) (q_ad G a, E)) H1) : q_In G L xs M1 H1 := by
  obtain ⟨hP0, hm, h5, h6⟩ := h
  have h0 := (hm.lo ha).1
  refine ⟨?_, ?_, ?_, ?_⟩
  · rw [q_ws_set tn h0 (fun i hi => q_cell_eq (by rw [t1]) (by rw [t2]) (t3 i hi) (t4 i hi) (t5 i hi)), hE]
    exact hP
  · unfold q_mo
    rw [t1, tn]
    exact hm
  · rw [t2, h5]
  · rw [t3 0 (by omega), h6]
theorem q_In.at {G : q_G} {L : Nat} {xs : Nat → Int32} {M : q_M} {H : Heap} (h : q_In G L xs M H) {a : Nat} (ha : M.1 a ≤ 22) : (q_ws G M)[a - 1]? = some (q_ad G a, q_cell G M a) := q_ws_at (h.2.1.lo ha).1 (h.2.1.lo ha).2
theorem q_cell_o {G : q_G} {M : q_M} {a : Nat} (h : M.1 a < 13) : q_cell G M a = .inr (M.1 a, q_fs G M a (M.1 a)) := by
  unfold q_cell
  rw [if_pos h]
theorem q_cell_l {G : q_G} {M : q_M} {a : Nat} (h : M.1 a = 15) : q_cell G M a = .inl (G.2.2 15, M.2.1 a, .inr (.inl (M.2.2.2.1 a))) := by
  unfold q_cell
  rw [if_neg (by omega), if_pos h]
theorem q_cell_i {G : q_G} {M : q_M} {a : Nat} (h1 : 13 ≤ M.1 a) (h2 : M.1 a ≠ 15) (h3 : M.1 a < 17) : q_cell G M a = .inl (G.2.2 (M.1 a), M.2.1 a, .inl (M.2.2.1 a)) := by
  unfold q_cell
  rw [if_neg (by omega), if_neg h2, if_pos h3]
theorem q_cell_r {G : q_G} {M : q_M} {a : Nat} (h1 : 17 ≤ M.1 a) : q_cell G M a = .inl (G.2.2 (M.1 a), M.2.1 a, .inr (.inr (.inr (.inr fun k => (M.2.2.2.2.1 a k).map (q_ad G))))) := by
  unfold q_cell
  rw [if_neg (by omega), if_neg (by omega), if_neg (by omega)]
/-- which fields a class and its heirs share -/
theorem q_isT_of {t g : Nat} (h : q_isT t g = true) (ht : t < 13) : g < 13 ∧ q_nf g = q_nf t ∧ (∀ k, k < q_nf t → q_T1 g k = q_T1 t k) ∧ ∀ k, k < q_nf t → q_ty g k = q_ty t k := by
  unfold q_isT at h
  rw [Bool.or_eq_true, Bool.and_eq_true, Bool.or_eq_true] at h
  rcases h with h | ⟨h1, h2 | h2⟩
  · have := Nat.eq_of_beq_eq_true h
    subst this
    exact ⟨ht, rfl, fun _ _ => rfl, fun _ _ => rfl⟩
  · have := Nat.eq_of_beq_eq_true h1
    subst this
    have := Nat.eq_of_beq_eq_true h2
    subst this
    exact ⟨by omega, rfl, by decide +kernel, by decide +kernel⟩
  · have := Nat.eq_of_beq_eq_true h1
    subst this
    have := Nat.eq_of_beq_eq_true h2
    subst this
    exact ⟨by omega, rfl, by decide +kernel, by decide +kernel⟩
/-- what the tables say of a field reference: own class, index, class, field -/
def q_Fl (own : String) (idx t k : Nat) : Prop := t < 13 ∧ k < q_nf t ∧ ∃ ref : String, Cond.fieldLink own idx ref (q_T1 t k).2.1 (q_T1 t k).2.2.1 ∈ q_wt ∧ (ref = (q_T1 t k).1 ∨ Cond.sameField ref (q_T1 t k).1 (q_T1 t k).2.1 (q_T1 t k).2.2.1 ∈ q_wt)
/-- all words of the classes' fields are there -/
def q_Fw : Prop := ∀ t, t < 13 → ∀ w ∈ u_ws (q_R1 t) (q_T1 t) (q_nf t), w ∈ q_wt
section QM
variable {l : Launch} {G : q_G} {L : Nat} {xs : Nat → Int32} {y : MethodName} {bytes : ByteArray} {fr lo : Nat} {pc : Nat} {ls : q_L} {st : List q_V} {M : q_M} {pc1 : Nat} {ls1 : q_L} {st1 : List q_V} {M1 : q_M}
theorem q_r_get (hw : q_Fw) {idx t k a : Nat} {v : q_V} (hd : decode bytes pc = .ok (.getfield idx, 3)) (hf : q_Fl y.cls idx t k) (ht : q_isT t (M.1 a) = true) (hv : q_fv G M a k (q_kd (q_ty t k)) = q_vv G v) : q_Re l G L xs y bytes fr lo pc ls (.inr (.inr (some a)) :: st) M (pc + 3) ls (v :: st) M := by
  refine q_Re.top ?_
  intro p e R s m args below meth c X hfr hlo H locs cells slots Q lsA hl hI hS kk
  obtain ⟨h1, h2, ref, h3, h4⟩ := hf
  obtain ⟨g1, g2, g3, g4⟩ := q_isT_of ht h1
  have hat := hI.at (a := a) (by omega)
  rw [q_cell_o g1] at hat
  have hk : k < q_nf (M.1 a) := by omega
  refine va_get (own := y.cls) (ref := ref) X.1 X.2.1 X.2.2.2.2.1 (hw (M.1 a) g1) X.2.2.2.1 X.2.2.2.2.2.2.1 hI.1 (a - 1) hat (q_clt _ g1) k hk (by rw [g3 k h2]; exact X.2.2.2.2.1 _ h3) (by
      rw [g3 k h2]
      rcases h4 with h4 | h4
      · rw [h4]; exact fun _ h => h
      · exact u_same (X.2.2.2.2.1 _ h4)) (q_fs_at hk) hd ?_
  rw [g4 k h2, hv]
  exact kk
theorem q_r_put (hw : q_Fw) {idx t k a : Nat} {v : q_V} (hd : decode bytes pc = .ok (.putfield idx, 3)) (hf : q_Fl y.cls idx t k) (ht : q_isT t (M.1 a) = true) (hfin : (q_T1 t k).2.2.2 = false ∨ (y.name = "<init>" ∧ (q_T1 t k).1 = y.cls)) (hn : narrow (q_ty t k) (q_vv G v) = q_vv G v) (hfi : fits (q_ty t k) (q_vv G v) = true)
    (t1 : M1.1 = M.1) (t2 : M1.2.1 = M.2.1) (t3 : ∀ i, i ≠ a → M1.2.2.1 i = M.2.2.1 i) (t4 : ∀ i, i ≠ a → M1.2.2.2.1 i = M.2.2.2.1 i) (t5 : ∀ i, i ≠ a → M1.2.2.2.2.1 i = M.2.2.2.2.1 i) (tn : M1.2.2.2.2.2 = M.2.2.2.2.2) (hv : q_fv G M1 a k (q_kd (q_ty t k)) = q_vv G v) (ho : ∀ j d, j ≠ k → q_fv G M1 a j d = q_fv G M a j d) : q_Re l G L xs y bytes fr lo pc ls (v :: .inr (.inr (some a)) :: st) M (pc + 3) ls st M1 := by
  refine q_Re.mem (by rw [tn]) (by rw [tn]) ?_
  intro p e R s m args below meth c X hfr hlo H locs cells slots Q lsA hl hI hS kk
  obtain ⟨h1, h2, ref, h3, h4⟩ := hf
  obtain ⟨g1, g2, g3, g4⟩ := q_isT_of ht h1
  have hat := hI.at (a := a) (by omega)
  rw [q_cell_o g1] at hat
  have hk : k < q_nf (M.1 a) := by omega
  have hfs : (q_fs G M a (M.1 a)).set k (q_vv G v) = q_fs G M1 a (M.1 a) := q_fs_set (by rw [g4 k h2]; exact hv) (fun j hj => ho j _ hj)
  have hsame : ∀ x, s.fieldFound? (q_T1 (M.1 a) k).1 (q_T1 (M.1 a) k).2.1 (q_T1 (M.1 a) k).2.2.1 = some x → s.fieldFound? ref (q_T1 (M.1 a) k).2.1 (q_T1 (M.1 a) k).2.2.1 = some x := by
    rw [g3 k h2]
    rcases h4 with h4 | h4
    · rw [h4]; exact fun _ h => h
    · exact u_same (X.2.2.2.2.1 _ h4)
  have hpd := q_tyt _ g1 k hk
  rw [g4 k h2] at hpd
  have fin : ∀ (H1 : Heap) (locs1 : List Loc), va_P G.2.1 q_cl ((q_ws G M).set (a - 1) (q_ad G a, .inr (M.1 a, (q_fs G M a (M.1 a)).set k (q_vv G v)))) H1 → va_D (q_A G) ((q_ws G M).set (a - 1) (q_ad G a, .inr (M.1 a, (q_fs G M a (M.1 a)).set k (q_vv G v)))) → va_S (q_A G) s.heap H1 locs1 → W p l e R s m args below meth c H1 locs1 cells slots Q (F0 m (pc + 3) lsA (st.map (q_vv G))) := by
    intro H1 locs1 hP1 hD1 hS1
    refine kk H1 locs1 (hI.set (a := a) (by omega) t1 t2 t3 t4 t5 (by rw [tn]) ?_ hP1) hS1
    have e1 : M1.1 a = M.1 a := by rw [t1]
    rw [q_cell_o (by rw [e1]; exact g1), e1, hfs]
  by_cases hff : (q_T1 t k).2.2.2 = false
  · exact va_put (own := y.cls) (ref := ref) X.1 X.2.1 X.2.2.2.2.1 (hw (M.1 a) g1) (q_ty (M.1 a)) (q_tyt _ g1) (q_nmt _ g1) X.2.2.2.1 X.2.2.2.2.2.2.1 hI.1 (q_ws_D G M) hS (a - 1) hat (q_clt _ g1) k hk (by rw [g3 k h2]; exact X.2.2.2.2.1 _ h3) hsame (by rw [g3 k h2]; exact hff) hpd hn hfi (by rw [q_fs_len]; exact hk) hd fin
  · rcases hfin with hfin | ⟨hi1, hi2⟩
    · exact absurd hfin hff
    · exact va_putF (own := y.cls) (ref := ref) X.1 X.2.1 X.2.2.2.2.1 (hw (M.1 a) g1) (q_ty (M.1 a)) (q_tyt _ g1) (q_nmt _ g1) X.2.2.2.1 X.2.2.2.2.2.2.1 hI.1 (q_ws_D G M) hS (a - 1) hat (q_clt _ g1) k hk (by rw [g3 k h2]; exact X.2.2.2.2.1 _ h3) hsame (by rw [g3 k h2]; simpa using hff) (X.2.2.2.2.2.1 hi1) (by rw [g3 k h2]; exact hi2) hpd hn hfi (by rw [q_fs_len]; exact hk) hd fin
theorem q_r_putI (hw : q_Fw) {idx t k a : Nat} {v : Int32} (hd : decode bytes pc = .ok (.putfield idx, 3)) (hf : q_Fl y.cls idx t k) (hfin : (q_T1 t k).2.2.2 = false ∨ (y.name = "<init>" ∧ (q_T1 t k).1 = y.cls)) (hty : q_ty t k = .int) (h : q_sI M t a k v = some M1) : q_Re l G L xs y bytes fr lo pc ls (.inl v :: .inr (.inr (some a)) :: st) M (pc + 3) ls st M1 := by
  unfold q_sI at h
  split at h
  · rename_i ht
    cases h
    refine q_r_put hw hd hf ht hfin (by rw [hty]; rfl) (by rw [hty]; rfl) rfl rfl (fun i hi => q_w2_ne _ _ _ hi) (fun _ _ => rfl) (fun _ _ => rfl) rfl ?_ ?_
    · rw [hty]
      show Value.int (q_w2 M.2.2.1 a k v a k) = _
      rw [q_w2_self, va_up_self]
      rfl
    · intro j d hj
      unfold q_fv
      split
      · show Value.int (q_w2 M.2.2.1 a k v a j) = _
        rw [q_w2_self, va_up_ne _ _ hj]
      · rfl
      · rfl
  · cases h
theorem q_r_putL (hw : q_Fw) {idx t k a : Nat} {v : Int64} (hd : decode bytes pc = .ok (.putfield idx, 3)) (hf : q_Fl y.cls idx t k) (hfin : (q_T1 t k).2.2.2 = false ∨ (y.name = "<init>" ∧ (q_T1 t k).1 = y.cls)) (hty : q_ty t k = .long) (h : q_sL M t a k v = some M1) : q_Re l G L xs y bytes fr lo pc ls (.inr (.inl v) :: .inr (.inr (some a)) :: st) M (pc + 3) ls st M1 := by
  unfold q_sL at h
  split at h
  · rename_i ht
    cases h
    refine q_r_put hw hd hf ht hfin (by rw [hty]; rfl) (by rw [hty]; rfl) rfl rfl (fun _ _ => rfl) (fun i hi => q_w2_ne _ _ _ hi) (fun _ _ => rfl) rfl ?_ ?_
    · rw [hty]
      show Value.long (q_w2 M.2.2.2.1 a k v a k) = _
      rw [q_w2_self, va_up_self]
      rfl
    · intro j d hj
      unfold q_fv
      split
      · rfl
      · show Value.long (q_w2 M.2.2.2.1 a k v a j) = _
        rw [q_w2_self, va_up_ne _ _ hj]
      · rfl
  · cases h
theorem q_r_putR (hw : q_Fw) {idx t k a : Nat} {v : Option Nat} (hd : decode bytes pc = .ok (.putfield idx, 3)) (hf : q_Fl y.cls idx t k) (hfin : (q_T1 t k).2.2.2 = false ∨ (y.name = "<init>" ∧ (q_T1 t k).1 = y.cls)) (hty : (∃ n, q_ty t k = .object n) ∨ ∃ u, q_ty t k = .array u) (h : q_sR M t a k v = some M1) : q_Re l G L xs y bytes fr lo pc ls (.inr (.inr v) :: .inr (.inr (some a)) :: st) M (pc + 3) ls st M1 := by
  unfold q_sR at h
  split at h
  · rename_i ht
    cases h
    have h1 : narrow (q_ty t k) (q_vv G (.inr (.inr v))) = q_vv G (.inr (.inr v)) := by
      rcases hty with ⟨n, hty⟩ | ⟨n, hty⟩ <;> rw [hty] <;> cases v <;> rfl
    have h2 : fits (q_ty t k) (q_vv G (.inr (.inr v))) = true := by
      rcases hty with ⟨n, hty⟩ | ⟨n, hty⟩ <;> rw [hty] <;> cases v <;> rfl
    have h3 : q_kd (q_ty t k) = 3 := by
      rcases hty with ⟨n, hty⟩ | ⟨n, hty⟩ <;> rw [hty] <;> rfl
    refine q_r_put hw hd hf ht hfin h1 h2 rfl rfl (fun _ _ => rfl) (fun _ _ => rfl) (fun i hi => q_w2_ne _ _ _ hi) rfl ?_ ?_
    · rw [h3]
      show va_rf ((q_w2 M.2.2.2.2.1 a k v a k).map (q_ad G)) = _
      rw [q_w2_self, va_up_self]
      rfl
    · intro j d hj
      unfold q_fv
      split
      · rfl
      · rfl
      · show va_rf ((q_w2 M.2.2.2.2.1 a k v a j).map (q_ad G)) = _
        rw [q_w2_self, va_up_ne _ _ hj]
  · cases h
/-! arrays -/
theorem q_r_iald {t a : Nat} {i x : Int32} (hd : decode bytes pc = .ok (.iaload, 1)) (ht : t = 14) (h : q_aI M t a i = some x) : q_Re l G L xs y bytes fr lo pc ls (.inl i :: .inr (.inr (some a)) :: st) M (pc + 1) ls (.inl x :: st) M := by
  subst ht
  refine q_Re.top ?_
  intro p e R s m args below meth c X hfr hlo H locs cells slots Q lsA hl hI hS kk
  unfold q_aI at h
  split at h
  · rename_i hh
    cases h
    have hat := hI.at (a := a) (by omega)
    rw [q_cell_i (by omega) (by omega) (by omega), hh.1] at hat
    exact va_iald X.1 X.2.1 X.2.2.2.2.2.2.1 hI.1 (a - 1) 1 hat rfl (q_vin hh.2.1 hh.2.2) hd kk
  · cases h
/-- the script -/
theorem q_r_sald {a : Nat} {i x : Int32} (hd : decode bytes pc = .ok (.iaload, 1)) (h : q_aI M 23 a i = some x) : q_Re l G L xs y bytes fr lo pc ls (.inl i :: .inr (.inr (some a)) :: st) M (pc + 1) ls (.inl x :: st) M := by
  refine q_Re.top ?_
  intro p e R s m args below meth c X hfr hlo H locs cells slots Q lsA hl hI hS kk
  unfold q_aI at h
  split at h
  · rename_i hh
    cases h
    obtain ⟨-, hm, h5, h6⟩ := hI
    have ha : a = 0 := by
      rcases Nat.eq_zero_or_pos a with q | q
      · exact q
      · rcases Nat.lt_or_ge a M.2.2.2.2.2.1 with q2 | q2
        · have := hm.2.2.1 a q q2; omega
        · have := hm.2.2.2 a q2; omega
    subst ha
    obtain ⟨-, -, -, -, -, -, -, hX, hb1, hb2, hb3⟩ := id X
    have hin : vp_in i L := h5 ▸ q_vin hh.2.1 hh.2.2
    have kk2 := kk
    rw [h6] at kk2
    exact va_sld X.1 X.2.1 hX hb1 (show ¬ G.1.2 ≤ G.1.1 by omega) hS hin hd kk2
  · cases h
theorem q_r_slen {a : Nat} {x : Int32} (hd : decode bytes pc = .ok (.arraylength, 1)) (h : q_lenA M 23 a = some x) : q_Re l G L xs y bytes fr lo pc ls (.inr (.inr (some a)) :: st) M (pc + 1) ls (.inl x :: st) M := by
  refine q_Re.top ?_
  intro p e R s m args below meth c X hfr hlo H locs cells slots Q lsA hl hI hS kk
  have h : (if M.1 a = 23 then some (Int32.ofNat (M.2.1 a)) else none) = some x := h
  split at h
  · rename_i hh
    cases h
    obtain ⟨-, hm, h5, h6⟩ := hI
    have ha : a = 0 := by
      rcases Nat.eq_zero_or_pos a with q | q
      · exact q
      · rcases Nat.lt_or_ge a M.2.2.2.2.2.1 with q2 | q2
        · have := hm.2.2.1 a q q2; omega
        · have := hm.2.2.2 a q2; omega
    subst ha
    obtain ⟨-, -, -, -, -, -, -, hX, hb1, hb2, hb3⟩ := id X
    have kk2 := kk
    rw [h5] at kk2
    exact va_slen X.1 X.2.1 hX hb1 (show ¬ G.1.2 ≤ G.1.1 by omega) hS hd kk2
  · cases h
theorem q_r_bald {t a : Nat} {i x : Int32} (hd : decode bytes pc = .ok (.baload, 1)) (ht : t = 13 ∨ t = 16) (h : q_aI M t a i = some x) : q_Re l G L xs y bytes fr lo pc ls (.inl i :: .inr (.inr (some a)) :: st) M (pc + 1) ls (.inl x :: st) M := by
  refine q_Re.top ?_
  intro p e R s m args below meth c X hfr hlo H locs cells slots Q lsA hl hI hS kk
  unfold q_aI at h
  split at h
  · rename_i hh
    cases h
    have hat := hI.at (a := a) (by omega)
    rw [q_cell_i (by omega) (by omega) (by omega), hh.1] at hat
    rcases ht with rfl | rfl
    · exact va_bald X.1 X.2.1 X.2.2.2.2.2.2.1 hI.1 (a - 1) 0 hat rfl (q_vin hh.2.1 hh.2.2) hd kk
    · exact va_zald X.1 X.2.1 X.2.2.2.2.2.2.1 hI.1 (a - 1) 3 hat rfl (q_vin hh.2.1 hh.2.2) hd kk
  · cases h
theorem q_r_lald {a : Nat} {i : Int32} {x : Int64} (hd : decode bytes pc = .ok (.laload, 1)) (h : q_aL M a i = some x) : q_Re l G L xs y bytes fr lo pc ls (.inl i :: .inr (.inr (some a)) :: st) M (pc + 1) ls (.inr (.inl x) :: st) M := by
  refine q_Re.top ?_
  intro p e R s m args below meth c X hfr hlo H locs cells slots Q lsA hl hI hS kk
  unfold q_aL at h
  split at h
  · rename_i hh
    cases h
    have hat := hI.at (a := a) (by omega)
    rw [q_cell_l hh.1] at hat
    exact va_lald X.1 X.2.1 X.2.2.2.2.2.2.1 hI.1 (a - 1) 2 hat rfl (q_vin hh.2.1 hh.2.2) hd kk
  · cases h
theorem q_r_aald {a : Nat} {i : Int32} {x : Option Nat} (hd : decode bytes pc = .ok (.aaload, 1)) (h : q_aR M a i = some x) : q_Re l G L xs y bytes fr lo pc ls (.inl i :: .inr (.inr (some a)) :: st) M (pc + 1) ls (.inr (.inr x) :: st) M := by
  refine q_Re.top ?_
  intro p e R s m args below meth c X hfr hlo H locs cells slots Q lsA hl hI hS kk
  unfold q_aR at h
  split at h
  · rename_i hh
    cases h
    have hat := hI.at (a := a) (by omega)
    rw [q_cell_r hh.1.1] at hat
    have hty := q_tyq G (M.1 a) (by omega) hh.1.2
    have hrf : (q_aty (M.1 a)).isReference = true := by
      have h1 := hh.1.1
      have h2 := hh.1.2
      generalize M.1 a = g at h1 h2
      rcases (show g = 17 ∨ g = 18 ∨ g = 19 ∨ g = 20 ∨ g = 21 ∨ g = 22 by omega) with rfl | rfl | rfl | rfl | rfl | rfl <;> rfl
    exact W.aald (v := va_rf ((M.2.2.2.2.1 a i.toNatClampNeg).map (q_ad G))) (ty := q_aty (M.1 a)) X.1 X.2.1 (hI.1 (a - 1) _ hat) ((X.2.2.2.2.2.2.1.2 _ _ hty).1 (M.2.1 a) (fun j => va_rf ((M.2.2.2.2.1 a j).map (q_ad G)))) hrf (fun q => by cases q) (by show ¬ (i < 0 ∨ (arrV _ _ _).slots.size ≤ _); rw [arrV_size]; exact q_vin hh.2.1 hh.2.2) (by show (arrV _ _ _).slots[_]? = _; rw [arrV_read _ _ hh.2.2]) rfl rfl hd kk
  · cases h
theorem q_r_alen {a : Nat} {x : Int32} (hd : decode bytes pc = .ok (.arraylength, 1)) (h : q_len M a = some x) : q_Re l G L xs y bytes fr lo pc ls (.inr (.inr (some a)) :: st) M (pc + 1) ls (.inl x :: st) M := by
  refine q_Re.top ?_
  intro p e R s m args below meth c X hfr hlo H locs cells slots Q lsA hl hI hS kk
  unfold q_len at h
  split at h
  · rename_i hh
    cases h
    have hat := hI.at (a := a) hh.2
    have hty := q_tyq G (M.1 a) hh.1 hh.2
    by_cases e1 : M.1 a = 15
    · rw [q_cell_l e1] at hat
      rw [e1] at hty
      exact va_alen X.1 X.2.1 X.2.2.2.2.2.2.1 hI.1 (a - 1) _ hat hty rfl hd kk
    · by_cases e2 : M.1 a < 17
      · rw [q_cell_i hh.1 e1 e2] at hat
        exact va_alen X.1 X.2.1 X.2.2.2.2.2.2.1 hI.1 (a - 1) _ hat hty rfl hd kk
      · rw [q_cell_r (by omega)] at hat
        exact va_alen X.1 X.2.1 X.2.2.2.2.2.2.1 hI.1 (a - 1) _ hat hty rfl hd kk
  · cases h
theorem q_nar1 (x : Int32) : vp_nar .boolean x = x &&& 1 := by
  unfold vp_nar
  simp [narrow]
theorem q_r_iast {t a : Nat} {i x : Int32} (hd : decode bytes pc = .ok (.iastore, 1)) (ht : t = 14) (h : q_bI M t a i x = some M1) : q_Re l G L xs y bytes fr lo pc ls (.inl x :: .inl i :: .inr (.inr (some a)) :: st) M (pc + 1) ls st M1 := by
  subst ht
  unfold q_bI at h
  split at h
  · rename_i hh
    cases h
    refine q_Re.mem rfl rfl ?_
    intro p e R s m args below meth c X hfr hlo H locs cells slots Q lsA hl hI hS kk
    have hat := hI.at (a := a) (by omega)
    rw [q_cell_i (by omega) (by omega) (by omega), hh.1] at hat
    refine va_iast X.1 X.2.1 X.2.2.2.2.2.2.1 hI.1 (q_ws_D G M) hS (a - 1) 1 hat rfl (q_vin hh.2.1 hh.2.2) hd fun H1 locs1 hP1 hD1 hS1 => kk H1 locs1 (hI.set (a := a) (by omega) rfl rfl (fun i hi => q_w2_ne _ _ _ hi) (fun _ _ => rfl) (fun _ _ => rfl) rfl ?_ hP1) hS1
    refine (q_cell_i ?_ ?_ ?_).trans ?_
    · show 13 ≤ M.1 a; omega
    · show M.1 a ≠ 15; omega
    · show M.1 a < 17; omega
    show Sum.inl (G.2.2 (M.1 a), M.2.1 a, Sum.inl (q_w2 M.2.2.1 a i.toNatClampNeg x a)) = _
    rw [q_w2_self, hh.1]
    rfl
  · cases h
theorem q_r_bast {t a : Nat} {i x z : Int32} (hd : decode bytes pc = .ok (.bastore, 1)) (ht : (t = 13 ∧ z = x.toInt8.toInt32) ∨ (t = 16 ∧ z = x &&& 1)) (h : q_bI M t a i z = some M1) : q_Re l G L xs y bytes fr lo pc ls (.inl x :: .inl i :: .inr (.inr (some a)) :: st) M (pc + 1) ls st M1 := by
  unfold q_bI at h
  split at h
  · rename_i hh
    cases h
    refine q_Re.mem rfl rfl ?_
    intro p e R s m args below meth c X hfr hlo H locs cells slots Q lsA hl hI hS kk
    have hat := hI.at (a := a) (by omega)
    rw [q_cell_i (by omega) (by omega) (by omega), hh.1] at hat
    rcases ht with ⟨rfl, rfl⟩ | ⟨rfl, rfl⟩
    · refine va_bast X.1 X.2.1 X.2.2.2.2.2.2.1 hI.1 (q_ws_D G M) hS (a - 1) 0 hat rfl (q_vin hh.2.1 hh.2.2) hd fun H1 locs1 hP1 hD1 hS1 => kk H1 locs1 (hI.set (a := a) (by omega) rfl rfl (fun i hi => q_w2_ne _ _ _ hi) (fun _ _ => rfl) (fun _ _ => rfl) rfl ?_ hP1) hS1
      refine (q_cell_i ?_ ?_ ?_).trans ?_
      · show 13 ≤ M.1 a; omega
      · show M.1 a ≠ 15; omega
      · show M.1 a < 17; omega
      rw [vp_nar_byte]
      show Sum.inl (G.2.2 (M.1 a), M.2.1 a, Sum.inl (q_w2 M.2.2.1 a i.toNatClampNeg _ a)) = _
      rw [q_w2_self, hh.1]
      rfl
    · refine va_zast X.1 X.2.1 X.2.2.2.2.2.2.1 hI.1 (q_ws_D G M) hS (a - 1) 3 hat rfl (q_vin hh.2.1 hh.2.2) hd fun H1 locs1 hP1 hD1 hS1 => kk H1 locs1 (hI.set (a := a) (by omega) rfl rfl (fun i hi => q_w2_ne _ _ _ hi) (fun _ _ => rfl) (fun _ _ => rfl) rfl ?_ hP1) hS1
      refine (q_cell_i ?_ ?_ ?_).trans ?_
      · show 13 ≤ M.1 a; omega
      · show M.1 a ≠ 15; omega
      · show M.1 a < 17; omega
      rw [q_nar1]
      show Sum.inl (G.2.2 (M.1 a), M.2.1 a, Sum.inl (q_w2 M.2.2.1 a i.toNatClampNeg _ a)) = _
      rw [q_w2_self, hh.1]
      rfl
  · cases h
theorem q_r_last {a : Nat} {i : Int32} {x : Int64} (hd : decode bytes pc = .ok (.lastore, 1)) (h : q_bL M a i x = some M1) : q_Re l G L xs y bytes fr lo pc ls (.inr (.inl x) :: .inl i :: .inr (.inr (some a)) :: st) M (pc + 1) ls st M1 := by
  unfold q_bL at h
  split at h
  · rename_i hh
    cases h
    refine q_Re.mem rfl rfl ?_
    intro p e R s m args below meth c X hfr hlo H locs cells slots Q lsA hl hI hS kk
    have hat := hI.at (a := a) (by omega)
    rw [q_cell_l hh.1] at hat
    refine va_last X.1 X.2.1 X.2.2.2.2.2.2.1 hI.1 (q_ws_D G M) hS (a - 1) 2 hat rfl (q_vin hh.2.1 hh.2.2) hd fun H1 locs1 hP1 hD1 hS1 => kk H1 locs1 (hI.set (a := a) (by omega) rfl rfl (fun _ _ => rfl) (fun i hi => q_w2_ne _ _ _ hi) (fun _ _ => rfl) rfl ?_ hP1) hS1
    refine (q_cell_l ?_).trans ?_
    · exact hh.1
    show Sum.inl (G.2.2 15, M.2.1 a, Sum.inr (Sum.inl (q_w2 M.2.2.2.1 a i.toNatClampNeg x a))) = _
    rw [q_w2_self]
    rfl
  · cases h
theorem q_mayN {k : Nat} {r : Nat} {M : q_M} (h1 : 17 ≤ k) (h2 : k ≤ 21) (h : q_may M k (some r) = true) : M.1 r < 13 ∧ ∃ n, q_aty k = .object n ∧ (q_R1 (M.1 r) = n ∨ (n = "CurveShelf$Curve" ∧ (M.1 r = 6 ∨ M.1 r = 9))) := by
  rcases (show k = 17 ∨ k = 18 ∨ k = 19 ∨ k = 20 ∨ k = 21 by omega) with rfl | rfl | rfl | rfl | rfl
  · have h : (Nat.beq (M.1 r) 0 || Nat.beq (M.1 r) 6 || Nat.beq (M.1 r) 9) = true := h
    rw [Bool.or_eq_true, Bool.or_eq_true] at h
    rcases h with (h | h) | h
    · rw [Nat.eq_of_beq_eq_true h]
      exact ⟨by omega, _, rfl, Or.inl rfl⟩
    · rw [Nat.eq_of_beq_eq_true h]
      exact ⟨by omega, _, rfl, Or.inr ⟨rfl, Or.inl rfl⟩⟩
    · rw [Nat.eq_of_beq_eq_true h]
      exact ⟨by omega, _, rfl, Or.inr ⟨rfl, Or.inr rfl⟩⟩
  · have h : Nat.beq (M.1 r) 2 = true := h
    rw [Nat.eq_of_beq_eq_true h]
    exact ⟨by omega, _, rfl, Or.inl rfl⟩
  · have h : Nat.beq (M.1 r) 3 = true := h
    rw [Nat.eq_of_beq_eq_true h]
    exact ⟨by omega, _, rfl, Or.inl rfl⟩
  · have h : Nat.beq (M.1 r) 5 = true := h
    rw [Nat.eq_of_beq_eq_true h]
    exact ⟨by omega, _, rfl, Or.inl rfl⟩
  · have h : Nat.beq (M.1 r) 8 = true := h
    rw [Nat.eq_of_beq_eq_true h]
    exact ⟨by omega, _, rfl, Or.inl rfl⟩
theorem q_r_aast (hc6 : Cond.castable RX6 "CurveShelf$Curve" ∈ q_wt) (hc9 : Cond.castable RX9 "CurveShelf$Curve" ∈ q_wt) {a : Nat} {i : Int32} {x : Option Nat} (hd : decode bytes pc = .ok (.aastore, 1)) (h : q_bR M a i x = some M1) : q_Re l G L xs y bytes fr lo pc ls (.inr (.inr x) :: .inl i :: .inr (.inr (some a)) :: st) M (pc + 1) ls st M1 := by
  unfold q_bR at h
  split at h
  · rename_i hh
    cases h
    refine q_Re.mem rfl rfl ?_
    intro p e R s m args below meth c X hfr hlo H locs cells slots Q lsA hl hI hS kk
    obtain ⟨⟨h1, h2, h3⟩, h4, h5⟩ := hh
    have hat := hI.at (a := a) (by omega)
    rw [q_cell_r h1] at hat
    have hty := q_tyq G (M.1 a) (by omega) (by omega)
    have hE : q_cell G (M.1, M.2.1, M.2.2.1, M.2.2.2.1, q_w2 M.2.2.2.2.1 a i.toNatClampNeg x, M.2.2.2.2.2) a = .inl (G.2.2 (M.1 a), M.2.1 a, .inr (.inr (.inr (.inr (va_up (fun k => (M.2.2.2.2.1 a k).map (q_ad G)) i.toNatClampNeg (x.map (q_ad G))))))) := by
      refine (q_cell_r ?_).trans ?_
      · exact h1
      show Sum.inl (G.2.2 (M.1 a), M.2.1 a, Sum.inr (Sum.inr (Sum.inr (Sum.inr fun k => (q_w2 M.2.2.2.2.1 a i.toNatClampNeg x a k).map (q_ad G))))) = _
      rw [q_w2_self, q_map_up]
    have fin : ∀ (H1 : Heap) (locs1 : List Loc), va_P G.2.1 q_cl ((q_ws G M).set (a - 1) (q_ad G a, .inl (G.2.2 (M.1 a), M.2.1 a, .inr (.inr (.inr (.inr (va_up (fun k => (M.2.2.2.2.1 a k).map (q_ad G)) i.toNatClampNeg (x.map (q_ad G))))))))) H1 → va_D (q_A G) ((q_ws G M).set (a - 1) (q_ad G a, .inl (G.2.2 (M.1 a), M.2.1 a, .inr (.inr (.inr (.inr (va_up (fun k => (M.2.2.2.2.1 a k).map (q_ad G)) i.toNatClampNeg (x.map (q_ad G))))))))) → va_S (q_A G) s.heap H1 locs1 → W p l e R s m args below meth c H1 locs1 cells slots Q (F0 m (pc + 1) lsA (st.map (q_vv G))) :=
      fun H1 locs1 hP1 hD1 hS1 => kk H1 locs1 (hI.set (a := a) (by omega) rfl rfl (fun _ _ => rfl) (fun _ _ => rfl) (fun i hi => q_w2_ne _ _ _ hi) rfl hE hP1) hS1
    cases x with
    | none =>
      obtain ⟨n, hn⟩ : ∃ n, q_aty (M.1 a) = .object n := by
        generalize M.1 a = g at h1 h2
        rcases (show g = 17 ∨ g = 18 ∨ g = 19 ∨ g = 20 ∨ g = 21 by omega) with rfl | rfl | rfl | rfl | rfl <;> exact ⟨_, rfl⟩
      rw [hn] at hty
      exact va_astqN X.1 X.2.1 X.2.2.2.2.2.2.1 hI.1 (q_ws_D G M) hS (a - 1) _ hat hty (q_vin h4 h5) hd fin
    | some r =>
      obtain ⟨g1, n, g2, g3⟩ := q_mayN h1 h2 h3
      have hr := hI.at (a := r) (by omega)
      rw [q_cell_o g1] at hr
      rw [g2] at hty
      rcases g3 with g3 | ⟨rfl, g3⟩
      · exact va_astq (r := (q_R1 (M.1 r), q_T1 (M.1 r), q_nf (M.1 r))) X.1 X.2.1 X.2.2.2.2.2.2.1 hI.1 (q_ws_D G M) hS (a - 1) _ (r - 1) (M.1 r) hat (by rw [show (q_R1 (M.1 r), q_T1 (M.1 r), q_nf (M.1 r)).1 = n from g3]; exact hty) hr (q_clt _ g1) (q_vin h4 h5) hd fin
      · refine va_astqO (r := (q_R1 (M.1 r), q_T1 (M.1 r), q_nf (M.1 r))) X.1 X.2.1 X.2.2.2.2.2.2.1 hI.1 (q_ws_D G M) hS (a - 1) _ (r - 1) (M.1 r) hat hty ?_ hr (q_clt _ g1) (q_vin h4 h5) hd fin
        rcases g3 with g3 | g3 <;> rw [g3]
        · exact X.2.2.2.2.1 _ hc6
        · exact X.2.2.2.2.1 _ hc9
  · cases h
end QM
