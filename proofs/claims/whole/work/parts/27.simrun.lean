/-! ===== RUNS ===== -/
section QV
variable {l : Launch} {G : q_G} {L : Nat} {xs : Nat → Int32} {C : q_C}
theorem q_Re.rf {y : MethodName} {bytes : ByteArray} {fr lo pc : Nat} {ls : q_L} {st : List q_V} {M : q_M} : q_Re l G L xs y bytes fr lo pc ls st M pc ls st M :=
  q_Re.top fun _ _ _ _ _ _ _ _ _ _ _ _ _ _ _ _ _ _ _ _ _ k => k
theorem q_Re.tr {y : MethodName} {bytes : ByteArray} {fr lo pc pc1 pc2 : Nat} {ls ls1 ls2 : q_L} {st st1 st2 : List q_V} {M M1 M2 : q_M} (h : q_Re l G L xs y bytes fr lo pc ls st M pc1 ls1 st1 M1) (g : q_Re l G L xs y bytes fr lo pc1 ls1 st1 M1 pc2 ls2 st2 M2) (hl : ls1.length = ls.length) (h1 : q_leM M M1) (h2 : q_leM M1 M2) : q_Re l G L xs y bytes fr lo pc ls st M pc2 ls2 st2 M2 := by
  intro p e R s m args below meth c X hfr hlo H locs cells slots Q lsA hL hI hS hz c1 c2 k
  obtain ⟨a1, a2⟩ := h1
  obtain ⟨b1, b2⟩ := h2
  have hm := hI.2.1.1
  refine h p e R s m args below meth c X hfr hlo H locs cells slots Q lsA hL hI hS hz (by omega) (by omega) fun H1 locs1 lsA1 hL1 hI1 hS1 => ?_
  refine g p e R s m args below meth c (by rw [hl]; exact X) hfr hlo H1 locs1 _ _ Q lsA1 hL1 hI1 hS1 (by omega) (by omega) (by omega) fun H2 locs2 lsA2 hL2 hI2 hS2 => ?_
  refine W.cs (show _ = cells + (M2.2.2.2.2.2.1 - M.2.2.2.2.2.1) by omega) (show _ = slots + (M2.2.2.2.2.2.2 - M.2.2.2.2.2.2) by omega) ?_
  exact k H2 locs2 lsA2 hL2 hI2 hS2
/-- to a method's end -/
def q_Rf (l : Launch) (G : q_G) (L : Nat) (xs : Nat → Int32) (y : MethodName) (bytes : ByteArray) (fr lo k : Nat) (pc : Nat) (ls : q_L) (st : List q_V) (M : q_M) (r : Option q_V) (M1 : q_M) : Prop := q_leM M M1 ∧ ∃ pc1 ls1 st1 i, decode bytes pc1 = .ok (i, 1) ∧ q_rts k i st1 r ∧ q_Re l G L xs y bytes fr lo pc ls st M pc1 ls1 st1 M1
theorem q_at_mem : ∀ {cd : List q_I} {pc : Nat} {q : Instr × Nat × Nat}, q_at cd pc = some q → (pc, q) ∈ cd
  | [], _, _, h => by cases h
  | e :: r, pc, q, h => by
    unfold q_at at h
    split at h
    · rename_i he
      cases h
      have := Nat.eq_of_beq_eq_true he
      subst this
      exact List.mem_cons_self
    · exact List.mem_cons_of_mem _ (q_at_mem h)
theorem q_sim_run (hT : q_Tb) (hC : q_SC l G L xs C) (hmu : q_Mu l G L xs) {T : q_T} {d : MethodName × ByteArray × Nat × Option FieldType} (hm : q_mOK T d) : ∀ (n pc : Nat) (ls : q_L) (st : List q_V) (M : q_M) (o : q_O), ls.length = d.2.2.1 → q_run q_ct q_sw q_nf C T n pc ls st M = some o →
    (∃ r M1, o = .inr (r, M1) ∧ q_Rf l G L xs d.1 d.2.1 T.2.2.2.2.2.1 T.2.2.2.2.2.2 T.2.2.2.2.1 pc ls st M r M1) ∨ ∃ pc1 ls1 st1 M1, o = .inl (pc1, ls1, st1, M1) ∧ ls1.length = ls.length ∧ q_leM M M1 ∧ q_Re l G L xs d.1 d.2.1 T.2.2.2.2.2.1 T.2.2.2.2.2.2 pc ls st M pc1 ls1 st1 M1
  | 0, _, _, _, _, _, _, h => by cases h
  | n + 1, pc, ls, st, M, o, hl, h => by
    unfold q_run at h
    split at h
    · cases h
    · rename_i i len aux he
      obtain ⟨h1, h2⟩ := hm.2.2.2.2 _ (q_at_mem he)
      simp only at h1 h2
      rcases q_sim_st hT hC hmu hm.1 h1 h2 hl h with ⟨r, g1, g2, g3⟩ | ⟨pc1, ls1, st1, M1, g1, g2, g3, g4⟩
      · subst g2
        exact Or.inl ⟨r, M, g1, q_leM.rf, pc, ls, st, i, h1, g3, q_Re.rf⟩
      · split at g1
        · cases g1
          exact Or.inr ⟨pc1, ls1, st1, M1, rfl, g2, g3, g4⟩
        · rcases q_sim_run hT hC hmu hm n pc1 ls1 st1 M1 o (g2.trans hl) g1 with ⟨r, M2, k1, k2, pc2, ls2, st2, i2, k3, k4, k5⟩ | ⟨pc2, ls2, st2, M2, k1, k2, k3, k4⟩
          · exact Or.inl ⟨r, M2, k1, g3.tr k2, pc2, ls2, st2, i2, k3, k4, g4.tr k5 g2 g3 k2⟩
          · exact Or.inr ⟨pc2, ls2, st2, M2, k1, k2.trans g2, g3.tr k3, g4.tr k4 g2 g3 k3⟩
theorem q_sim_rc (hT : q_Tb) (hC : q_SC l G L xs C) (hmu : q_Mu l G L xs) {T : q_T} {d : MethodName × ByteArray × Nat × Option FieldType} (hm : q_mOK T d) : ∀ (n : Nat) (f : q_F) (r : Option q_V) (M1 : q_M), f.2.1.length = d.2.2.1 → q_rc q_ct q_sw q_nf C T n f = some (r, M1) → q_Rf l G L xs d.1 d.2.1 T.2.2.2.2.2.1 T.2.2.2.2.2.2 T.2.2.2.2.1 f.1 f.2.1 f.2.2.1 f.2.2.2 r M1
  | 0, _, _, _, _, h => by cases h
  | n + 1, f, r, M1, hl, h => by
    unfold q_rc at h
    obtain ⟨o, h1, h2⟩ := Option.bind_eq_some_iff.mp h
    rcases q_sim_run hT hC hmu hm 300 f.1 f.2.1 f.2.2.1 f.2.2.2 o hl h1 with ⟨r1, M2, rfl, g⟩ | ⟨pc1, ls1, st1, M2, rfl, g1, g2, g3⟩
    · cases h2
      exact g
    · obtain ⟨k1, pc2, ls2, st2, i2, k2, k3, k4⟩ := q_sim_rc hT hC hmu hm n (pc1, ls1, st1, M2) r M1 (g1.trans hl) h2
      exact ⟨g2.tr k1, pc2, ls2, st2, i2, k2, k3, g3.tr k4 g1 g2 k1⟩
/-! entry -/
theorem q_pad_len : ∀ (n : Nat) (ls : q_L), (q_pad n ls).length = n
  | 0, _ => rfl
  | n + 1, [] => by simp [q_pad, q_pad_len n []]
  | n + 1, v :: r => by simp [q_pad, q_pad_len n r]
theorem q_pad_at : ∀ {n : Nat} {ls : q_L} {j : Nat} {v : q_V}, q_nth (q_pad n ls) j = some v → q_nth ls j = some v
  | 0, _, _, _, h => by cases h
  | n + 1, [], 0, _, h => by cases h
  | n + 1, [], j + 1, v, h => by
    have := q_pad_at (n := n) (ls := []) (j := j) h
    cases this
  | n + 1, a :: r, 0, v, h => h
  | n + 1, a :: r, j + 1, v, h => q_pad_at (n := n) (ls := r) (j := j) h
theorem q_lay_at (G : q_G) : ∀ {as : List q_V} {i j : Nat} {v : q_V}, q_nth (q_lay as) j = some v → (i + j, q_vv G v) ∈ lv_args i (as.map (q_vv G))
  | [], _, _, _, h => by cases h
  | .inl x :: r, i, 0, v, h => by
    cases h
    exact List.mem_cons_self
  | .inl x :: r, i, j + 1, v, h => by
    have := q_lay_at G (as := r) (i := i + 1) (j := j) h
    refine List.mem_cons_of_mem _ ?_
    rw [if_neg (by simp [q_vv, Value.category]), show i + (j + 1) = i + 1 + j by omega]
    exact this
  | .inr (.inr x) :: r, i, 0, v, h => by
    cases h
    exact List.mem_cons_self
  | .inr (.inr x) :: r, i, j + 1, v, h => by
    have := q_lay_at G (as := r) (i := i + 1) (j := j) h
    refine List.mem_cons_of_mem _ ?_
    rw [if_neg (by cases x <;> simp [q_vv, va_rf, Value.category]), show i + (j + 1) = i + 1 + j by omega]
    exact this
  | .inr (.inl x) :: r, i, 0, v, h => by
    cases h
    exact List.mem_cons_self
  | .inr (.inl x) :: r, i, 1, v, h => by cases h
  | .inr (.inl x) :: r, i, j + 2, v, h => by
    have := q_lay_at G (as := r) (i := i + 2) (j := j) h
    refine List.mem_cons_of_mem _ ?_
    rw [if_pos (by simp [q_vv, Value.category]), show i + (j + 2) = i + 2 + j by omega]
    exact this
theorem q_lay_len (G : q_G) : ∀ (as : List q_V), (lg_sl (as.map (q_vv G))).length = (q_lay as).length
  | [] => rfl
  | .inl x :: r => by
    have := q_lay_len G r
    simp only [lg_sl, List.map_cons, List.flatMap_cons, List.length_append, q_lay, List.length_cons] at this ⊢
    rw [this, if_neg (by simp [q_vv, Value.category])]
    simp only [List.length_cons, List.length_nil]
    omega
  | .inr (.inr x) :: r => by
    have := q_lay_len G r
    simp only [lg_sl, List.map_cons, List.flatMap_cons, List.length_append, q_lay, List.length_cons] at this ⊢
    rw [this, if_neg (by cases x <;> simp [q_vv, va_rf, Value.category])]
    simp only [List.length_cons, List.length_nil]
    omega
  | .inr (.inl x) :: r => by
    have := q_lay_len G r
    simp only [lg_sl, List.map_cons, List.flatMap_cons, List.length_append, q_lay, List.length_cons] at this ⊢
    rw [this, if_pos (by simp [q_vv, Value.category])]
    simp only [List.length_cons, List.length_nil]
    omega
theorem q_entry (G : q_G) {as : List q_V} {n : Nat} (h : (q_lay as).length ≤ n) (m : MethodId) : ∃ lsA, entryFrame m (as.map (q_vv G)).toArray n = F0 m 0 lsA [] ∧ q_Lr G lsA (q_pad n (q_lay as)) := by
  refine ⟨_, lg_entry_eq m _ n, ?_⟩
  have hl := lv_entry (as.map (q_vv G)) (n := n) (by rw [q_lay_len]; exact h)
  unfold q_Lr
  rw [q_pad_len]
  refine ⟨hl.1, hl.2.1, fun q hq => hl.2.2 q ?_⟩
  obtain ⟨v, h1, h2⟩ := q_ll_mem.mp hq
  have h3 := q_lay_at G (i := 0) (q_pad_at h1)
  rw [Nat.zero_add, ← h2] at h3
  exact h3
theorem q_ent_some {T : q_T} {as : List q_V} {M : q_M} {f : q_F} (h : q_ent T as M = some f) : (q_lay as).length ≤ T.2.2.2.1 ∧ f = (0, q_pad T.2.2.2.1 (q_lay as), [], M) := by
  unfold q_ent at h
  split at h
  · rename_i hb
    cases h
    exact ⟨Nat.le_of_ble_eq_true hb, rfl⟩
  · cases h
theorem q_sim_cn (hT : q_Tb) (hmu : q_Mu l G L xs) (hM : ∀ y T d, q_get q_mt y = some T → q_get q_md y = some d → q_mOK T d) (hmd : ∀ y T, q_get q_mt y = some T → ∃ d, q_get q_md y = some d) : ∀ n, q_SC l G L xs (q_cn q_mt q_ct q_sw q_nf n)
  | 0 => fun _ _ _ _ _ h => by cases h
  | n + 1 => by
    intro y as M r M1 h
    have h : ((q_get q_mt y).bind fun T => (q_ent T as M).bind fun f => q_rc q_ct q_sw q_nf (q_cn q_mt q_ct q_sw q_nf n) T n f) = some (r, M1) := h
    obtain ⟨T, h1, h2⟩ := Option.bind_eq_some_iff.mp h
    obtain ⟨f, h3, h4⟩ := Option.bind_eq_some_iff.mp h2
    obtain ⟨h5, rfl⟩ := q_ent_some h3
    have hC := q_sim_cn hT hmu hM hmd n
    obtain ⟨d0, hd0⟩ := hmd y T h1
    refine ⟨(q_sim_rc hT hC hmu (hM y T d0 h1 hd0) n _ r M1 (by rw [q_pad_len]; exact (hM y T d0 h1 hd0).2.1) h4).1, ?_⟩
    intro T' d e1 e2
    cases h1.symm.trans e1
    have hm := hM y T d h1 e2
    obtain ⟨k1, pc1, ls1, st1, i, k2, k3, k4⟩ := q_sim_rc hT hC hmu hm n _ r M1 (by rw [q_pad_len]; exact hm.2.1) h4
    refine Met.ofW (cc := d.2.1) (maxL := d.2.2.1) (ret := d.2.2.2) hm.2.2.2.1 rfl ?_
    intro p e s m args below meth c s₁ B hml hv
    obtain ⟨rfl, hI, hK, hX, hb, hsz, hbw⟩ := hv
    have hx := B.exec
    have hbt := B.bytes
    have hr := B.returns
    have hts := atoms_spec (ws := q_wsy d.1 d.2.1 d.2.2.1 d.2.2.2) B.pre
    have hown : s.vm.findClass d.1.cls = some m.cls := findClass_of_methodNamed B.named
    have hlocks := B.notSynchronized
    have hnm : meth.name = d.1.name := (name_of_methodNamed B.named B.method).1
    have h0 := hI.2.1.1
    obtain ⟨lsA, hen, hlr⟩ := q_entry G (as := as) (n := d.2.2.1) (by rw [← hm.2.1]; exact h5) m
    rw [hen]
    have X : q_Cx G L xs d.1 d.2.1 (q_pad T.2.2.2.1 (q_lay as)).length p s m (as.map (q_vv G)).toArray meth c := ⟨hx, hbt, by rw [q_pad_len, hm.2.1]; exact hml, hown, fun w hw => (by
      by_cases hg : goodWord w = true
      · exact hts w (List.mem_cons_of_mem _ (List.mem_filter.mpr ⟨hw, hg⟩))
      · have hb2 : q_bad w = true := by
          have := (List.mem_filter.mp hw).2
          rw [Bool.or_eq_true] at this
          exact this.resolve_left hg
        exact q_bad_warm hb2 (State.WarmedH.refl s) (hbw w hw hb2)), fun e => hnm.trans e, hK, hX, by omega, hb, by omega⟩
    have hlr2 : q_Lr G lsA (q_pad T.2.2.2.1 (q_lay as)) := by rw [hm.2.1]; exact hlr
    refine k4 p e _ s m _ below meth c X (Nat.le_refl _) (Nat.le_refl _) s.heap [] 0 0 _ lsA hlr2 hI va_S.rf (by omega) (show 0 + (M1.2.2.2.2.2.1 - M.2.2.2.2.2.1) ≤ M1.2.2.2.2.2.1 - M.2.2.2.2.2.1 by omega) (show 0 + (M1.2.2.2.2.2.2 - M.2.2.2.2.2.2) ≤ M1.2.2.2.2.2.2 - M.2.2.2.2.2.2 by omega) fun H1 locs1 lsA1 hL1 hI1 hS1 => ?_
    refine W.cs (Nat.zero_add _) (Nat.zero_add _) ?_
    have hrk := hm.2.2.1
    have hq : ∀ (v : Option Value) (t : State), v = r.map (q_vv G) → t.heap = H1 → s.WarmedH t.vm → q_Qc G L xs r M1 (as.map (q_vv G)).toArray s (.returned v) t := fun v t hv ht _ => ⟨by rw [hv], by rw [ht]; exact hI1, hS1.F ht⟩
    rcases k3 with ⟨e1, rfl, rfl, rfl⟩ | ⟨x, e1, rfl, rfl, rfl⟩ | ⟨x, e1, rfl, rfl, rfl⟩ | ⟨x, e1, rfl, rfl, rfl⟩
    · rw [e1] at hrk
      exact W.vret hx hbt (hr.trans hrk) (fun t ht hw => hq _ t rfl ht hw) hS1.2.2 k2
    · rcases e1 with e1 | ⟨e1, hx01⟩
      · rw [e1] at hrk
        exact W.iret hx hbt (hr.trans hrk) (fun t ht hw => hq _ t rfl ht hw) hS1.2.2 k2
      · rw [e1] at hrk
        exact W.zret hx hbt (hr.trans hrk) (by rcases hx01 with rfl | rfl <;> rfl) (fun t ht hw => hq _ t rfl ht hw) hS1.2.2 k2
    · rw [e1] at hrk
      exact W.lret hx hbt (hr.trans hrk) (fun t ht hw => hq _ t rfl ht hw) hS1.2.2 k2
    · rw [e1] at hrk
      obtain ⟨rt, g1, g2⟩ := hrk
      exact W.aret hx hbt (hr.trans g1) g2 (by cases x; exact Or.inl rfl; exact Or.inr ⟨_, rfl⟩) (fun t ht hw => hq _ t rfl ht hw) hS1.2.2 k2
end QV
