/-! ===== THE LIMIT: calls without a count of steps ===== -/
def q_le {β : Type} (a b : Option β) : Prop := ∀ r, a = some r → b = some r
def q_leC (C C' : q_C) : Prop := ∀ y as M r, C y as M = some r → C' y as M = some r
def q_chain (Cn : Nat → q_C) (CC : q_C) : Prop := (∀ n, q_leC (Cn n) (Cn (n + 1))) ∧ ∀ y as M r, CC y as M = some r → ∃ n, Cn n y as M = some r
def q_cts {β : Type} (F : q_C → Option β) : Prop := (∀ C C', q_leC C C' → q_le (F C) (F C')) ∧ ∀ Cn CC, q_chain Cn CC → ∀ r, F CC = some r → ∃ n, F (Cn n) = some r
theorem q_chain.up {Cn : Nat → q_C} {CC : q_C} (h : q_chain Cn CC) : ∀ {n m : Nat}, n ≤ m → q_leC (Cn n) (Cn m) := by
  intro n m hm
  induction hm with
  | refl => exact fun _ _ _ _ h => h
  | step _ ih => exact fun y as M r hr => h.1 _ y as M r (ih y as M r hr)
theorem q_cts.const {β : Type} (o : Option β) : q_cts (fun _ => o) := ⟨fun _ _ _ _ h => h, fun _ _ _ r h => ⟨0, h⟩⟩
theorem q_cts.bind {β γ : Type} {A : q_C → Option γ} {G : q_C → γ → Option β} (hA : q_cts A) (hG : ∀ x, q_cts (fun C => G C x)) : q_cts (fun C => (A C).bind (G C)) := by
  refine ⟨fun C C' hC r h => ?_, fun Cn CC hc r h => ?_⟩
  · obtain ⟨x, h1, h2⟩ := Option.bind_eq_some_iff.mp h
    exact Option.bind_eq_some_iff.mpr ⟨x, hA.1 C C' hC x h1, (hG x).1 C C' hC r h2⟩
  · obtain ⟨x, h1, h2⟩ := Option.bind_eq_some_iff.mp h
    obtain ⟨n1, g1⟩ := hA.2 Cn CC hc x h1
    obtain ⟨n2, g2⟩ := (hG x).2 Cn CC hc r h2
    refine ⟨max n1 n2, Option.bind_eq_some_iff.mpr ⟨x, hA.1 _ _ (hc.up (Nat.le_max_left n1 n2)) x g1, (hG x).1 _ _ (hc.up (Nat.le_max_right n1 n2)) r g2⟩⟩
theorem q_cts.call {β : Type} (f : Option q_R → Option β) (hf : ∀ o q, f o = some q → ∃ r, o = some r ∧ f (some r) = some q) (y : Nat) (as : List q_V) (M : q_M) : q_cts (fun C => f (C y as M)) := by
  refine ⟨fun C C' hC r h => ?_, fun Cn CC hc r h => ?_⟩
  · obtain ⟨x, h1, h2⟩ := hf _ _ h
    show f (C' y as M) = some r
    rw [hC y as M x h1]
    exact h2
  · obtain ⟨x, h1, h2⟩ := hf _ _ h
    obtain ⟨n, hn⟩ := hc.2 y as M x h1
    exact ⟨n, by show f (Cn n y as M) = some r; rw [hn]; exact h2⟩
theorem q_cts.ite {β : Type} {c : Prop} {i : Decidable c} {A B : q_C → Option β} (hA : q_cts A) (hB : q_cts B) : q_cts (fun C => if c then A C else B C) := by
  by_cases h : c
  · simp only [if_pos h]; exact hA
  · simp only [if_neg h]; exact hB
theorem q_cts.pI {st : List q_V} {F : q_C → Int32 → List q_V → Option q_O} (h : ∀ x s, q_cts (fun C => F C x s)) : q_cts (fun C => q_pI st (F C)) := by
  unfold q_pI
  split
  · exact h _ _
  · exact q_cts.const _
theorem q_cts.pL {st : List q_V} {F : q_C → Int64 → List q_V → Option q_O} (h : ∀ x s, q_cts (fun C => F C x s)) : q_cts (fun C => q_pL st (F C)) := by
  unfold q_pL
  split
  · exact h _ _
  · exact q_cts.const _
theorem q_cts.pR {st : List q_V} {F : q_C → Option Nat → List q_V → Option q_O} (h : ∀ x s, q_cts (fun C => F C x s)) : q_cts (fun C => q_pR st (F C)) := by
  unfold q_pR
  split
  · exact h _ _
  · exact q_cts.const _
theorem q_cts.gI {ls : q_L} {i : Nat} {F : q_C → Int32 → Option q_O} (h : ∀ x, q_cts (fun C => F C x)) : q_cts (fun C => q_gI ls i (F C)) := by
  unfold q_gI
  split
  · exact h _
  · exact q_cts.const _
theorem q_cts.gL {ls : q_L} {i : Nat} {F : q_C → Int64 → Option q_O} (h : ∀ x, q_cts (fun C => F C x)) : q_cts (fun C => q_gL ls i (F C)) := by
  unfold q_gL
  split
  · exact h _
  · exact q_cts.const _
theorem q_cts.gR {ls : q_L} {i : Nat} {F : q_C → Option Nat → Option q_O} (h : ∀ x, q_cts (fun C => F C x)) : q_cts (fun C => q_gR ls i (F C)) := by
  unfold q_gR
  split
  · exact h _
  · exact q_cts.const _
theorem q_cts.args {F : q_C → List q_V → List q_V → Option q_O} (h : ∀ x s, q_cts (fun C => F C x s)) : ∀ (n : Nat) (st acc : List q_V), q_cts (fun C => q_args n st acc (F C))
  | 0, _, _ => h _ _
  | _ + 1, [], _ => q_cts.const _
  | n + 1, v :: st, acc => q_cts.args h n st (v :: acc)
theorem q_cts.bin {st : List q_V} {f : Int32 → Int32 → Int32} {F : q_C → List q_V → Option q_O} (h : ∀ s, q_cts (fun C => F C s)) : q_cts (fun C => q_bin st f (F C)) := by
  unfold q_bin
  exact q_cts.pI fun _ _ => q_cts.pI fun _ _ => h _
theorem q_cts.binL {st : List q_V} {f : Int64 → Int64 → Int64} {F : q_C → List q_V → Option q_O} (h : ∀ s, q_cts (fun C => F C s)) : q_cts (fun C => q_binL st f (F C)) := by
  unfold q_binL
  exact q_cts.pL fun _ _ => q_cts.pL fun _ _ => h _
theorem q_cts.ic {c : ClassFile.Cond} {x y : Int32} {A B : q_C → Option q_O} (hA : q_cts A) (hB : q_cts B) : q_cts (fun C => q_ic c x y (A C) (B C)) := by
  unfold q_ic
  split <;> first | exact q_cts.ite hA hB | exact q_cts.ite hB hA
theorem q_cts.swt {x : Int32} {d : Nat} {F : q_C → Nat → Option q_O} (h : ∀ t, q_cts (fun C => F C t)) : ∀ (ts : List Nat) (j : Nat), q_cts (fun C => q_swt x d (F C) j ts)
  | [], _ => h _
  | _ :: ts, j => q_cts.ite (h _) (q_cts.swt h ts (j + 1))
theorem q_cts.res {rt y : Nat} {as : List q_V} {M : q_M} {pc : Nat} {ls : q_L} {rest : List q_V} {K : q_C → q_K} (h : ∀ pc ls st M, q_cts (fun C => K C pc ls st M)) : q_cts (fun C => q_res rt (C y as M) pc ls rest (K C)) := by
  unfold q_res
  split
  · exact q_cts.bind (q_cts.call q_rV (fun o q h => by unfold q_rV at h; split at h <;> first | exact ⟨_, rfl, h⟩ | cases h) y as M) fun _ => h _ _ _ _
  · exact q_cts.bind (q_cts.call q_rI (fun o q h => by unfold q_rI at h; split at h <;> first | exact ⟨_, rfl, h⟩ | cases h) y as M) fun _ => h _ _ _ _
  · exact q_cts.bind (q_cts.call q_rL (fun o q h => by unfold q_rL at h; split at h <;> first | exact ⟨_, rfl, h⟩ | cases h) y as M) fun _ => h _ _ _ _
  · exact q_cts.bind (q_cts.call q_rR (fun o q h => by unfold q_rR at h; split at h <;> first | exact ⟨_, rfl, h⟩ | cases h) y as M) fun _ => h _ _ _ _
theorem q_cts.callc {ct : List q_E} {T : q_T} {aux pc : Nat} {ls : q_L} {st : List q_V} {M : q_M} {K : q_C → q_K} (h : ∀ pc ls st M, q_cts (fun C => K C pc ls st M)) : q_cts (fun C => q_call ct C T aux pc ls st M (K C)) := by
  unfold q_call
  split
  · exact q_cts.const _
  · refine q_cts.args (fun as rest => ?_) _ _ _
    split
    · split
      · split
        · exact q_cts.res h
        · exact q_cts.const _
      · exact q_cts.const _
    · refine q_cts.pR fun r rest => q_cts.bind (q_cts.const _) fun a => ?_
      split
      · exact q_cts.bind (q_cts.const _) fun y => q_cts.res h
      · exact q_cts.const _
    · refine q_cts.pR fun r rest => q_cts.bind (q_cts.const _) fun a => ?_
      split
      · split
        · exact q_cts.res h
        · exact q_cts.const _
      · exact q_cts.const _
    · refine q_cts.pR fun r rest => q_cts.bind (q_cts.const _) fun a => ?_
      split
      · exact h _ _ _ _
      · exact q_cts.const _
    · split
      · split
        · exact q_cts.bind (q_cts.const _) fun a => q_cts.bind (q_cts.const _) fun b => q_cts.bind (q_cts.const _) fun M => h _ _ _ _
        · exact q_cts.const _
      · exact q_cts.const _
    · split
      · split
        · exact h _ _ _ _
        · exact q_cts.const _
      · exact q_cts.const _
    · split
      · split
        · exact h _ _ _ _
        · exact q_cts.const _
      · exact q_cts.const _
    · split
      · split
        · exact h _ _ _ _
        · exact q_cts.const _
      · exact q_cts.const _
    · split
      · split
        · exact h _ _ _ _
        · exact q_cts.const _
      · exact q_cts.const _
    · exact q_cts.const _
theorem q_cts.fld {aux pc : Nat} {ls : q_L} {st : List q_V} {M : q_M} {K : q_C → q_K} (h : ∀ pc ls st M, q_cts (fun C => K C pc ls st M)) : q_cts (fun C => q_fld aux pc ls st M (K C)) := by
  unfold q_fld
  refine q_cts.pR fun r rest => q_cts.bind (q_cts.const _) fun a => ?_
  split <;> exact q_cts.bind (q_cts.const _) fun _ => h _ _ _ _
theorem q_cts.put {aux pc : Nat} {ls : q_L} {st : List q_V} {M : q_M} {K : q_C → q_K} (h : ∀ pc ls st M, q_cts (fun C => K C pc ls st M)) : q_cts (fun C => q_put aux pc ls st M (K C)) := by
  unfold q_put
  split
  · exact q_cts.pI fun _ _ => q_cts.pR fun r rest => q_cts.bind (q_cts.const _) fun a => q_cts.bind (q_cts.const _) fun _ => h _ _ _ _
  · exact q_cts.pL fun _ _ => q_cts.pR fun r rest => q_cts.bind (q_cts.const _) fun a => q_cts.bind (q_cts.const _) fun _ => h _ _ _ _
  · exact q_cts.pR fun _ _ => q_cts.pR fun r rest => q_cts.bind (q_cts.const _) fun a => q_cts.bind (q_cts.const _) fun _ => h _ _ _ _
set_option maxHeartbeats 4000000 in
theorem q_cts.stp {ct : List q_E} {sw : List (Nat × Nat × List Nat)} {nf : Nat → Nat} {T : q_T} {i : Instr} {len aux pc : Nat} {ls : q_L} {st : List q_V} {M : q_M} {K : q_C → q_K} (h : ∀ pc ls st M, q_cts (fun C => K C pc ls st M)) : q_cts (fun C => q_st ct sw nf C T i len aux pc ls st M (K C)) := by
  unfold q_st
  split <;> first
    | exact q_cts.const _
    | exact h _ _ _ _
    | exact q_cts.gR fun _ => h _ _ _ _
    | exact q_cts.gI fun _ => h _ _ _ _
    | exact q_cts.gL fun _ => h _ _ _ _
    | exact q_cts.pR fun _ _ => h _ _ _ _
    | exact q_cts.pI fun _ _ => h _ _ _ _
    | exact q_cts.pL fun _ _ => h _ _ _ _
    | exact q_cts.bin fun _ => h _ _ _ _
    | exact q_cts.binL fun _ => h _ _ _ _
    | exact q_cts.pI fun _ _ => q_cts.pI fun _ _ => q_cts.ite (q_cts.const _) (h _ _ _ _)
    | exact q_cts.pL fun _ _ => q_cts.pL fun _ _ => q_cts.ite (q_cts.const _) (h _ _ _ _)
    | exact q_cts.pI fun _ _ => q_cts.pL fun _ _ => h _ _ _ _
    | exact q_cts.pL fun _ _ => q_cts.pL fun _ _ => h _ _ _ _
    | exact q_cts.pI fun _ _ => q_cts.ic (h _ _ _ _) (h _ _ _ _)
    | exact q_cts.pI fun _ _ => q_cts.pI fun _ _ => q_cts.ic (h _ _ _ _) (h _ _ _ _)
    | exact q_cts.pR fun _ _ => q_cts.ite (h _ _ _ _) (h _ _ _ _)
    | exact q_cts.fld h
    | exact q_cts.put h
    | exact q_cts.callc h
    | exact q_cts.bind (q_cts.const _) fun _ => h _ _ _ _
    | exact q_cts.pI fun _ _ => q_cts.bind (q_cts.const _) fun _ => h _ _ _ _
    | exact q_cts.pI fun _ _ => q_cts.pI fun _ _ => q_cts.bind (q_cts.const _) fun _ => h _ _ _ _
    | exact q_cts.pR fun _ _ => q_cts.bind (q_cts.const _) fun _ => q_cts.bind (q_cts.const _) fun _ => h _ _ _ _
    | exact q_cts.pI fun _ _ => q_cts.pR fun _ _ => q_cts.bind (q_cts.const _) fun _ => q_cts.bind (q_cts.const _) fun _ => h _ _ _ _
    | exact q_cts.pI fun _ _ => q_cts.pI fun _ _ => q_cts.pR fun _ _ => q_cts.bind (q_cts.const _) fun _ => q_cts.bind (q_cts.const _) fun _ => h _ _ _ _
    | exact q_cts.pL fun _ _ => q_cts.pI fun _ _ => q_cts.pR fun _ _ => q_cts.bind (q_cts.const _) fun _ => q_cts.bind (q_cts.const _) fun _ => h _ _ _ _
    | exact q_cts.pR fun _ _ => q_cts.pI fun _ _ => q_cts.pR fun _ _ => q_cts.bind (q_cts.const _) fun _ => q_cts.bind (q_cts.const _) fun _ => h _ _ _ _
    | (refine q_cts.pI fun _ _ => q_cts.pI fun _ _ => q_cts.pR fun _ _ => q_cts.bind (q_cts.const _) fun _ => ?_
       split <;> exact q_cts.bind (q_cts.const _) fun _ => h _ _ _ _)
    | (split
       · exact q_cts.pI fun _ _ => q_cts.swt (fun _ => h _ _ _ _) _ _
       · exact q_cts.const _)
    | (split <;> first | exact q_cts.const _ | exact h _ _ _ _ | (split <;> first | exact q_cts.const _ | exact h _ _ _ _))
theorem q_cts.run {ct : List q_E} {sw : List (Nat × Nat × List Nat)} {nf : Nat → Nat} {T : q_T} : ∀ (n pc : Nat) (ls : q_L) (st : List q_V) (M : q_M), q_cts (fun C => q_run ct sw nf C T n pc ls st M)
  | 0, _, _, _, _ => q_cts.const _
  | n + 1, pc, ls, st, M => by
    unfold q_run
    split
    · exact q_cts.const _
    · refine q_cts.stp fun pc ls st M => ?_
      split
      · exact q_cts.const _
      · exact q_cts.run n pc ls st M
/-- to the end of a method: n blocks at most -/
def q_rc (ct : List q_E) (sw : List (Nat × Nat × List Nat)) (nf : Nat → Nat) (C : q_C) (T : q_T) : Nat → q_F → Option q_R
  | 0, _ => none
  | n + 1, f => (q_run ct sw nf C T 300 f.1 f.2.1 f.2.2.1 f.2.2.2).bind fun o => match o with
    | .inl g => q_rc ct sw nf C T n g
    | .inr r => some r
theorem q_cts.rc {ct : List q_E} {sw : List (Nat × Nat × List Nat)} {nf : Nat → Nat} {T : q_T} : ∀ (n : Nat) (f : q_F), q_cts (fun C => q_rc ct sw nf C T n f)
  | 0, _ => q_cts.const _
  | n + 1, f => by
    unfold q_rc
    refine q_cts.bind (q_cts.run _ _ _ _ _) fun o => ?_
    split
    · exact q_cts.rc n _
    · exact q_cts.const _
theorem q_rc_up {ct : List q_E} {sw : List (Nat × Nat × List Nat)} {nf : Nat → Nat} {C : q_C} {T : q_T} : ∀ (n : Nat) (f : q_F), q_le (q_rc ct sw nf C T n f) (q_rc ct sw nf C T (n + 1) f)
  | 0, _ => fun r h => by cases h
  | n + 1, f => fun r h => by
    unfold q_rc at h ⊢
    obtain ⟨o, h1, h2⟩ := Option.bind_eq_some_iff.mp h
    refine Option.bind_eq_some_iff.mpr ⟨o, h1, ?_⟩
    cases o with
    | inl g => exact q_rc_up n g r h2
    | inr q => exact h2
def q_lay : List q_V → q_L
  | [] => []
  | .inr (.inl x) :: r => some (.inr (.inl x)) :: none :: q_lay r
  | v :: r => some v :: q_lay r
def q_pad : Nat → q_L → q_L
  | 0, _ => []
  | n + 1, [] => none :: q_pad n []
  | n + 1, v :: r => v :: q_pad n r
/-- a method's entry -/
def q_ent (T : q_T) (as : List q_V) (M : q_M) : Option q_F := match Nat.ble (q_lay as).length T.2.2.2.1 with
  | true => some (0, q_pad T.2.2.2.1 (q_lay as), [], M)
  | false => none
section QF
variable (mt : List q_T) (ct : List q_E) (sw : List (Nat × Nat × List Nat)) (nf : Nat → Nat)
def q_cn : Nat → q_C
  | 0 => fun _ _ _ => none
  | n + 1 => fun y as M => (q_get mt y).bind fun T => (q_ent T as M).bind fun f => q_rc ct sw nf (q_cn n) T n f
theorem q_cn_up : ∀ n, q_leC (q_cn mt ct sw nf n) (q_cn mt ct sw nf (n + 1))
  | 0 => fun _ _ _ _ h => by cases h
  | n + 1 => fun y as M r h => by
    have h : ((q_get mt y).bind fun T => (q_ent T as M).bind fun f => q_rc ct sw nf (q_cn mt ct sw nf n) T n f) = some r := h
    show ((q_get mt y).bind fun T => (q_ent T as M).bind fun f => q_rc ct sw nf (q_cn mt ct sw nf (n + 1)) T (n + 1) f) = some r
    obtain ⟨T, h1, h2⟩ := Option.bind_eq_some_iff.mp h
    obtain ⟨f, h3, h4⟩ := Option.bind_eq_some_iff.mp h2
    exact Option.bind_eq_some_iff.mpr ⟨T, h1, Option.bind_eq_some_iff.mpr ⟨f, h3, q_rc_up n f r ((q_cts.rc n f).1 _ _ (q_cn_up n) r h4)⟩⟩
noncomputable def q_lim {α β : Type} (f : Nat → α → Option β) (x : α) : Option β := by
  classical
  exact if h : ∃ n, (f n x).isSome = true then f (Classical.choose h) x else none
theorem q_lim_of {α β : Type} {f : Nat → α → Option β} (up : ∀ n x r, f n x = some r → f (n + 1) x = some r) {x : α} {r : β} {n : Nat} (h : f n x = some r) : q_lim f x = some r := by
  have mono : ∀ (a b : Nat), a ≤ b → ∀ r, f a x = some r → f b x = some r := by
    intro a b hab
    induction hab with
    | refl => exact fun _ h => h
    | step _ ih => exact fun r hr => up _ _ _ (ih r hr)
  have hex : ∃ n, (f n x).isSome = true := ⟨n, by rw [h]; rfl⟩
  unfold q_lim
  rw [dif_pos hex]
  obtain ⟨z, hz⟩ := Option.isSome_iff_exists.mp (Classical.choose_spec hex)
  have e1 := mono _ _ (Nat.le_max_left (Classical.choose hex) n) z hz
  have e2 := mono _ _ (Nat.le_max_right (Classical.choose hex) n) r h
  rw [hz, ← e1, e2]
theorem q_lim_to {α β : Type} {f : Nat → α → Option β} {x : α} {r : β} (h : q_lim f x = some r) : ∃ n, f n x = some r := by
  unfold q_lim at h
  split at h
  · exact ⟨_, h⟩
  · cases h
noncomputable def q_CC : q_C := fun y as M => q_lim (fun n (z : Nat × List q_V × q_M) => q_cn mt ct sw nf n z.1 z.2.1 z.2.2) (y, as, M)
theorem q_CC_chain : q_chain (q_cn mt ct sw nf) (q_CC mt ct sw nf) := ⟨q_cn_up mt ct sw nf, fun y as M r h => q_lim_to h⟩
theorem q_CC_of {n y : Nat} {as : List q_V} {M : q_M} {r : q_R} (h : q_cn mt ct sw nf n y as M = some r) : q_CC mt ct sw nf y as M = some r := q_lim_of (f := fun n (z : Nat × List q_V × q_M) => q_cn mt ct sw nf n z.1 z.2.1 z.2.2) (fun n x r hr => q_cn_up mt ct sw nf n _ _ _ _ hr) (x := (y, as, M)) h
noncomputable def q_RC (T : q_T) (f : q_F) : Option q_R := q_lim (fun n f => q_rc ct sw nf (q_cn mt ct sw nf n) T n f) f
theorem q_rc_step (T : q_T) (n : Nat) (f : q_F) (r : q_R) (h : q_rc ct sw nf (q_cn mt ct sw nf n) T n f = some r) : q_rc ct sw nf (q_cn mt ct sw nf (n + 1)) T (n + 1) f = some r := q_rc_up n f r ((q_cts.rc n f).1 _ _ (q_cn_up mt ct sw nf n) r h)
theorem q_rc_mono (T : q_T) {n m : Nat} (hm : n ≤ m) {f : q_F} {r : q_R} (h : q_rc ct sw nf (q_cn mt ct sw nf n) T n f = some r) : q_rc ct sw nf (q_cn mt ct sw nf m) T m f = some r := by
  induction hm with
  | refl => exact h
  | step _ ih => exact q_rc_step mt ct sw nf T _ f r ih
/-- the block equation -/
theorem q_RC_eq (T : q_T) (f : q_F) : q_RC mt ct sw nf T f = (q_run ct sw nf (q_CC mt ct sw nf) T 300 f.1 f.2.1 f.2.2.1 f.2.2.2).bind fun o => match o with
    | .inl g => q_RC mt ct sw nf T g
    | .inr r => some r := by
  have one : ∀ r, q_RC mt ct sw nf T f = some r → ((q_run ct sw nf (q_CC mt ct sw nf) T 300 f.1 f.2.1 f.2.2.1 f.2.2.2).bind fun o => match o with
    | .inl g => q_RC mt ct sw nf T g
    | .inr r => some r) = some r := by
    intro r h
    obtain ⟨n, hn⟩ := q_lim_to h
    cases n with
    | zero => cases hn
    | succ n =>
      have hn : ((q_run ct sw nf (q_cn mt ct sw nf (n + 1)) T 300 f.1 f.2.1 f.2.2.1 f.2.2.2).bind fun o => match o with
        | .inl g => q_rc ct sw nf (q_cn mt ct sw nf (n + 1)) T n g
        | .inr r => some r) = some r := hn
      obtain ⟨o, h1, h2⟩ := Option.bind_eq_some_iff.mp hn
      refine Option.bind_eq_some_iff.mpr ⟨o, (q_cts.run 300 _ _ _ _).1 _ _ (fun y as M r h => q_CC_of mt ct sw nf h) o h1, ?_⟩
      cases o with
      | inl g => exact q_lim_of (f := fun n f => q_rc ct sw nf (q_cn mt ct sw nf n) T n f) (q_rc_step mt ct sw nf T) (n := n + 1) (q_rc_up n g r h2)
      | inr q => exact h2
  have two : ∀ r, ((q_run ct sw nf (q_CC mt ct sw nf) T 300 f.1 f.2.1 f.2.2.1 f.2.2.2).bind fun o => match o with
    | .inl g => q_RC mt ct sw nf T g
    | .inr r => some r) = some r → q_RC mt ct sw nf T f = some r := by
    intro r h
    obtain ⟨o, h1, h2⟩ := Option.bind_eq_some_iff.mp h
    obtain ⟨n1, g1⟩ := (q_cts.run 300 _ _ _ _).2 _ _ (q_CC_chain mt ct sw nf) o h1
    cases o with
    | inl g =>
      obtain ⟨n2, g2⟩ := q_lim_to h2
      refine q_lim_of (f := fun n f => q_rc ct sw nf (q_cn mt ct sw nf n) T n f) (q_rc_step mt ct sw nf T) (n := max n1 n2 + 1) ?_
      refine Option.bind_eq_some_iff.mpr ⟨.inl g, (q_cts.run 300 _ _ _ _).1 _ _ ((q_CC_chain mt ct sw nf).up (Nat.le_trans (Nat.le_max_left n1 n2) (Nat.le_succ _))) _ g1, ?_⟩
      have g3 := q_rc_mono mt ct sw nf T (Nat.le_max_right n1 n2) g2
      exact (q_cts.rc _ g).1 _ _ (q_cn_up mt ct sw nf _) r g3
    | inr q =>
      refine q_lim_of (f := fun n f => q_rc ct sw nf (q_cn mt ct sw nf n) T n f) (q_rc_step mt ct sw nf T) (n := n1 + 1) ?_
      exact Option.bind_eq_some_iff.mpr ⟨.inr q, (q_cts.run 300 _ _ _ _).1 _ _ ((q_CC_chain mt ct sw nf).up (Nat.le_succ _)) _ g1, h2⟩
  apply Option.ext
  exact fun r => ⟨one r, two r⟩
theorem q_CC_eq (y : Nat) (as : List q_V) (M : q_M) : q_CC mt ct sw nf y as M = (q_get mt y).bind fun T => (q_ent T as M).bind fun f => q_RC mt ct sw nf T f := by
  apply Option.ext
  intro r
  constructor
  · intro h
    obtain ⟨n, hn⟩ := q_lim_to h
    cases n with
    | zero => cases hn
    | succ n =>
      have hn : ((q_get mt y).bind fun T => (q_ent T as M).bind fun f => q_rc ct sw nf (q_cn mt ct sw nf n) T n f) = some r := hn
      obtain ⟨T, h1, h2⟩ := Option.bind_eq_some_iff.mp hn
      obtain ⟨f, h3, h4⟩ := Option.bind_eq_some_iff.mp h2
      exact Option.bind_eq_some_iff.mpr ⟨T, h1, Option.bind_eq_some_iff.mpr ⟨f, h3, q_lim_of (f := fun n f => q_rc ct sw nf (q_cn mt ct sw nf n) T n f) (q_rc_step mt ct sw nf T) h4⟩⟩
  · intro h
    obtain ⟨T, h1, h2⟩ := Option.bind_eq_some_iff.mp h
    obtain ⟨f, h3, h4⟩ := Option.bind_eq_some_iff.mp h2
    obtain ⟨n, hn⟩ := q_lim_to h4
    refine q_CC_of mt ct sw nf (n := n + 1) ?_
    exact Option.bind_eq_some_iff.mpr ⟨T, h1, Option.bind_eq_some_iff.mpr ⟨f, h3, hn⟩⟩
end QF
