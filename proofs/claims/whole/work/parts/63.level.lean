/-! ===== A LEVEL OF TURNING: d bits at once ===== -/
def tlS (d x : Nat) : Nat := (x * 2 ||| x / 2 ^ (d - 1)) &&& (2 ^ d - 1)
def tlN (d x : Nat) : Nat → Nat
  | 0 => x
  | n + 1 => tlN d (tlS d x) n
def rlv (d e t w : Nat) : Nat := tlN d (w ^^^ w / 2) (t + 1) ^^^ e
def lvP2 (e t w : Nat) : Bool := decide (tuA 2 0 (e * 32 + t * 8) ≠ tuA 2 1 (tuN 2 0 (e * 32 + t * 8) (w / 2))) && (decide (tuA 2 0 (e * 32 + t * 8) < 2) && (decide (tuA 2 1 (tuN 2 0 (e * 32 + t * 8) (w / 2)) < 2) && (decide (tuT 2 0 (e * 32 + t * 8) (w / 2) = rlv 2 e t w / 2 ^ (1 - tuA 2 0 (e * 32 + t * 8)) % 2) && (decide (tuT 2 1 (tuN 2 0 (e * 32 + t * 8) (w / 2)) (w % 2) = rlv 2 e t w / 2 ^ (1 - tuA 2 1 (tuN 2 0 (e * 32 + t * 8) (w / 2))) % 2) && (decide (tuN 2 1 (tuN 2 0 (e * 32 + t * 8) (w / 2)) (w % 2) = tuE 2 e t w * 32 + tuU 2 t w * 8) && (decide (tuE 2 e t w < 4) && decide (tuU 2 t w < 2)))))))
theorem lvP2_ok : ∀ e, e < 4 → ∀ t, t < 2 → ∀ w, w < 4 → lvP2 e t w = true := by decide +kernel
def lv31 (e t w : Nat) : Nat := tuN 3 0 (e * 32 + t * 8) (w / 4)
def lv32 (e t w : Nat) : Nat := tuN 3 1 (lv31 e t w) (w / 2 % 2)
def lvP3 (e t w : Nat) : Bool := decide (tuA 3 0 (e * 32 + t * 8) ≠ tuA 3 1 (lv31 e t w)) && (decide (tuA 3 0 (e * 32 + t * 8) ≠ tuA 3 2 (lv32 e t w)) && (decide (tuA 3 1 (lv31 e t w) ≠ tuA 3 2 (lv32 e t w)) && (decide (tuA 3 0 (e * 32 + t * 8) < 3) && (decide (tuA 3 1 (lv31 e t w) < 3) && (decide (tuA 3 2 (lv32 e t w) < 3) && (decide (tuT 3 0 (e * 32 + t * 8) (w / 4) = rlv 3 e t w / 2 ^ (2 - tuA 3 0 (e * 32 + t * 8)) % 2) && (decide (tuT 3 1 (lv31 e t w) (w / 2 % 2) = rlv 3 e t w / 2 ^ (2 - tuA 3 1 (lv31 e t w)) % 2) && (decide (tuT 3 2 (lv32 e t w) (w % 2) = rlv 3 e t w / 2 ^ (2 - tuA 3 2 (lv32 e t w)) % 2) && (decide (tuN 3 2 (lv32 e t w) (w % 2) = tuE 3 e t w * 32 + tuU 3 t w * 8) && (decide (tuE 3 e t w < 8) && decide (tuU 3 t w < 3)))))))))))
theorem lvP3_ok : ∀ e, e < 8 → ∀ t, t < 3 → ∀ w, w < 8 → lvP3 e t w = true := by decide +kernel
theorem cmO_2 (d : Nat) (L : Nat → Nat) : cmO 2 d L = (2, fun k s => tuA d (k % d) s, fun k s v => tuT d (k % d) s v, fun k s v => tuN d (k % d) s v, fun a => 2 ^ L a) := by
  unfold cmO
  rw [if_pos rfl]
/-- what a level does -/
def lvQ (d e t w : Nat) (b b1 : Bx) : Prop := (∀ a, a < d → b1.2.1 a = b.2.1 a / 2 ∧ b1.1 a = b.1 a + rlv d e t w / 2 ^ (d - 1 - a) % 2 * (b.2.1 a / 2)) ∧ (∀ a, d ≤ a → b1.2.1 a = b.2.1 a ∧ b1.1 a = b.1 a) ∧ b1.2.2 = tuE d e t w * 32 + tuU d t w * 8 ∧ tuE d e t w < 2 ^ d ∧ tuU d t w < d
theorem lev2 {L : Nat → Nat} {k e t w : Nat} (he : e < 4) (ht : t < 2) (hw : w < 4) {P : Nat} (hs : (bx (cmO 2 2 L) (2 * k) P).2.2 = e * 32 + t * 8) : lvQ 2 e t w (bx (cmO 2 2 L) (2 * k) P) (bx (cmO 2 2 L) (2 * (k + 1)) (P * 4 + w)) := by
  have hp := lvP2_ok e he t ht w hw
  unfold lvP2 at hp
  simp only [Bool.and_eq_true, decide_eq_true_eq] at hp
  obtain ⟨p1, p2, p3, p4, p5, p6, p7, p8⟩ := hp
  have e1 : bx (cmO 2 2 L) (2 * (k + 1)) (P * 4 + w) = bs (cmO 2 2 L) (2 * k + 1) (bs (cmO 2 2 L) (2 * k) (bx (cmO 2 2 L) (2 * k) P) (w / 2)) (w % 2) := by
    rw [cmO_2]
    show bs _ (2 * k + 1) (bs _ (2 * k) (bx _ (2 * k) ((P * 4 + w) / 2 / 2)) ((P * 4 + w) / 2 % 2)) ((P * 4 + w) % 2) = _
    rw [show (P * 4 + w) / 2 / 2 = P by omega, show (P * 4 + w) / 2 % 2 = w / 2 by omega, show (P * 4 + w) % 2 = w % 2 by omega]
  rw [e1]
  generalize bx (cmO 2 2 L) (2 * k) P = b at hs ⊢
  have hb1 : bs (cmO 2 2 L) (2 * k) b (w / 2) = (va_up b.1 (tuA 2 0 b.2.2) (b.1 (tuA 2 0 b.2.2) + tuT 2 0 b.2.2 (w / 2) * (b.2.1 (tuA 2 0 b.2.2) / 2)), va_up b.2.1 (tuA 2 0 b.2.2) (b.2.1 (tuA 2 0 b.2.2) / 2), tuN 2 0 b.2.2 (w / 2)) := by
    rw [cmO_2]
    unfold bs
    simp only [show 2 * k % 2 = 0 by omega]
  have hb2 : ∀ b' : Bx, bs (cmO 2 2 L) (2 * k + 1) b' (w % 2) = (va_up b'.1 (tuA 2 1 b'.2.2) (b'.1 (tuA 2 1 b'.2.2) + tuT 2 1 b'.2.2 (w % 2) * (b'.2.1 (tuA 2 1 b'.2.2) / 2)), va_up b'.2.1 (tuA 2 1 b'.2.2) (b'.2.1 (tuA 2 1 b'.2.2) / 2), tuN 2 1 b'.2.2 (w % 2)) := by
    intro b'
    rw [cmO_2]
    unfold bs
    simp only [show (2 * k + 1) % 2 = 1 by omega]
  rw [hb2, hb1, hs]
  simp only
  rw [p4, p5, p6]
  generalize tuA 2 0 (e * 32 + t * 8) = a0 at *
  generalize tuA 2 1 (tuN 2 0 (e * 32 + t * 8) (w / 2)) = a1 at *
  refine ⟨fun a ha => ?_, fun a ha => ?_, rfl, p7, p8⟩
  · rcases (show a = a0 ∨ a = a1 by omega) with rfl | rfl
    · simp only [va_up_ne _ _ p1, va_up_self, va_up_ne _ _ (Ne.symm p1)]
      first | exact ⟨trivial, rfl⟩ | exact ⟨rfl, rfl⟩ | exact ⟨rfl, trivial⟩ | exact ⟨trivial, trivial⟩ | trivial
    · simp only [va_up_self, va_up_ne _ _ (Ne.symm p1)]
      first | exact ⟨trivial, rfl⟩ | exact ⟨rfl, rfl⟩ | exact ⟨rfl, trivial⟩ | exact ⟨trivial, trivial⟩ | trivial
  · simp only [va_up_ne _ _ (show a ≠ a0 by omega), va_up_ne _ _ (show a ≠ a1 by omega)]
    first | exact ⟨trivial, rfl⟩ | exact ⟨rfl, rfl⟩ | exact ⟨rfl, trivial⟩ | exact ⟨trivial, trivial⟩ | trivial
theorem lev3 {L : Nat → Nat} {k e t w : Nat} (he : e < 8) (ht : t < 3) (hw : w < 8) {P : Nat} (hs : (bx (cmO 2 3 L) (3 * k) P).2.2 = e * 32 + t * 8) : lvQ 3 e t w (bx (cmO 2 3 L) (3 * k) P) (bx (cmO 2 3 L) (3 * (k + 1)) (P * 8 + w)) := by
  have hp := lvP3_ok e he t ht w hw
  unfold lvP3 at hp
  simp only [Bool.and_eq_true, decide_eq_true_eq] at hp
  obtain ⟨p1, p2, p3, p4, p5, p6, p7, p8, p9, p10, p11, p12⟩ := hp
  have e1 : bx (cmO 2 3 L) (3 * (k + 1)) (P * 8 + w) = bs (cmO 2 3 L) (3 * k + 2) (bs (cmO 2 3 L) (3 * k + 1) (bs (cmO 2 3 L) (3 * k) (bx (cmO 2 3 L) (3 * k) P) (w / 4)) (w / 2 % 2)) (w % 2) := by
    rw [cmO_2]
    show bs _ (3 * k + 2) (bs _ (3 * k + 1) (bs _ (3 * k) (bx _ (3 * k) ((P * 8 + w) / 2 / 2 / 2)) ((P * 8 + w) / 2 / 2 % 2)) ((P * 8 + w) / 2 % 2)) ((P * 8 + w) % 2) = _
    rw [show (P * 8 + w) / 2 / 2 / 2 = P by omega, show (P * 8 + w) / 2 / 2 % 2 = w / 4 by omega, show (P * 8 + w) / 2 % 2 = w / 2 % 2 by omega, show (P * 8 + w) % 2 = w % 2 by omega]
  rw [e1]
  generalize bx (cmO 2 3 L) (3 * k) P = b at hs ⊢
  have hb : ∀ (r v : Nat) (b' : Bx), r < 3 → bs (cmO 2 3 L) (3 * k + r) b' v = (va_up b'.1 (tuA 3 r b'.2.2) (b'.1 (tuA 3 r b'.2.2) + tuT 3 r b'.2.2 v * (b'.2.1 (tuA 3 r b'.2.2) / 2)), va_up b'.2.1 (tuA 3 r b'.2.2) (b'.2.1 (tuA 3 r b'.2.2) / 2), tuN 3 r b'.2.2 v) := by
    intro r v b' hr
    rw [cmO_2]
    unfold bs
    simp only [show (3 * k + r) % 3 = r by omega]
  rw [hb 2 _ _ (by omega), hb 1 _ _ (by omega), show bs (cmO 2 3 L) (3 * k) b (w / 4) = _ from hb 0 _ _ (by omega), hs]
  simp only
  rw [p7, show tuN 3 0 (e * 32 + t * 8) (w / 4) = lv31 e t w from rfl, p8, show tuN 3 1 (lv31 e t w) (w / 2 % 2) = lv32 e t w from rfl, p9, p10]
  generalize tuA 3 0 (e * 32 + t * 8) = a0 at *
  generalize tuA 3 1 (lv31 e t w) = a1 at *
  generalize tuA 3 2 (lv32 e t w) = a2 at *
  refine ⟨fun a ha => ?_, fun a ha => ?_, rfl, p11, p12⟩
  · rcases (show a = a0 ∨ a = a1 ∨ a = a2 by omega) with rfl | rfl | rfl
    · simp only [va_up_ne _ _ p1, va_up_ne _ _ p2, va_up_self]
      first | exact ⟨trivial, rfl⟩ | exact ⟨rfl, rfl⟩ | exact ⟨rfl, trivial⟩ | exact ⟨trivial, trivial⟩ | trivial
    · simp only [va_up_ne _ _ p3, va_up_self, va_up_ne _ _ (Ne.symm p1)]
      first | exact ⟨trivial, rfl⟩ | exact ⟨rfl, rfl⟩ | exact ⟨rfl, trivial⟩ | exact ⟨trivial, trivial⟩ | trivial
    · simp only [va_up_self, va_up_ne _ _ (Ne.symm p2), va_up_ne _ _ (Ne.symm p3)]
      first | exact ⟨trivial, rfl⟩ | exact ⟨rfl, rfl⟩ | exact ⟨rfl, trivial⟩ | exact ⟨trivial, trivial⟩ | trivial
  · simp only [va_up_ne _ _ (show a ≠ a0 by omega), va_up_ne _ _ (show a ≠ a1 by omega), va_up_ne _ _ (show a ≠ a2 by omega)]
    first | exact ⟨trivial, rfl⟩ | exact ⟨rfl, rfl⟩ | exact ⟨rfl, trivial⟩ | exact ⟨trivial, trivial⟩ | trivial
theorem lev {L : Nat → Nat} {d k e t w : Nat} (hd : d = 2 ∨ d = 3) (he : e < 2 ^ d) (ht : t < d) (hw : w < 2 ^ d) {P : Nat} (hs : (bx (cmO 2 d L) (d * k) P).2.2 = e * 32 + t * 8) : lvQ d e t w (bx (cmO 2 d L) (d * k) P) (bx (cmO 2 d L) (d * (k + 1)) (P * 2 ^ d + w)) := by
  rcases hd with rfl | rfl
  · exact lev2 he ht hw hs
  · exact lev3 he ht hw hs
