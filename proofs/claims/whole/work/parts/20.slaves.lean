/-! A slave: its record on both sides; reads and writes of its tables. -/
def tn (t : Nat) : Nat := if t ≤ 2 then 16 else 8
def SlC (X : Xs) (i al ln d off ls : Nat) (tb : Nat → Nat → Nat) : Prop :=
  X.I (2 + 5 * i) 0 = nI (i + 1) ∧ X.I (2 + 5 * i) 5 = (if al = 0 then -1 else nI ln) ∧ X.I (2 + 5 * i) 6 = nI d ∧ X.I (2 + 5 * i) 7 = nI (1 - off) ∧ X.I (2 + 5 * i) 8 = nI ls ∧ ∀ t k, 1 ≤ t → t ≤ 4 → k < tn t → X.I (2 + 5 * i + t) k = nI (tb t k)
def SlM (X : Xs) (i al ln d off ls : Nat) (tb : Nat → Nat → Nat) : Prop :=
  X.I 57 (i + 1) = nI al ∧ X.I 58 (i + 1) = nI ln ∧ X.I 59 (i + 1) = nI d ∧ X.I 60 (i + 1) = nI off ∧ X.I 61 (i + 1) = nI ls ∧ ∀ t k, 1 ≤ t → t ≤ 4 → k < tn t → X.I (61 + t) (tn t * (i + 1) + k) = nI (tb t k)
def SlV (al ln d off ls : Nat) (tb : Nat → Nat → Nat) : Prop := al < 2 ∧ ln < 2 ∧ d < 6 ∧ off < 2 ∧ ls < 2 ∧ ∀ t k, tb t k < if t ≤ 2 then 2 else 65536
def tbR (tb : Nat → Nat → Nat) (t a c : Nat) (g : Nat → Nat) : Nat → Nat → Nat := fun t' k => if t' = t ∧ a ≤ k ∧ k < a + c then g (k - a) else tb t' k
def mk3 (x y z : Nat) : Nat := (x &&& y) ||| (z &&& (y ^^^ 65535))
def acT (f a c v : Nat) (tb : Nat → Nat → Nat) : Nat → Nat → Nat :=
  if f = 5 then tbR tb 1 a 1 (fun _ => if wN v 0 = 65280 then 1 else 0)
  else if f = 6 then tbR tb 3 a 1 (fun _ => wN v 0)
  else if f = 22 then tbR tb 3 a 1 (fun _ => mk3 (tb 3 a) (wN v 0) (wN v 1))
  else if f = 15 then tbR tb 1 a c (fun k => v / 2 ^ k % 2)
  else if f = 16 then tbR tb 3 a c (fun k => wN v k)
  else tb
def acL (f a ls : Nat) : Nat := if f = 8 then (if a = 1 then 0 else if a = 4 then 1 else ls) else ls
theorem mk3_lt {x y z : Nat} (hx : x < 65536) (hz : z < 65536) : mk3 x y z < 65536 := Nat.or_lt_two_pow (n := 16) (Nat.lt_of_le_of_lt Nat.and_le_left hx) (Nat.lt_of_le_of_lt Nat.and_le_left hz)
theorem not16 {y z : Nat} (hz : z < 65536) : z &&& (y ^^^ 4294967295) = z &&& (y ^^^ 65535) := by
  apply Nat.eq_of_testBit_eq
  intro i
  simp only [Nat.testBit_and, Nat.testBit_xor]
  by_cases hi : i < 16
  · have h1 : Nat.testBit 4294967295 i = true := by
      have h : ∀ i, i < 16 → Nat.testBit 4294967295 i = true := by decide
      exact h i hi
    have h2 : Nat.testBit 65535 i = true := by
      have h : ∀ i, i < 16 → Nat.testBit 65535 i = true := by decide
      exact h i hi
    rw [h1, h2]
  · have h1 : Nat.testBit z i = false := Nat.testBit_lt_two_pow (Nat.lt_of_lt_of_le hz (Nat.pow_le_pow_right (n := 2) (i := 16) (by decide) (by omega)))
    rw [h1]
    simp
theorem mk3_i {x y z : Nat} (hz : z < 65536) : (nI x &&& nI y) ||| (nI z &&& (nI y ^^^ (-1 : Int32))) = nI (mk3 x y z) := by
  rw [show (-1 : Int32) = nI 4294967295 from rfl, nz_xor, nz_and, nz_and, nz_or, not16 hz]
  rfl
theorem SlV.act {al ln d off ls f a c v : Nat} {tb : Nat → Nat → Nat} (h : SlV al ln d off ls tb) : SlV al ln d off (acL f a ls) (acT f a c v tb) := by
  obtain ⟨h1, h2, h3, h4, h5, h6⟩ := h
  refine ⟨h1, h2, h3, h4, ?_, fun t k => ?_⟩
  · unfold acL
    repeat' split
    all_goals omega
  · have ht := h6 t k
    have e3 := h6 3 a
    have w0 := wN_lt v 0
    have w1 := wN_lt v 1
    unfold acT tbR
    by_cases k1 : f = 5
    · rw [if_pos k1]
      show (if t = 1 ∧ a ≤ k ∧ k < a + 1 then (if wN v 0 = 65280 then 1 else 0) else tb t k) < _
      by_cases q : t = 1 ∧ a ≤ k ∧ k < a + 1
      · rw [if_pos q, if_pos (show t ≤ 2 by omega)]
        split <;> omega
      · rw [if_neg q]; exact ht
    · rw [if_neg k1]
      by_cases k2 : f = 6
      · rw [if_pos k2]
        show (if t = 3 ∧ a ≤ k ∧ k < a + 1 then wN v 0 else tb t k) < _
        by_cases q : t = 3 ∧ a ≤ k ∧ k < a + 1
        · rw [if_pos q, if_neg (by omega)]; exact w0
        · rw [if_neg q]; exact ht
      · rw [if_neg k2]
        by_cases k3 : f = 22
        · rw [if_pos k3]
          show (if t = 3 ∧ a ≤ k ∧ k < a + 1 then mk3 (tb 3 a) (wN v 0) (wN v 1) else tb t k) < _
          by_cases q : t = 3 ∧ a ≤ k ∧ k < a + 1
          · rw [if_pos q, if_neg (by omega)]; exact mk3_lt e3 w1
          · rw [if_neg q]; exact ht
        · rw [if_neg k3]
          by_cases k4 : f = 15
          · rw [if_pos k4]
            show (if t = 1 ∧ a ≤ k ∧ k < a + c then v / 2 ^ (k - a) % 2 else tb t k) < _
            by_cases q : t = 1 ∧ a ≤ k ∧ k < a + c
            · rw [if_pos q, if_pos (by omega)]; exact Nat.mod_lt _ (by decide)
            · rw [if_neg q]; exact ht
          · rw [if_neg k4]
            by_cases k5 : f = 16
            · rw [if_pos k5]
              show (if t = 3 ∧ a ≤ k ∧ k < a + c then wN v (k - a) else tb t k) < _
              by_cases q : t = 3 ∧ a ≤ k ∧ k < a + c
              · rw [if_pos q, if_neg (by omega)]; exact wN_lt _ _
              · rw [if_neg q]; exact ht
            · rw [if_neg k5]; exact ht
theorem isSl_of {i : Nat} (h : i < 6) : isSl (2 + 5 * i) := by
  unfold isSl
  omega
section SL
variable {b : Nat} {X : Xs} {p i o u f a c v al ln d off ls : Nat} {tb : Nat → Nat → Nat}
theorem sl_put (h : isSl p) {t k : Nat} (h1 : 1 ≤ t) (h4 : t ≤ 4) (hk : k < tn t) (x : Int32) : fSl_put (b + (p + t)) (nI k) x (wX b X) = some (wX b (X.sI (p + t) k x)) := by
  have hk2 : k < 16 := by unfold tn at hk; split at hk <;> omega
  have h0 : ¬ nI k < 0 := nI_pos (by omega)
  unfold fSl_put
  rw [if_neg h0]
  have ht : t = 1 ∨ t = 2 ∨ t = 3 ∨ t = 4 := by omega
  rcases ht with rfl | rfl | rfl | rfl
  · have hk : k < 16 := hk
    rw [bs (Sl_n1 h), if_neg (nI_ge hk (by decide)), Sl_s1 h, ax_of hk (by decide) rfl]; rfl
  · have hk : k < 16 := hk
    rw [bs (Sl_n2 h), if_neg (nI_ge hk (by decide)), Sl_s2 h, ax_of hk (by decide) rfl]; rfl
  · have hk : k < 8 := hk
    rw [bs (Sl_n3 h), if_neg (nI_ge hk (by decide)), Sl_s3 h, ax_of hk (by decide) rfl]; rfl
  · have hk : k < 8 := hk
    rw [bs (Sl_n4 h), if_neg (nI_ge hk (by decide)), Sl_s4 h, ax_of hk (by decide) rfl]; rfl
theorem sl_get (h : isSl p) {t k : Nat} (h1 : 1 ≤ t) (h4 : t ≤ 4) (hk : k < tn t) : fSl_get (b + (p + t)) (nI k) (wX b X) = some (X.I (p + t) k, wX b X) := by
  have hk2 : k < 16 := by unfold tn at hk; split at hk <;> omega
  have h0 : ¬ nI k < 0 := nI_pos (by omega)
  unfold fSl_get
  rw [if_neg h0]
  have ht : t = 1 ∨ t = 2 ∨ t = 3 ∨ t = 4 := by omega
  rcases ht with rfl | rfl | rfl | rfl
  · have hk : k < 16 := hk
    rw [bs (Sl_n1 h), if_neg (nI_ge hk (by decide)), Sl_a1 h, ax_of hk (by decide) rfl]; rfl
  · have hk : k < 16 := hk
    rw [bs (Sl_n2 h), if_neg (nI_ge hk (by decide)), Sl_a2 h, ax_of hk (by decide) rfl]; rfl
  · have hk : k < 8 := hk
    rw [bs (Sl_n3 h), if_neg (nI_ge hk (by decide)), Sl_a3 h, ax_of hk (by decide) rfl]; rfl
  · have hk : k < 8 := hk
    rw [bs (Sl_n4 h), if_neg (nI_ge hk (by decide)), Sl_a4 h, ax_of hk (by decide) rfl]; rfl
theorem SlC.put (h : SlC X i al ln d off ls tb) {t k x : Nat} (h1 : 1 ≤ t) (h4 : t ≤ 4) : SlC (X.sI (2 + 5 * i + t) k (nI x)) i al ln d off ls (tbR tb t k 1 (fun _ => x)) := by
  obtain ⟨e0, e5, e6, e7, e8, et⟩ := h
  refine ⟨?_, ?_, ?_, ?_, ?_, fun t' k' a1 a4 ak => ?_⟩
  all_goals try (rw [sI_I, up2_o (by omega)]; assumption)
  rw [sI_I]
  unfold tbR up2
  by_cases q : t' = t ∧ k ≤ k' ∧ k' < k + 1
  · rw [if_pos q, if_pos ⟨by omega, by omega⟩]
  · rw [if_neg q, if_neg (by omega)]
    exact et t' k' a1 a4 ak
theorem tbR_ext {tb : Nat → Nat → Nat} {t a c : Nat} {g : Nat → Nat} : tbR (tbR tb t a c g) t (a + c) 1 (fun _ => g c) = tbR tb t a (c + 1) g := by
  funext t' k
  unfold tbR
  by_cases q : t' = t ∧ a ≤ k ∧ k < a + (c + 1)
  · rw [if_pos q]
    by_cases q2 : t' = t ∧ a + c ≤ k ∧ k < a + c + 1
    · rw [if_pos q2]
      show g c = g (k - a)
      rw [show k - a = c by omega]
    · rw [if_neg q2, if_pos (by omega)]
  · rw [if_neg q, if_neg (by omega), if_neg (by omega)]
theorem tbR_0 {tb : Nat → Nat → Nat} {t a : Nat} {g : Nat → Nat} : tbR tb t a 0 g = tb := by
  funext t' k
  unfold tbR
  rw [if_neg (by omega)]
end SL
