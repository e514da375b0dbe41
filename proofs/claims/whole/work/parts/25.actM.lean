/-! A slave does a job: the model's side. -/
def ChS (i : Nat) (X Y : Xs) : Prop := Ch [56, 61, 62, 64] X Y ∧ (∀ j al ln d off ls tb, j ≠ i → j < 6 → SlM X j al ln d off ls tb → SlM Y j al ln d off ls tb) ∧ (∀ q, q ≠ 39 → Y.I 56 q = X.I 56 q)
theorem ChS.rf {i : Nat} {X : Xs} : ChS i X X := ⟨Ch.rf, fun _ _ _ _ _ _ _ _ _ h => h, fun _ _ => rfl⟩
theorem ChS.tr {i : Nat} {X Y Z : Xs} (h1 : ChS i X Y) (h2 : ChS i Y Z) : ChS i X Z := ⟨h1.1.tr h2.1, fun j al ln d off ls tb hj hj6 h => h2.2.1 j al ln d off ls tb hj hj6 (h1.2.1 j al ln d off ls tb hj hj6 h), fun q hq => (h2.2.2 q hq).trans (h1.2.2 q hq)⟩
section AM
variable {b : Nat} {X : Xs} {i u f a c v al ln d off ls : Nat} {tb : Nat → Nat → Nat}
/-- a table's cell of slave i is written -/
theorem ChS.tab {t k x : Nat} (h : t = 1 ∨ t = 3) (hk : k < tn t) : ChS i X (X.sI (61 + t) (tn t * (i + 1) + k) (nI x)) := by
  refine ⟨Ch.rf.sI (by rcases h with rfl | rfl <;> simp), ?_, fun q _ => by rw [sI_I, up2_o (by omega)]⟩
  intro j al ln d off ls tb hj hj6 hS
  obtain ⟨e0, e1, e2, e3, e4, et⟩ := hS
  refine ⟨?_, ?_, ?_, ?_, ?_, fun t' k' a1 a4 ak => ?_⟩
  all_goals try (rw [sI_I, up2_o (by omega)]; assumption)
  rw [sI_I]
  by_cases e : t' = t
  · subst e
    rw [up2_k ?_]
    · exact et t' k' a1 a4 ak
    · intro q
      rcases h with rfl | rfl
      · have h1 : k < 16 := hk
        have h2 : k' < 16 := ak
        have q : 16 * (j + 1) + k' = 16 * (i + 1) + k := q
        omega
      · have h1 : k < 8 := hk
        have h2 : k' < 8 := ak
        have q : 8 * (j + 1) + k' = 8 * (i + 1) + k := q
        omega
  · rw [up2_o (by omega)]
    exact et t' k' a1 a4 ak
theorem SlM.put (h : SlM X i al ln d off ls tb) {t k x : Nat} (ht : t = 1 ∨ t = 3) (hk : k < tn t) : SlM (X.sI (61 + t) (tn t * (i + 1) + k) (nI x)) i al ln d off ls (tbR tb t k 1 (fun _ => x)) := by
  obtain ⟨e0, e1, e2, e3, e4, et⟩ := h
  refine ⟨?_, ?_, ?_, ?_, ?_, fun t' k' a1 a4 ak => ?_⟩
  all_goals try (rw [sI_I, up2_o (by omega)]; assumption)
  rw [sI_I]
  unfold tbR up2
  by_cases q : t' = t ∧ k ≤ k' ∧ k' < k + 1
  · obtain ⟨rfl, q2, q3⟩ := q
    have : k' = k := by omega
    subst this
    rw [if_pos (show t' = t' ∧ k' ≤ k' ∧ k' < k' + 1 from ⟨rfl, by omega⟩), if_pos (show 61 + t' = 61 + t' ∧ tn t' * (i + 1) + k' = tn t' * (i + 1) + k' from ⟨rfl, rfl⟩)]
  · rw [if_neg q, if_neg (fun z => ?_)]
    · exact et t' k' a1 a4 ak
    · obtain ⟨z1, z2⟩ := z
      have : t' = t := by omega
      subst this
      exact q ⟨rfl, by omega⟩
theorem ChS.said {y : Int32} {z : Int64} : ChS i X ((X.sI 56 39 y).sJ 56 40 z) := by
  refine ⟨(Ch.rf.sI (by simp)).sJ (by simp), ?_, fun q hq => ?_⟩
  · intro j al ln d off ls tb hj hj6 hS
    obtain ⟨e0, e1, e2, e3, e4, et⟩ := hS
    refine ⟨?_, ?_, ?_, ?_, ?_, fun t' k' a1 a4 ak => ?_⟩
    all_goals rw [sJ_I, sI_I, up2_o (by omega)]
    all_goals first | assumption | exact et t' k' a1 a4 ak
  · rw [sJ_I, sI_I, up2_k hq]
theorem ChS.saidV {z : Int64} : ChS i X (X.sJ 56 40 z) := ⟨Ch.rf.sJ (by simp), fun _ _ _ _ _ _ _ _ _ h => h, fun _ _ => rfl⟩
theorem SlM.saidV {z : Int64} (h : SlM X i al ln d off ls tb) : SlM (X.sJ 56 40 z) i al ln d off ls tb := h
def Tk (D : Nat → Nat) (s c : Nat) : Nat → Nat
  | 0 => 0
  | k + 1 => Tk D s c k * 2 ^ s + D (c - (k + 1))
theorem Tk_sum {D : Nat → Nat} {s c : Nat} : ∀ k, k ≤ c → Tk D s c k * 2 ^ (s * (c - k)) + sumB D s (c - k) = sumB D s c
  | 0 => fun _ => by simp [Tk]
  | k + 1 => fun h => by
    have ih := Tk_sum (D := D) (s := s) (c := c) k (by omega)
    have e : c - k = (c - (k + 1)) + 1 := by omega
    rw [e] at ih
    have e2 : sumB D s (c - (k + 1) + 1) = sumB D s (c - (k + 1)) + D (c - (k + 1)) * 2 ^ (s * (c - (k + 1))) := rfl
    have e3 : 2 ^ (s * (c - (k + 1) + 1)) = 2 ^ s * 2 ^ (s * (c - (k + 1))) := by rw [← Nat.pow_add]; congr 1; rw [Nat.mul_add, Nat.mul_one, Nat.add_comm]
    rw [e2, e3] at ih
    show (Tk D s c k * 2 ^ s + D (c - (k + 1))) * 2 ^ (s * (c - (k + 1))) + _ = _
    rw [Nat.add_mul, Nat.mul_assoc]
    omega
theorem Tk_end {D : Nat → Nat} {s c : Nat} : Tk D s c c = sumB D s c := by
  have h := Tk_sum (D := D) (s := s) (c := c) c (Nat.le_refl _)
  simpa [sumB] using h
theorem Tk_lt {D : Nat → Nat} {s c : Nat} (hD : ∀ k, D k < 2 ^ s) : ∀ k, Tk D s c k < 2 ^ (s * k)
  | 0 => by simp [Tk]
  | k + 1 => by
    have h1 := Tk_lt (c := c) hD k
    have h2 := hD (c - (k + 1))
    have h3 : (Tk D s c k + 1) * 2 ^ s ≤ 2 ^ (s * k) * 2 ^ s := Nat.mul_le_mul_right _ (by omega)
    have h5 : 2 ^ (s * (k + 1)) = 2 ^ (s * k) * 2 ^ s := by rw [← Nat.pow_add]; congr 1
    rw [Nat.add_mul, Nat.one_mul] at h3
    show Tk D s c k * 2 ^ s + D (c - (k + 1)) < _
    rw [h5]
    omega
theorem l_or_add {x y s : Nat} (hy : y < 2 ^ s) (hs : s < 64) (hx : x * 2 ^ s + y < 2 ^ 64) : lN x <<< ((nI s).toInt64 &&& 63) ||| lN y = lN (x * 2 ^ s + y) := by
  have hp : 2 ^ s < 2 ^ 64 := wb_lt2 hs
  rw [wb_shl x hs, wb_or (by omega) (by omega)]
  congr 1
  have h := Nat.two_pow_add_eq_or_of_lt hy x
  rw [Nat.mul_comm, ← h]
theorem m_read {s : Nat} (hs : s = if f ≤ 2 then 1 else 16) (hi : i < 6) (hS : SlM X i al ln d off ls tb) (hV : SlV al ln d off ls tb) (hf : 1 ≤ f) (hf4 : f ≤ 4) (ha : a < 65536) (hc : c ≤ 16) (hac : a + c ≤ tn f) (hc2 : f ≤ 2 ∨ c ≤ 4) : fMo_read (b + 56) (nI (i + 1)) (nI f) (nI a) (nI c) (wX b X) = some (lN (sumB (fun k => tb f (a + k)) s c), wX b X) := by
  have htn : tn f ≤ 16 := by unfold tn; split <;> omega
  have hD : ∀ k, tb f (a + k) < 2 ^ s := fun k => by
    have := hV.2.2.2.2.2 f (a + k)
    rw [hs]
    split at this
    · next h => rw [if_pos h]; omega
    · next h => rw [if_neg h]; omega
  have hsc : s * c ≤ 64 := by
    rw [hs]
    split <;> omega
  have key := lp_traj (step := fMo_read_L9 (wX b X) (b + 56) (nI (i + 1)) (nI f) (nI a)) (r := lN (sumB (fun k => tb f (a + k)) s c)) (fun k => (lN (Tk (fun k => tb f (a + k)) s c k), nI (c - k) - 1)) c ?_ ?_ 1000 (by omega)
  · unfold fMo_read
    have key : lp (fMo_read_L9 (wX b X) (b + 56) (nI (i + 1)) (nI f) (nI a)) 1000 ((0 : Int64), nI c - (1 : Int32)) = _ := key
    rw [bs key]
  · intro k hk
    have hlt := Tk_lt (D := fun k => tb f (a + k)) (c := c) hD (k + 1)
    have hle : 2 ^ (s * (k + 1)) ≤ 2 ^ 64 := Nat.pow_le_pow_right (by decide) (Nat.le_trans (Nat.mul_le_mul_left _ (by omega)) hsc)
    have e1 : nI (c - k) - (1 : Int32) = nI (c - (k + 1)) := by
      have := pk_sub (a := c - k) (b := 1) (by omega)
      rw [show c - (k + 1) = c - k - 1 by omega]
      exact this
    have e2 : nI (c - (k + 1)) + (-1) = nI (c - (k + 1)) - 1 := (Int32.sub_eq_add_neg _ _).symm
    have hx := hS.2.2.2.2.2 f (a + (c - (k + 1))) hf hf4 (by omega)
    unfold fMo_read_L9
    dsimp only
    rw [e1, if_neg (nI_pos (by omega)), nI_add]
    have hf' : f = 1 ∨ f = 2 ∨ f = 3 ∨ f = 4 := by omega
    rcases hf' with rfl | rfl | rfl | rfl
    · have hs : s = 1 := hs
      subst hs
      have ei : (16 : Int32) * nI (i + 1) + nI (a + (c - (k + 1))) = nI (16 * (i + 1) + (a + (c - (k + 1)))) := m_idx 16 _ _
      have hac : a + c ≤ 16 := hac
      rw [if_neg (by decide), if_pos (by decide), bs mo_r6, Option.bind_some, ei, mo_a62, bs (ax_of (show 16 * (i + 1) + (a + (c - (k + 1))) < 112 by omega) (by decide) rfl)]
      have hx : X.I 62 (16 * (i + 1) + (a + (c - (k + 1)))) = _ := hx
      rw [hx, Option.bind_some, Option.bind_some, nI_l (by have := hD (c - (k + 1)); omega)]
      have := l_or_add (x := Tk (fun k => tb 1 (a + k)) 1 c k) (y := tb 1 (a + (c - (k + 1)))) (s := 1) (hD (c - (k + 1))) (by decide) (Nat.lt_of_lt_of_le hlt hle)
      rw [show (1 : Int32).toInt64 = (nI 1).toInt64 from rfl, this, e2]
      rfl
    · have hs : s = 1 := hs
      subst hs
      have ei : (16 : Int32) * nI (i + 1) + nI (a + (c - (k + 1))) = nI (16 * (i + 1) + (a + (c - (k + 1)))) := m_idx 16 _ _
      have hac : a + c ≤ 16 := hac
      rw [if_neg (by decide), if_neg (by decide), bs mo_r7, Option.bind_some, ei, mo_a63, bs (ax_of (show 16 * (i + 1) + (a + (c - (k + 1))) < 112 by omega) (by decide) rfl)]
      have hx : X.I 63 (16 * (i + 1) + (a + (c - (k + 1)))) = _ := hx
      rw [hx, Option.bind_some, Option.bind_some, nI_l (by have := hD (c - (k + 1)); omega)]
      have := l_or_add (x := Tk (fun k => tb 2 (a + k)) 1 c k) (y := tb 2 (a + (c - (k + 1)))) (s := 1) (hD (c - (k + 1))) (by decide) (Nat.lt_of_lt_of_le hlt hle)
      rw [show (1 : Int32).toInt64 = (nI 1).toInt64 from rfl, this, e2]
      rfl
    · have hs : s = 16 := hs
      subst hs
      have ei : (8 : Int32) * nI (i + 1) + nI (a + (c - (k + 1))) = nI (8 * (i + 1) + (a + (c - (k + 1)))) := m_idx 8 _ _
      have hac : a + c ≤ 8 := hac
      rw [if_pos (by decide), if_pos (by decide), bs mo_r8, Option.bind_some, ei, mo_a64, bs (ax_of (show 8 * (i + 1) + (a + (c - (k + 1))) < 56 by omega) (by decide) rfl)]
      have hx : X.I 64 (8 * (i + 1) + (a + (c - (k + 1)))) = _ := hx
      rw [hx, Option.bind_some, Option.bind_some, nI_l (by have := hD (c - (k + 1)); omega)]
      have := l_or_add (x := Tk (fun k => tb 3 (a + k)) 16 c k) (y := tb 3 (a + (c - (k + 1)))) (s := 16) (hD (c - (k + 1))) (by decide) (Nat.lt_of_lt_of_le hlt hle)
      rw [show (16 : Int32).toInt64 = (nI 16).toInt64 from rfl, this, e2]
      rfl
    · have hs : s = 16 := hs
      subst hs
      have ei : (8 : Int32) * nI (i + 1) + nI (a + (c - (k + 1))) = nI (8 * (i + 1) + (a + (c - (k + 1)))) := m_idx 8 _ _
      have hac : a + c ≤ 8 := hac
      rw [if_pos (by decide), if_neg (by decide), bs mo_r9, Option.bind_some, ei, mo_a65, bs (ax_of (show 8 * (i + 1) + (a + (c - (k + 1))) < 56 by omega) (by decide) rfl)]
      have hx : X.I 65 (8 * (i + 1) + (a + (c - (k + 1)))) = _ := hx
      rw [hx, Option.bind_some, Option.bind_some, nI_l (by have := hD (c - (k + 1)); omega)]
      have := l_or_add (x := Tk (fun k => tb 4 (a + k)) 16 c k) (y := tb 4 (a + (c - (k + 1)))) (s := 16) (hD (c - (k + 1))) (by decide) (Nat.lt_of_lt_of_le hlt hle)
      rw [show (16 : Int32).toInt64 = (nI 16).toInt64 from rfl, this, e2]
      rfl
  · have h := Tk_end (D := fun k => tb f (a + k)) (s := s) (c := c)
    unfold fMo_read_L9
    dsimp only
    rw [Nat.sub_self, if_pos (by decide), h]
end AM
