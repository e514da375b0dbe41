/-! The answer's frame, the program's side. -/
def sumB (D : Nat → Nat) (s : Nat) : Nat → Nat
  | 0 => 0
  | n + 1 => sumB D s n + D n * 2 ^ (s * n)
theorem sumB_lt {D : Nat → Nat} {s : Nat} (hD : ∀ k, D k < 2 ^ s) : ∀ n, sumB D s n < 2 ^ (s * n)
  | 0 => by simp [sumB]
  | n + 1 => by
    have h1 := sumB_lt hD n
    have h2 := hD n
    have h3 : D n * 2 ^ (s * n) ≤ (2 ^ s - 1) * 2 ^ (s * n) := Nat.mul_le_mul_right _ (by omega)
    have h4 : (2 ^ s - 1) * 2 ^ (s * n) = 2 ^ s * 2 ^ (s * n) - 2 ^ (s * n) := by rw [Nat.sub_mul, Nat.one_mul]
    have h5 : 2 ^ (s * (n + 1)) = 2 ^ s * 2 ^ (s * n) := by rw [← Nat.pow_add]; congr 1; rw [Nat.mul_add, Nat.mul_one, Nat.add_comm]
    have h6 : 2 ^ (s * n) ≤ 2 ^ s * 2 ^ (s * n) := Nat.le_mul_of_pos_left _ (Nat.two_pow_pos s)
    show sumB D s n + D n * 2 ^ (s * n) < _
    rw [h5]
    omega
theorem sumB_dig {D : Nat → Nat} {s : Nat} (hD : ∀ k, D k < 2 ^ s) {j : Nat} : ∀ n, j < n → sumB D s n / 2 ^ (s * j) % 2 ^ s = D j
  | 0 => fun h => by omega
  | n + 1 => fun h => by
    show (sumB D s n + D n * 2 ^ (s * n)) / 2 ^ (s * j) % 2 ^ s = D j
    by_cases e : j = n
    · subst e
      rw [Nat.add_mul_div_right _ _ (Nat.two_pow_pos _), Nat.div_eq_of_lt (sumB_lt hD j), Nat.zero_add, Nat.mod_eq_of_lt (hD j)]
    · have hj : j < n := by omega
      have e1 : D n * 2 ^ (s * n) = (D n * 2 ^ (s * (n - j - 1)) * 2 ^ s) * 2 ^ (s * j) := by
        rw [Nat.mul_assoc, Nat.mul_assoc, ← Nat.pow_add, ← Nat.pow_add]
        congr 2
        rw [← Nat.mul_one s, Nat.mul_one s, show n = (n - j - 1) + (1 + j) by omega, Nat.mul_add, Nat.mul_add, Nat.mul_one]
        congr 1
        · congr 1; omega
      rw [e1, Nat.add_mul_div_right _ _ (Nat.two_pow_pos _), Nat.add_mul_mod_self_right]
      exact sumB_dig hD n hj
theorem bN_last {v c j : Nat} (hj : 8 * j < c) : bN v c j = v / 2 ^ (8 * j) % 2 ^ (min 8 (c - 8 * j)) := by
  have e : v % 2 ^ c / 2 ^ (8 * j) = v / 2 ^ (8 * j) % 2 ^ (c - 8 * j) := by
    rw [wb_pw (show 8 * j ≤ c by omega), Nat.mod_mul_right_div_self]
  unfold bN
  rw [e, show (256 : Nat) = 2 ^ 8 by rfl]
  by_cases h : c - 8 * j ≤ 8
  · rw [Nat.min_eq_right h]
    exact Nat.mod_eq_of_lt (Nat.lt_of_lt_of_le (Nat.mod_lt _ (Nat.two_pow_pos _)) (Nat.pow_le_pow_right (by decide) h))
  · rw [Nat.min_eq_left (by omega), Nat.mod_mod_of_dvd _ (Nat.pow_dvd_pow 2 (by omega))]
theorem n_or_shl {a x i : Nat} (ha : a < 2 ^ i) (hx : x < 2) (hi : i < 31) : nI a ||| (nI x <<< (nI i &&& 31)) = nI (a + 2 ^ i * x) := by
  have hx2 : x = 0 ∨ x = 1 := by omega
  rcases hx2 with rfl | rfl
  · have e : (nI 0 <<< (nI i &&& 31)) = nI 0 := by
      have h : ∀ i, i < 31 → (nI 0 <<< (nI i &&& 31)) = nI 0 := by decide +kernel
      exact h i hi
    rw [e, nz_or, Nat.or_zero, Nat.mul_zero, Nat.add_zero]
  · rw [Nat.mul_one]
    exact n_or_pow ha hi
def svN (f a c v : Nat) (tb : Nat → Nat → Nat) : Nat :=
  if f = 1 ∨ f = 2 then sumB (fun k => tb f (a + k)) 1 c
  else if f = 3 ∨ f = 4 then sumB (fun k => tb f (a + k)) 16 c
  else if f = 15 ∨ f = 16 then c
  else if f = 22 then wN v 0 + 65536 * wN v 1
  else wN v 0
def ansL (u f a c v r sv : Nat) : List Int32 :=
  if r ≠ 0 then sumd [nI u, nI (f + 128), nI r]
  else if f = 1 ∨ f = 2 then sumd ([nI u, nI f] ++ bitsL sv c)
  else if f = 3 ∨ f = 4 then sumd ([nI u, nI f] ++ wordsL sv c)
  else if f = 15 ∨ f = 16 then sumd ([nI u, nI f] ++ (wd (nI a) ++ wd (nI c)))
  else reqL u f a c v
section AN
variable {b : Nat} {X : Xs} {i o p u f a c v al ln d off ls : Nat} {tb : Nat → Nat → Nat} {L : List Int32}
theorem SlC.ch {ps : List Nat} {Y : Xs} (h : SlC X i al ln d off ls tb) (hc : Ch ps X Y) (hn : ∀ t, t ≤ 4 → 2 + 5 * i + t ∉ ps) : SlC Y i al ln d off ls tb := by
  obtain ⟨e0, e5, e6, e7, e8, et⟩ := h
  have h0 := (hc.2.2 (2 + 5 * i) (hn 0 (by decide))).1
  refine ⟨by rw [h0]; exact e0, by rw [h0]; exact e5, by rw [h0]; exact e6, by rw [h0]; exact e7, by rw [h0]; exact e8, fun t k a1 a4 ak => ?_⟩
  rw [(hc.2.2 _ (hn t a4)).1]
  exact et t k a1 a4 ak
theorem fr_ge {p : Nat} (h : isFr p) : 35 ≤ p ∧ p + 1 ≤ 47 := by
  rcases h with rfl | rfl | rfl | rfl <;> decide
theorem sl_fr (hi : i < 6) (hF : isFr p) : ∀ t, t ≤ 4 → 2 + 5 * i + t ∉ [p, p + 1] := by
  intro t ht
  have := fr_ge hF
  simp
  omega
theorem c_tableOf (hi : i < 6) (hf : 1 ≤ f) (hf4 : f ≤ 4) : fSl_tableOf (b + (2 + 5 * i)) (nI f) (wX b X) = some (some (b + (2 + 5 * i + f)), wX b X) := by
  have hp := isSl_of hi
  unfold fSl_tableOf
  have h : f = 1 ∨ f = 2 ∨ f = 3 ∨ f = 4 := by omega
  rcases h with rfl | rfl | rfl | rfl
  · rw [if_pos (by decide), bs (Sl_r1 hp)]
  · rw [if_neg (by decide), if_pos (by decide), bs (Sl_r2 hp)]
  · rw [if_neg (by decide), if_neg (by decide), if_pos (by decide), bs (Sl_r3 hp)]
  · rw [if_neg (by decide), if_neg (by decide), if_neg (by decide), bs (Sl_r4 hp)]
theorem c_pack (hi : i < 6) (hV : SlV al ln d off ls tb) (hS : SlC X i al ln d off ls tb) (h : JobN X o u f a c v) (hf : f = 1 ∨ f = 2) (hac : a + c ≤ 16) {j : Nat} (hj : 8 * j < c) : lp (fSl_writeBits_L47 (b + o) (nI j) (some (b + (2 + 5 * i + f)))) 1000 ((0 : Int32), (0 : Int32), wX b X) = some (nI (bN (sumB (fun k => tb f (a + k)) 1 c) c j), wX b X) := by
  have hp := isSl_of hi
  have hD : ∀ k, tb f (a + k) < 2 ^ 1 := fun k => by
    have := hV.2.2.2.2.2 f (a + k)
    rw [if_pos (by omega)] at this
    omega
  generalize hVV : sumB (fun k => tb f (a + k)) 1 c = V
  have hdig : ∀ k, k < c → V / 2 ^ k % 2 = tb f (a + k) := fun k hk => by
    have := sumB_dig (D := fun k => tb f (a + k)) hD c hk
    rw [hVV, Nat.one_mul] at this
    exact this
  rw [bN_last hj]
  have key := lp_traj (step := fSl_writeBits_L47 (b + o) (nI j) (some (b + (2 + 5 * i + f)))) (r := (nI (V / 2 ^ (8 * j) % 2 ^ (min 8 (c - 8 * j))), wX b X)) (fun k => (nI (V / 2 ^ (8 * j) % 2 ^ k), nI k, wX b X)) (min 8 (c - 8 * j)) ?_ ?_ 1000 (by omega)
  · simpa [Nat.mod_one, nI_0] using key
  · intro k hk
    have hk8 : k < 8 := by omega
    have hkc : 8 * j + k < c := by omega
    have e1 : (8 : Int32) * nI j = nI (8 * j) := pk_mul 8 j
    have e2 : V / 2 ^ (8 * j + k) = V / 2 ^ (8 * j) / 2 ^ k := by rw [Nat.pow_add, Nat.div_div_eq_div_mul]
    have e3 := div_bit (V / 2 ^ (8 * j)) k
    rw [← e2, hdig _ hkc] at e3
    have hlt : V / 2 ^ (8 * j) % 2 ^ k < 2 ^ k := Nat.mod_lt _ (Nat.two_pow_pos _)
    have hx : tb f (a + (8 * j + k)) < 2 := hD _
    have htn : tn f = 16 := by rcases hf with rfl | rfl <;> rfl
    have g := sl_get (b := b) (X := X) hp (t := f) (k := a + 8 * j + k) (by omega) (by omega) (by rw [htn]; omega)
    rw [hS.2.2.2.2.2 f (a + 8 * j + k) (by omega) (by omega) (by rw [htn]; omega)] at g
    unfold fSl_writeBits_L47
    dsimp only
    rw [if_neg (show ¬ (8 : Int32) ≤ nI k from nI_ge (b := 8) hk8 (by decide)), bs h.g4, e1, nI_add, if_neg (nI_ge hkc (by omega)), bs h.g3, Option.bind_some, nI_add, nI_add, bs g]
    dsimp only
    rw [n_or_shl hlt (by rw [Nat.add_assoc]; exact hx) (by omega), nI_1, e3, Nat.add_assoc]
  · unfold fSl_writeBits_L47
    dsimp only
    by_cases h8 : c - 8 * j ≤ 8
    · rw [Nat.min_eq_right h8]
      have e1 : (8 : Int32) * nI j = nI (8 * j) := pk_mul 8 j
      rw [bs h.g4, e1, nI_add, if_pos (nI_le (show c ≤ 8 * j + (c - 8 * j) by omega) (by omega))]
      split <;> rfl
    · rw [Nat.min_eq_left (by omega), if_pos (show (8 : Int32) ≤ nI 8 by decide)]
theorem c_writeBits (hi : i < 6) (hV : SlV al ln d off ls tb) (hS : SlC X i al ln d off ls tb) (h : JobN X o u f a c v) (hf : f = 1 ∨ f = 2) (hac : a + c ≤ 16) (hF : isFr p) : ∃ Y, fSl_writeBits (b + (2 + 5 * i)) (b + o) (b + p) (wX b X) = some (wX b Y) ∧ FrL Y p (sumd ([nI u, nI f] ++ bitsL (sumB (fun k => tb f (a + k)) 1 c) c)) ∧ Ch [p, p + 1] X Y := by
  have hp := isSl_of hi
  have hu := h.2.2.1
  have hc := h.2.2.2.2.2.2.1
  have hnp := jo_fr h.1 hF
  have hns := sl_fr hi hF
  obtain ⟨qs, gs⟩ := Sl_o (b := b) (X := X) hp
  obtain ⟨qp, gp⟩ := Fr_o (b := b) (X := X) hF
  generalize hVV : sumB (fun k => tb f (a + k)) 1 c = V
  obtain ⟨Y, e1, f1, c1⟩ := s_begin (b := b) (X := X) hF (nI u) (nI f)
  rw [b8_id (B8_nI (by omega)), b8_id (B8_nI (by omega))] at f1
  have h1 := h.ch c1 hnp
  obtain ⟨qj1, gj1, -⟩ := jo_o (b := b) h1.1
  obtain ⟨qp1, gp1⟩ := Fr_o (b := b) (X := Y) hF
  obtain ⟨Y2, e2, f2, c2⟩ := s_addByte (b := b) hF f1 (by simp) (nI ((c + 7) / 8))
  rw [b8_id (B8_nI (by omega))] at f2
  have key := lp_inv (step := fSl_writeBits_L32 (b + o) (b + p) (some (b + (2 + 5 * i + f)))) (Q := fun W => ∃ Z, W = wX b Z ∧ FrL Z p ([nI u, nI f] ++ bitsL V c) ∧ Ch [p, p + 1] X Z) (fun k q => ∃ Z, q = (nI k, wX b Z) ∧ FrL Z p ([nI u, nI f] ++ nI ((c + 7) / 8) :: (List.range k).map (fun j => nI (bN V c j))) ∧ Ch [p, p + 1] X Z) ((c + 7) / 8) ?_ ?_ 1000 ((0 : Int32), wX b Y2) (by omega) ⟨_, rfl, by simpa using f2, c1.tr c2⟩
  · obtain ⟨W, k1, Z, rfl, k2, k3⟩ := key
    obtain ⟨Z', a1, a2, a3⟩ := s_addSumd (b := b) hF k2 (by simp [bits_len]; omega)
    obtain ⟨qz, gz⟩ := Fr_o (b := b) (X := Z) hF
    refine ⟨Z', ?_, a2, k3.tr a3⟩
    unfold fSl_writeBits
    rw [bs h.g2, bs gs, bs (c_tableOf hi (by omega) (by omega))]
    dsimp only
    rw [bs h.g1, bs h.g2, bs gp, bs e1, bs gj1, bs (s_bitBytes h1)]
    dsimp only
    rw [bs gp1, bs e2, bs k1, bs gz, bs a1]
  · rintro k q hk ⟨Z, rfl, i1, i2⟩
    have h' := h.ch i2 hnp
    have hS' := hS.ch i2 hns
    obtain ⟨qj, gj, -⟩ := jo_o (b := b) h'.1
    obtain ⟨qz, gz⟩ := Fr_o (b := b) (X := Z) hF
    obtain ⟨Z2, e3, f3, c3⟩ := s_addByte (b := b) hF i1 (by simp; omega) (nI (bN V c k))
    rw [b8_id (B8_nI (bN_lt _ _ _))] at f3
    refine ⟨(nI (k + 1), wX b Z2), ?_, Z2, rfl, ?_, i2.tr c3⟩
    · have hpk := c_pack (b := b) hi hV hS' h' hf hac (j := k) (by omega)
      rw [hVV] at hpk
      unfold fSl_writeBits_L32
      dsimp only
      rw [bs gj, bs (s_bitBytes h')]
      dsimp only
      rw [if_neg (nI_ge hk (by omega)), bs hpk]
      dsimp only
      rw [bs gz, bs e3, nI_1]
    · rw [range_map_succ]
      simpa using f3
  · rintro q ⟨Z, rfl, i1, i2⟩
    have h' := h.ch i2 hnp
    obtain ⟨qj, gj, -⟩ := jo_o (b := b) h'.1
    refine ⟨_, ?_, Z, rfl, i1, i2⟩
    unfold fSl_writeBits_L32
    dsimp only
    rw [bs gj, bs (s_bitBytes h')]
    dsimp only
    rw [if_pos (nI_le (Nat.le_refl _) (by omega))]
end AN
