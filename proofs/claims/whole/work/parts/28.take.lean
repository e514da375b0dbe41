/-! What a request reads out of an answer, the program's side. -/
theorem wd_join {n : Nat} (h : n < 65536) : ((((nI n) >>> ((8 : Int32) &&& 31)) &&& (255 : Int32)) <<< ((8 : Int32) &&& 31)) ||| (nI n &&& (255 : Int32)) = nI n := by
  rw [n_shr8 (by omega), n_and255 (by omega), n_and255 (by omega), Nat.mod_eq_of_lt (show n / 256 < 256 by omega)]
  have e1 := pk_shlN (n := n / 256) ((8 : Int32) &&& 31) 8 (by decide) (by omega)
  rw [e1, nz_or]
  congr 1
  have h2 := Nat.two_pow_add_eq_or_of_lt (i := 8) (b := n % 256) (by omega) (n / 256)
  rw [Nat.mul_comm, ← h2]
  omega
theorem wd_0 (x : Int32) : (wd x).getD 0 0 = (x >>> ((8 : Int32) &&& 31)) &&& 255 := rfl
theorem wd_1 (x : Int32) : (wd x).getD 1 0 = x &&& 255 := rfl
theorem gd_app {L M : List Int32} {k : Nat} : (L ++ M).getD (L.length + k) 0 = M.getD k 0 := by
  simp [List.getD_eq_getElem?_getD, List.getElem?_append_right]
theorem gd_appL {L M : List Int32} {k : Nat} (h : k < L.length) : (L ++ M).getD k 0 = L.getD k 0 := by
  simp [List.getD_eq_getElem?_getD, List.getElem?_append_left h]
/-- the word at place k of a list that has wd x there -/
def wAt (L : List Int32) (k : Nat) : Int32 := (L.getD k 0 <<< ((8 : Int32) &&& 31)) ||| L.getD (k + 1) 0
theorem wAt_mid {A B : List Int32} {n : Nat} (h : n < 65536) : wAt (A ++ (wd (nI n) ++ B)) A.length = nI n := by
  unfold wAt
  have e0 : (A ++ (wd (nI n) ++ B)).getD A.length 0 = (wd (nI n)).getD 0 0 := by
    have := gd_app (L := A) (M := wd (nI n) ++ B) (k := 0)
    rw [Nat.add_zero] at this
    rw [this, gd_appL (by rw [wd_len]; decide)]
  have e1 : (A ++ (wd (nI n) ++ B)).getD (A.length + 1) 0 = (wd (nI n)).getD 1 0 := by
    rw [gd_app, gd_appL (by rw [wd_len]; decide)]
  rw [e0, e1, wd_0, wd_1]
  exact wd_join h
theorem fm_split {α : Type} (g : Nat → List α) {k n : Nat} (h : k < n) : ∃ B, (List.range n).flatMap g = (List.range k).flatMap g ++ (g k ++ B) := by
  induction n with
  | zero => omega
  | succ n ih =>
    rw [range_fm_succ]
    by_cases e : k = n
    · subst e
      exact ⟨[], by simp⟩
    · obtain ⟨B, hB⟩ := ih (by omega)
      exact ⟨B ++ g n, by rw [hB]; simp⟩
def svOK (f c v sv : Nat) : Prop := sv < 2 ^ 64 ∧ ((f = 1 ∨ f = 2) → sv < 2 ^ c) ∧ ((f = 3 ∨ f = 4) → sv < 2 ^ (16 * c) ∧ c ≤ 4) ∧ ((f = 15 ∨ f = 16) → sv = c) ∧ (f = 22 → sv = wN v 0 + 65536 * wN v 1) ∧ ((f = 5 ∨ f = 6 ∨ f = 8) → sv = wN v 0)
theorem svN_ok {f a c v al ln d off ls : Nat} {tb : Nat → Nat → Nat} (hV : SlV al ln d off ls tb) (hr : refN f a c v = 0) : svOK f c v (svN f a c v tb) := by
  have h0 := wN_lt v 0
  have h1 := wN_lt v 1
  have hk := ref0 hr
  have hD1 : (f = 1 ∨ f = 2) → ∀ k, tb f (a + k) < 2 ^ 1 := fun h k => by
    have := hV.2.2.2.2.2 f (a + k)
    rw [if_pos (by omega)] at this
    omega
  have hD2 : (f = 3 ∨ f = 4) → ∀ k, tb f (a + k) < 2 ^ 16 := fun h k => by
    have := hV.2.2.2.2.2 f (a + k)
    rw [if_neg (by omega)] at this
    omega
  have hb : (f = 1 ∨ f = 2) → svN f a c v tb < 2 ^ c := fun h => by
    have := sumB_lt (hD1 h) c
    unfold svN
    rw [if_pos h]
    rw [Nat.one_mul] at this
    exact this
  have hw : (f = 3 ∨ f = 4) → svN f a c v tb < 2 ^ (16 * c) ∧ c ≤ 4 := fun h => by
    have := sumB_lt (hD2 h) c
    unfold svN
    rw [if_neg (by omega), if_pos h]
    exact ⟨this, by omega⟩
  refine ⟨?_, hb, hw, fun h => ?_, fun h => ?_, fun h => ?_⟩
  · by_cases k1 : f = 1 ∨ f = 2
    · exact Nat.lt_of_lt_of_le (hb k1) (Nat.pow_le_pow_right (by decide) (by omega))
    · by_cases k2 : f = 3 ∨ f = 4
      · exact Nat.lt_of_lt_of_le (hw k2).1 (Nat.pow_le_pow_right (by decide) (by have := (hw k2).2; omega))
      · unfold svN
        rw [if_neg k1, if_neg k2]
        repeat' split
        all_goals omega
  · unfold svN
    rw [if_neg (by omega), if_neg (by omega), if_pos h]
  · unfold svN
    rw [if_neg (by omega), if_neg (by omega), if_neg (by omega), if_pos h]
  · unfold svN
    rw [if_neg (by omega), if_neg (by omega), if_neg (by omega), if_neg (by omega)]
section TK
variable {b : Nat} {X : Xs} {o p u f a c v sv : Nat} {L : List Int32}
theorem s_wordAt' (hF : isFr p) (hL : FrL X p L) (k : Nat) (hk : k + 1 < L.length) : fFr_wordAt (b + p) (nI k) (wX b X) = some (wAt L k, wX b X) := s_wordAt hF hL k hk
theorem s_byteAt' (hF : isFr p) (hL : FrL X p L) (k : Nat) (hk : k < L.length) : fFr_byteAt (b + p) (nI k) (wX b X) = some (L.getD k 0, wX b X) := by
  have hl := hL.2.1
  rw [s_byteAt hF hL k (by omega), if_pos hk]
theorem bN_sum2 {c : Nat} (hc : c ≤ 16) (hs : sv < 2 ^ c) {k : Nat} (hk : k ≤ (c + 7) / 8) : ∃ w, w = sv % 2 ^ (8 * k) ∧ (k < (c + 7) / 8 → w + bN sv c k * 2 ^ (8 * k) = sv % 2 ^ (8 * (k + 1))) := by
  refine ⟨_, rfl, fun h => ?_⟩
  unfold bN
  rw [Nat.mod_eq_of_lt hs, show 8 * (k + 1) = 8 * k + 8 by omega, Nat.pow_add, Nat.mod_mul, Nat.mul_comm (2 ^ (8 * k)), show (256 : Nat) = 2 ^ 8 from rfl]
theorem c_readBits (h : isRe X o) (hj : JobN X o u f a c v) (hF : isFr p) (hs : sv < 2 ^ c) (hL : FrL X p (sumd ([nI u, nI f] ++ bitsL sv c))) : fRe_readBits (b + o) (b + p) (wX b X) = some (lN sv, wX b X) := by
  have hc := hj.2.2.2.2.2.2.1
  obtain ⟨qr, gr⟩ := re_o (b := b) h
  obtain ⟨qp, gp⟩ := Fr_o (b := b) (X := X) hF
  have key := lp_traj (step := fRe_readBits_L5 (b + o) (b + p)) (r := (lN sv, wX b X)) (fun k => (lN (sv % 2 ^ (8 * k)), nI k, wX b X)) ((c + 7) / 8) ?_ ?_ 1000 (by omega)
  · have key : lp (fRe_readBits_L5 (b + o) (b + p)) 1000 ((0 : Int64), (0 : Int32), wX b X) = some (lN sv, wX b X) := by
      have e : (lN (sv % 2 ^ (0 : Nat)), nI 0, wX b X) = ((0 : Int64), (0 : Int32), wX b X) := by rw [Nat.pow_zero, Nat.mod_one]; rfl
      rw [← e]
      exact key
    unfold fRe_readBits
    rw [bs key]
  · intro k hk
    have hlen : ([nI u, nI f] ++ bitsL sv c).length = 3 + (c + 7) / 8 := by rw [List.length_append, bits_len]; simp; omega
    have hg : (sumd ([nI u, nI f] ++ bitsL sv c)).getD (3 + k) 0 = nI (bN sv c k) := by
      unfold sumd
      rw [gd_appL (by rw [hlen]; omega)]
      have : ([nI u, nI f] ++ bitsL sv c) = [nI u, nI f, nI ((c + 7) / 8)] ++ (List.range ((c + 7) / 8)).map (fun j => nI (bN sv c j)) := rfl
      rw [this]
      have := gd_app (L := [nI u, nI f, nI ((c + 7) / 8)]) (M := (List.range ((c + 7) / 8)).map (fun j => nI (bN sv c j))) (k := k)
      rw [show 3 + k = [nI u, nI f, nI ((c + 7) / 8)].length + k from rfl, this]
      simp [List.getD_eq_getElem?_getD, hk]
    have hb := s_byteAt' (b := b) hF hL (3 + k) (by unfold sumd; rw [List.length_append, hlen]; omega)
    rw [hg] at hb
    have e3 : (3 : Int32) + nI k = nI (3 + k) := nI_add 3 k
    have e8 : (8 : Int32) * nI k = nI (8 * k) := pk_mul 8 k
    have hbl := bN_lt sv c k
    obtain ⟨w, hw1, hw2⟩ := bN_sum2 hc hs (Nat.le_of_lt hk)
    have hw2 := hw2 hk
    rw [hw1] at hw2
    have hm : sv % 2 ^ (8 * k) < 2 ^ (8 * k) := Nat.mod_lt _ (Nat.two_pow_pos _)
    have h64 : sv % 2 ^ (8 * (k + 1)) < 2 ^ 64 := Nat.lt_of_lt_of_le (Nat.mod_lt _ (Nat.two_pow_pos _)) (Nat.pow_le_pow_right (by decide) (by omega))
    unfold fRe_readBits_L5
    dsimp only
    rw [bs gr, bs (s_bitBytes hj)]
    dsimp only
    rw [if_neg (nI_ge hk (by omega)), bs gp, e3, bs hb]
    dsimp only
    rw [nI_l (by omega), e8, wb_shl _ (by omega), wb_or (by omega) (by omega), nI_1]
    have ho := Nat.two_pow_add_eq_or_of_lt hm (bN sv c k)
    have hor : sv % 2 ^ (8 * k) ||| bN sv c k * 2 ^ (8 * k) = sv % 2 ^ (8 * k) + bN sv c k * 2 ^ (8 * k) := by
      rw [Nat.mul_comm (bN sv c k), Nat.or_comm, ← ho, Nat.add_comm]
    rw [hor, hw2]
  · unfold fRe_readBits_L5
    dsimp only
    rw [bs gr, bs (s_bitBytes hj)]
    dsimp only
    rw [if_pos (nI_le (Nat.le_refl _) (by omega)), Nat.mod_eq_of_lt (Nat.lt_of_lt_of_le hs (Nat.pow_le_pow_right (by decide) (by omega)))]
theorem c_readWords (h : isRe X o) (hj : JobN X o u f a c v) (hF : isFr p) (hc4 : c ≤ 4) (hs : sv < 2 ^ (16 * c)) (hL : FrL X p (sumd ([nI u, nI f] ++ wordsL sv c))) : fRe_readWords (b + o) (b + p) (wX b X) = some (lN sv, wX b X) := by
  obtain ⟨qp, gp⟩ := Fr_o (b := b) (X := X) hF
  have g4 : gI (wX b X) (b + o) [4] 4 = some (nI c) := by rw [re_i4 h, hj.2.1.2.2.2.1]
  have key := lp_traj (step := fRe_readWords_L5 (b + o) (b + p)) (r := (lN sv, wX b X)) (fun k => (lN (sv % 2 ^ (16 * k)), nI k, wX b X)) c ?_ ?_ 1000 (by omega)
  · have key : lp (fRe_readWords_L5 (b + o) (b + p)) 1000 ((0 : Int64), (0 : Int32), wX b X) = some (lN sv, wX b X) := by
      have e : (lN (sv % 2 ^ (0 : Nat)), nI 0, wX b X) = ((0 : Int64), (0 : Int32), wX b X) := by rw [Nat.pow_zero, Nat.mod_one]; rfl
      rw [← e]
      exact key
    unfold fRe_readWords
    rw [bs key]
  · intro k hk
    have hlk : ∀ n, ((List.range n).flatMap (fun k => wd (nI (wN sv k)))).length = 2 * n := by
      intro n
      have := words_len sv n
      simp [wordsL] at this
      simp only [List.length_flatMap]
      omega
    have hlen : ([nI u, nI f] ++ wordsL sv c).length = 3 + 2 * c := by rw [List.length_append, words_len]; simp; omega
    have hg : wAt (sumd ([nI u, nI f] ++ wordsL sv c)) (3 + 2 * k) = nI (wN sv k) := by
      obtain ⟨B, hB⟩ := fm_split (fun k => wd (nI (wN sv k))) hk
      have e : sumd ([nI u, nI f] ++ wordsL sv c) = ([nI u, nI f, nI (2 * c)] ++ (List.range k).flatMap (fun k => wd (nI (wN sv k)))) ++ (wd (nI (wN sv k)) ++ (B ++ [crcL ([nI u, nI f] ++ wordsL sv c) &&& 255, (crcL ([nI u, nI f] ++ wordsL sv c) >>> ((8 : Int32) &&& 31)) &&& 255])) := by
        have e2 : [nI u, nI f] ++ wordsL sv c = [nI u, nI f, nI (2 * c)] ++ (List.range c).flatMap (fun k => wd (nI (wN sv k))) := rfl
        unfold sumd
        generalize crcL ([nI u, nI f] ++ wordsL sv c) = z
        rw [e2, hB]
        simp only [List.append_assoc]
      rw [e]
      have hl3 : ([nI u, nI f, nI (2 * c)] ++ (List.range k).flatMap (fun k => wd (nI (wN sv k)))).length = 3 + 2 * k := by
        rw [List.length_append, hlk]; rfl
      rw [← hl3]
      exact wAt_mid (wN_lt _ _)
    have hb := s_wordAt' (b := b) hF hL (3 + 2 * k) (by unfold sumd; rw [List.length_append, hlen]; simp; omega)
    rw [hg] at hb
    have e3 : (3 : Int32) + ((2 : Int32) * nI k) = nI (3 + 2 * k) := by
      rw [show (2 : Int32) * nI k = nI (2 * k) from pk_mul 2 k]
      exact nI_add 3 _
    have e16 : (16 : Int32) * nI k = nI (16 * k) := pk_mul 16 k
    have hwl := wN_lt sv k
    have hw2 : sv % 2 ^ (16 * k) + wN sv k * 2 ^ (16 * k) = sv % 2 ^ (16 * (k + 1)) := by
      unfold wN
      rw [Nat.mod_eq_of_lt (show k < 4 by omega), show 16 * (k + 1) = 16 * k + 16 by omega, Nat.pow_add, Nat.mod_mul, Nat.mul_comm (2 ^ (16 * k)), show (65536 : Nat) = 2 ^ 16 from rfl]
    have hm : sv % 2 ^ (16 * k) < 2 ^ (16 * k) := Nat.mod_lt _ (Nat.two_pow_pos _)
    have h64 : sv % 2 ^ (16 * (k + 1)) < 2 ^ 64 := Nat.lt_of_lt_of_le (Nat.mod_lt _ (Nat.two_pow_pos _)) (Nat.pow_le_pow_right (by decide) (by omega))
    unfold fRe_readWords_L5
    dsimp only
    rw [bs g4, if_neg (nI_ge hk (by omega)), bs gp, e3, bs hb]
    dsimp only
    rw [nI_l (by omega), e16, wb_shl _ (by omega), wb_or (by omega) (by omega), nI_1]
    have ho := Nat.two_pow_add_eq_or_of_lt hm (wN sv k)
    have hor : sv % 2 ^ (16 * k) ||| wN sv k * 2 ^ (16 * k) = sv % 2 ^ (16 * k) + wN sv k * 2 ^ (16 * k) := by
      rw [Nat.mul_comm (wN sv k), Nat.or_comm, ← ho, Nat.add_comm]
    rw [hor, hw2]
  · unfold fRe_readWords_L5
    dsimp only
    rw [bs g4, if_pos (nI_le (Nat.le_refl _) (by omega)), Nat.mod_eq_of_lt hs]
end TK
