/-! A job's words as naturals; what it writes; what is wrong with it. -/
def JobN (X : Xs) (o u f a c v : Nat) : Prop := isJo X o ∧ (X.I o 1 = nI u ∧ X.I o 2 = nI f ∧ X.I o 3 = nI a ∧ X.I o 4 = nI c ∧ X.J o 5 = lN v) ∧ u < 248 ∧ 1 ≤ f ∧ f < 128 ∧ a < 65536 ∧ c ≤ 16 ∧ v < 2 ^ 64
theorem JobN.ch {ps : List Nat} {X Y : Xs} {o u f a c v : Nat} (h : JobN X o u f a c v) (hc : Ch ps X Y) (ho : o ∉ ps) : JobN Y o u f a c v := by
  obtain ⟨h1, h2, h3⟩ := h
  refine ⟨hc.jo h1, ?_, h3⟩
  obtain ⟨e1, -, e3⟩ := hc.2.2 o ho
  rw [e1, e3]
  exact h2
theorem fr_lt {o : Nat} (h : isFr o) : o < 92 ∧ o + 1 < 92 := by
  rcases h with rfl | rfl | rfl | rfl <;> decide
theorem jo_fr {X : Xs} {o p : Nat} (h : isJo X o) (hp : isFr p) : o ∉ [p, p + 1] := by
  have h1 := h.1
  have h2 := fr_lt hp
  simp
  omega
def bitsL (v c : Nat) : List Int32 := nI ((c + 7) / 8) :: (List.range ((c + 7) / 8)).map (fun j => nI (bN v c j))
def wordsL (v c : Nat) : List Int32 := nI (2 * c) :: (List.range c).flatMap (fun k => wd (nI (wN v k)))
def bodyL (f a c v : Nat) : List Int32 :=
  if f = 1 ∨ f = 2 ∨ f = 3 ∨ f = 4 then wd (nI a) ++ wd (nI c)
  else if f = 5 ∨ f = 6 ∨ f = 8 then wd (nI a) ++ wd (nI (wN v 0))
  else if f = 22 then wd (nI a) ++ wd (nI (wN v 0)) ++ wd (nI (wN v 1))
  else if f = 15 then wd (nI a) ++ wd (nI c) ++ bitsL v c
  else if f = 16 then wd (nI a) ++ wd (nI c) ++ wordsL v c
  else []
def reqL (u f a c v : Nat) : List Int32 := sumd ([nI u, nI f] ++ bodyL f a c v)
theorem wd_len (x : Int32) : (wd x).length = 2 := rfl
theorem bits_len (v c : Nat) : (bitsL v c).length = 1 + (c + 7) / 8 := by simp [bitsL]; omega
theorem words_len (v c : Nat) : (wordsL v c).length = 1 + 2 * c := by
  have h : ∀ n, ((List.range n).flatMap (fun k => wd (nI (wN v k)))).length = 2 * n := by
    intro n
    induction n with
    | zero => rfl
    | succ n ih => rw [List.range_succ, List.flatMap_append, List.length_append, ih]; simp [wd_len]; omega
  simp [wordsL, h]
  omega
theorem B8_nI {n : Nat} (h : n < 256) : Lt 256 (nI n) := ⟨n, h, rfl⟩
theorem bits_B8 (v : Nat) {c : Nat} (hc : c ≤ 16) : B8 (bitsL v c) := by
  refine B8.cons (B8_nI (by omega)) fun x hx => ?_
  obtain ⟨j, -, rfl⟩ := List.mem_map.mp hx
  exact B8_nI (bN_lt _ _ _)
theorem words_B8 (v : Nat) {c : Nat} (hc : c ≤ 16) : B8 (wordsL v c) := by
  refine B8.cons (B8_nI (by omega)) fun x hx => ?_
  obtain ⟨k, -, hk⟩ := List.mem_flatMap.mp hx
  exact B8_wd _ x hk
theorem body_B8 (f a v : Nat) {c : Nat} (hc : c ≤ 16) : B8 (bodyL f a c v) := by
  unfold bodyL
  repeat' split
  · exact (B8_wd _).app (B8_wd _)
  · exact (B8_wd _).app (B8_wd _)
  · exact ((B8_wd _).app (B8_wd _)).app (B8_wd _)
  · exact ((B8_wd _).app (B8_wd _)).app (bits_B8 v hc)
  · exact ((B8_wd _).app (B8_wd _)).app (words_B8 v hc)
  · exact B8.nil
theorem body_len (f a v : Nat) {c : Nat} (hc : c ≤ 16) : (bodyL f a c v).length ≤ 37 := by
  unfold bodyL
  repeat' split
  all_goals simp [wd_len, bits_len, words_len]
  all_goals omega
theorem bs {α β : Type} {o : Option α} {a : α} {f : α → Option β} (h : o = some a) : o.bind f = f a := by
  rw [h]
  rfl
theorem JobN.g1 {b : Nat} {X : Xs} {o u f a c v : Nat} (h : JobN X o u f a c v) : gI (wX b X) (b + o) [3, 4] 1 = some (nI u) := by rw [jo_i1 h.1, h.2.1.1]
theorem JobN.g2 {b : Nat} {X : Xs} {o u f a c v : Nat} (h : JobN X o u f a c v) : gI (wX b X) (b + o) [3, 4] 2 = some (nI f) := by rw [jo_i2 h.1, h.2.1.2.1]
theorem JobN.g3 {b : Nat} {X : Xs} {o u f a c v : Nat} (h : JobN X o u f a c v) : gI (wX b X) (b + o) [3, 4] 3 = some (nI a) := by rw [jo_i3 h.1, h.2.1.2.2.1]
theorem JobN.g4 {b : Nat} {X : Xs} {o u f a c v : Nat} (h : JobN X o u f a c v) : gI (wX b X) (b + o) [3, 4] 4 = some (nI c) := by rw [jo_i4 h.1, h.2.1.2.2.2.1]
theorem JobN.g5 {b : Nat} {X : Xs} {o u f a c v : Nat} (h : JobN X o u f a c v) : gL (wX b X) (b + o) [3, 4] 5 = some (lN v) := by rw [jo_j5 h.1, h.2.1.2.2.2.2]
section JB
variable {b : Nat} {X : Xs} {o p u f a c v : Nat} {L : List Int32}
theorem s_word (h : JobN X o u f a c v) {k : Nat} (hk : k < 2 ^ 31) : fJo_word (b + o) (nI k) (wX b X) = some (nI (wN v k), wX b X) := by
  unfold fJo_word
  simp only [jo_j5 h.1, h.2.1.2.2.2.2, Option.bind_some, wv_c h.2.2.2.2.2.2.2 hk]
theorem s_bit (h : JobN X o u f a c v) {k : Nat} (hk : k < 64) : fJo_bit (b + o) (nI k) (wX b X) = some (nI (v / 2 ^ k % 2), wX b X) := by
  unfold fJo_bit
  simp only [jo_j5 h.1, h.2.1.2.2.2.2, Option.bind_some, bt_c h.2.2.2.2.2.2.2 hk]
theorem n_div8 {c : Nat} (hc : c ≤ 16) : (nI c + (7 : Int32)) / (8 : Int32) = nI ((c + 7) / 8) := by
  rw [show nI c + (7 : Int32) = nI (c + 7) from nI_add c 7]
  exact pk_div (d := 8) (by omega) (by decide) (by decide)
theorem s_bitBytes (h : JobN X o u f a c v) : fJo_bitBytes (b + o) (wX b X) = some (nI ((c + 7) / 8), wX b X) := by
  unfold fJo_bitBytes
  simp only [jo_i4 h.1, h.2.1.2.2.2.1, Option.bind_some, n_div8 h.2.2.2.2.2.2.1]
theorem s_isB (h : JobN X o u f a c v) : fJo_isBroadcast (b + o) (wX b X) = some (if u = 0 then 1 else 0, wX b X) := by
  unfold fJo_isBroadcast
  have hu := h.2.2.1
  simp only [jo_i1 h.1, h.2.1.1, Option.bind_some, bz_0, bz_1]
  by_cases e : u = 0
  · subst e
    rw [if_pos rfl, if_pos (show nI 0 = (0 : Int32) from rfl)]
  · rw [if_neg (nI_ne0 (by omega) (by omega)), if_neg e]
theorem range_map_succ {α : Type} (g : Nat → α) (n : Nat) : (List.range (n + 1)).map g = (List.range n).map g ++ [g n] := by
  rw [List.range_succ, List.map_append]
  rfl
theorem range_fm_succ {α : Type} (g : Nat → List α) (n : Nat) : (List.range (n + 1)).flatMap g = (List.range n).flatMap g ++ g n := by
  rw [List.range_succ, List.flatMap_append]
  simp
theorem s_addBits (h : JobN X o u f a c v) (hF : isFr p) (hL : FrL X p L) (hl : L.length + (1 + (c + 7) / 8) ≤ 41) : ∃ Y, fJo_addBits (b + o) (b + p) (wX b X) = some (wX b Y) ∧ FrL Y p (L ++ bitsL v c) ∧ Ch [p, p + 1] X Y := by
  have hc := h.2.2.2.2.2.2.1
  obtain ⟨Y1, e1, f1, c1⟩ := s_addByte (b := b) hF hL (by omega) (nI ((c + 7) / 8))
  rw [b8_id (B8_nI (by omega))] at f1
  obtain ⟨q1, g1, -⟩ := jo_o (b := b) h.1
  obtain ⟨q2, g2⟩ := Fr_o (b := b) (X := X) hF
  have key := lp_inv (step := fJo_addBits_L25 (b + o) (b + p) (lN v) (nI c)) (Q := fun W => ∃ Y, W = wX b Y ∧ FrL Y p (L ++ bitsL v c) ∧ Ch [p, p + 1] X Y) (fun k q => ∃ Y, q = (nI k, wX b Y) ∧ FrL Y p (L ++ nI ((c + 7) / 8) :: (List.range k).map (fun j => nI (bN v c j))) ∧ Ch [p, p + 1] X Y) ((c + 7) / 8) ?_ ?_ 1000 ((0 : Int32), wX b Y1) (by omega) ⟨_, rfl, by simpa using f1, c1⟩
  · obtain ⟨W, k1, Y, rfl, k2, k3⟩ := key
    refine ⟨Y, ?_, k2, k3⟩
    unfold fJo_addBits
    simp only [jo_j5 h.1, jo_i4 h.1, h.2.1.2.2.2.2, h.2.1.2.2.2.1, s_bitBytes h, g1, g2, e1, Option.bind_some, k1]
  · rintro k q hk ⟨Y, rfl, i1, i2⟩
    have h' := h.ch i2 (jo_fr h.1 hF)
    obtain ⟨q1, g1, -⟩ := jo_o (b := b) h'.1
    obtain ⟨q2, g2⟩ := Fr_o (b := b) (X := Y) hF
    have h1 : ¬ nI ((c + 7) / 8) ≤ nI k := nI_ge hk (by omega)
    obtain ⟨Z, e3, f3, c3⟩ := s_addByte (b := b) hF i1 (by simp; omega) ((((lN v &&& (((1 : Int64) <<< ((nI c).toInt64 &&& 63)) - (1 : Int64))).toUInt64 >>> (((8 : Int32) * nI k).toInt64.toUInt64 &&& Int64.toUInt64 63)).toInt64).toInt32)
    rw [by_c h.2.2.2.2.2.2.2 (by omega) (by omega)] at f3
    refine ⟨(nI (k + 1), wX b Z), ?_, Z, rfl, ?_, i2.tr c3⟩
    · unfold fJo_addBits_L25
      simp only [g1, s_bitBytes h', if_neg h1, g2, e3, Option.bind_some, nI_1]
    · rw [range_map_succ]
      simpa using f3
  · rintro q ⟨Y, rfl, i1, i2⟩
    have h' := h.ch i2 (jo_fr h.1 hF)
    obtain ⟨q1, g1, -⟩ := jo_o (b := b) h'.1
    have h1 : nI ((c + 7) / 8) ≤ nI ((c + 7) / 8) := nI_le (Nat.le_refl _) (by omega)
    refine ⟨_, ?_, Y, rfl, i1, i2⟩
    unfold fJo_addBits_L25
    simp only [g1, s_bitBytes h', if_pos h1, Option.bind_some]
theorem s_addWords (h : JobN X o u f a c v) (hF : isFr p) (hL : FrL X p L) (hl : L.length + (1 + 2 * c) ≤ 41) : ∃ Y, fJo_addWords (b + o) (b + p) (wX b X) = some (wX b Y) ∧ FrL Y p (L ++ wordsL v c) ∧ Ch [p, p + 1] X Y := by
  have hc := h.2.2.2.2.2.2.1
  obtain ⟨Y1, e1, f1, c1⟩ := s_addByte (b := b) hF hL (by omega) (nI (2 * c))
  rw [b8_id (B8_nI (by omega))] at f1
  have e0 : (2 : Int32) * nI c = nI (2 * c) := pk_mul 2 c
  obtain ⟨q2, g2⟩ := Fr_o (b := b) (X := X) hF
  have hlen : ∀ n, ((List.range n).flatMap (fun k => wd (nI (wN v k)))).length = 2 * n := by
    intro n
    have := words_len v n
    simp [wordsL] at this
    simp only [List.length_flatMap]
    omega
  have key := lp_inv (step := fJo_addWords_L12 (b + o) (b + p)) (Q := fun W => ∃ Y, W = wX b Y ∧ FrL Y p (L ++ wordsL v c) ∧ Ch [p, p + 1] X Y) (fun k q => ∃ Y, q = (nI k, wX b Y) ∧ FrL Y p (L ++ nI (2 * c) :: (List.range k).flatMap (fun k => wd (nI (wN v k)))) ∧ Ch [p, p + 1] X Y) c ?_ ?_ 1000 ((0 : Int32), wX b Y1) (by omega) ⟨_, rfl, by simpa using f1, c1⟩
  · obtain ⟨W, k1, Y, rfl, k2, k3⟩ := key
    refine ⟨Y, ?_, k2, k3⟩
    unfold fJo_addWords
    simp only [jo_i4 h.1, h.2.1.2.2.2.1, e0, g2, e1, Option.bind_some, k1]
  · rintro k q hk ⟨Y, rfl, i1, i2⟩
    have h' := h.ch i2 (jo_fr h.1 hF)
    obtain ⟨q1, g1, -⟩ := jo_o (b := b) h'.1
    obtain ⟨q2, g2⟩ := Fr_o (b := b) (X := Y) hF
    have h1 : ¬ nI c ≤ nI k := nI_ge hk (by omega)
    obtain ⟨Z, e3, f3, c3⟩ := s_addWord (b := b) hF i1 (by rw [List.length_append, List.length_cons, hlen]; omega) (nI (wN v k))
    refine ⟨(nI (k + 1), wX b Z), ?_, Z, rfl, ?_, i2.tr c3⟩
    · unfold fJo_addWords_L12
      simp only [jo_i4 h'.1, h'.2.1.2.2.2.1, g1, s_word h' (show k < 2 ^ 31 by omega), if_neg h1, g2, e3, Option.bind_some, nI_1]
    · rw [range_fm_succ]
      have e4 : L ++ nI (2 * c) :: ((List.range k).flatMap (fun k => wd (nI (wN v k))) ++ wd (nI (wN v k))) = L ++ nI (2 * c) :: (List.range k).flatMap (fun k => wd (nI (wN v k))) ++ wd (nI (wN v k)) := by simp
      rw [e4]
      exact f3
  · rintro q ⟨Y, rfl, i1, i2⟩
    have h' := h.ch i2 (jo_fr h.1 hF)
    have h1 : nI c ≤ nI c := nI_le (Nat.le_refl _) (by omega)
    refine ⟨_, ?_, Y, rfl, i1, i2⟩
    unfold fJo_addWords_L12
    simp only [jo_i4 h'.1, h'.2.1.2.2.2.1, if_pos h1, Option.bind_some]
end JB
