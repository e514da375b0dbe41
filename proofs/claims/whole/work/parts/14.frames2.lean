/-! More of frames: reads, copies; the model's frames; bytes and words in their ranges. -/
theorem nz_xor (a b : Nat) : nI a ^^^ nI b = nI (a ^^^ b) := by
  apply Int32.toBitVec_inj.1
  show BitVec.ofNat 32 a ^^^ BitVec.ofNat 32 b = BitVec.ofNat 32 (a ^^^ b)
  apply BitVec.eq_of_getLsbD_eq
  intro i hi
  simp [hi]
theorem nz_or (a b : Nat) : nI a ||| nI b = nI (a ||| b) := by
  apply Int32.toBitVec_inj.1
  show BitVec.ofNat 32 a ||| BitVec.ofNat 32 b = BitVec.ofNat 32 (a ||| b)
  apply BitVec.eq_of_getLsbD_eq
  intro i hi
  simp [hi]
theorem nz_and (a b : Nat) : nI a &&& nI b = nI (a &&& b) := by
  apply Int32.toBitVec_inj.1
  show BitVec.ofNat 32 a &&& BitVec.ofNat 32 b = BitVec.ofNat 32 (a &&& b)
  apply BitVec.eq_of_getLsbD_eq
  intro i hi
  simp [hi]
/-- a number of at most k - 1 -/
def Lt (k : Nat) (x : Int32) : Prop := ∃ n, n < k ∧ x = nI n
theorem Lt.mono {k l : Nat} {x : Int32} (h : Lt k x) (hl : k ≤ l) : Lt l x := by
  obtain ⟨n, h1, h2⟩ := h
  exact ⟨n, by omega, h2⟩
theorem n_shr8 {n : Nat} (h : n < 2 ^ 31) : nI n >>> ((8 : Int32) &&& 31) = nI (n / 256) := pk_shrN h _ 8 (by decide)
theorem n_shr1 {n : Nat} (h : n < 2 ^ 31) : nI n >>> ((1 : Int32) &&& 31) = nI (n / 2) := by
  have := pk_shrN h ((1 : Int32) &&& 31) 1 (by decide)
  simpa using this
theorem n_and255 {n : Nat} (h : n < 2 ^ 32) : nI n &&& (255 : Int32) = nI (n % 256) := pk_andN h 8 (by decide)
theorem b_and255 (x : Int32) : Lt 256 (x &&& (255 : Int32)) := ⟨_, Nat.mod_lt _ (by decide), pk_and x 8 (by decide)⟩
theorem b8_id {x : Int32} (h : Lt 256 x) : x &&& (255 : Int32) = x := by
  obtain ⟨n, h1, rfl⟩ := h
  rw [n_and255 (by omega), Nat.mod_eq_of_lt h1]
theorem b16_hi {x : Int32} (h : Lt 65536 x) : (x >>> ((8 : Int32) &&& 31)) &&& (255 : Int32) = x >>> ((8 : Int32) &&& 31) := by
  obtain ⟨n, h1, rfl⟩ := h
  rw [n_shr8 (by omega)]
  exact b8_id ⟨_, by omega, rfl⟩
theorem crc1_lt {c : Int32} (h : Lt 65536 c) : Lt 65536 (crc1 c) := by
  obtain ⟨n, h1, rfl⟩ := h
  unfold crc1
  rw [n_shr1 (by omega)]
  split
  · refine ⟨_, ?_, nz_xor (n / 2) 40961⟩
    exact Nat.xor_lt_two_pow (n := 16) (by omega) (by omega)
  · exact ⟨_, by omega, rfl⟩
theorem crcN_lt {c : Int32} (h : Lt 65536 c) : ∀ n, Lt 65536 (crcN n c)
  | 0 => h
  | n + 1 => crc1_lt (crcN_lt h n)
theorem xor_lt {c x : Int32} (h : Lt 65536 c) (hx : Lt 256 x) : Lt 65536 (c ^^^ x) := by
  obtain ⟨n, h1, rfl⟩ := h
  obtain ⟨m, h2, rfl⟩ := hx
  exact ⟨_, Nat.xor_lt_two_pow (n := 16) (by omega) (by omega), nz_xor n m⟩
theorem crcL_lt {L : List Int32} (h : ∀ x ∈ L, Lt 256 x) : Lt 65536 (crcL L) := by
  have key : ∀ (L : List Int32) (c : Int32), (∀ x ∈ L, Lt 256 x) → Lt 65536 c → Lt 65536 (L.foldl (fun c x => crcN 8 (c ^^^ x)) c) := by
    intro L
    induction L with
    | nil => intro c _ hc; exact hc
    | cons x L ih => intro c hL hc; exact ih _ (fun y hy => hL y (List.mem_cons_of_mem _ hy)) (crcN_lt (xor_lt hc (hL x List.mem_cons_self)) 8)
  exact key L 65535 h ⟨65535, by decide, rfl⟩
/-- what is written behind a frame's body -/
def sumd (L : List Int32) : List Int32 := L ++ [crcL L &&& 255, (crcL L >>> ((8 : Int32) &&& 31)) &&& 255]
def wd (x : Int32) : List Int32 := [(x >>> ((8 : Int32) &&& 31)) &&& 255, x &&& 255]
def B8 (L : List Int32) : Prop := ∀ x ∈ L, Lt 256 x
theorem B8.app {L M : List Int32} (h1 : B8 L) (h2 : B8 M) : B8 (L ++ M) := fun x hx => (List.mem_append.mp hx).elim (h1 x) (h2 x)
theorem B8_wd (x : Int32) : B8 (wd x) := by
  intro y hy
  simp only [wd, List.mem_cons, List.not_mem_nil, or_false] at hy
  rcases hy with rfl | rfl
  · exact b_and255 _
  · exact b_and255 _
theorem B8.nil : B8 [] := fun x hx => by simp at hx
theorem B8.cons {x : Int32} {L : List Int32} (h : Lt 256 x) (hL : B8 L) : B8 (x :: L) := fun y hy => by
  rcases List.mem_cons.mp hy with rfl | hy
  · exact h
  · exact hL y hy
section FR2
variable {b : Nat} {X : Xs} {o : Nat} {L : List Int32}
theorem s_byteAt (hF : isFr o) (hL : FrL X o L) (k : Nat) (hk : k < 2 ^ 30) : fFr_byteAt (b + o) (nI k) (wX b X) = some (if k < L.length then L.getD k 0 else -1, wX b X) := by
  have h0 : ¬ nI k < 0 := nI_pos (by omega)
  have hl := hL.2.1
  unfold fFr_byteAt
  simp only [if_neg h0, Fr_i1 hF, hL.1, Option.bind_some]
  by_cases h : k < L.length
  · have h1 : ¬ nI L.length ≤ nI k := nI_ge h (by omega)
    have h2 : ¬ (41 : Int32) ≤ nI k := nI_ge (b := 41) (by omega) (by decide)
    have ea : ax (nI k) 41 = some k := ax_of (by omega) (by decide) rfl
    simp only [if_neg h1, if_neg h2, Fr_r0 hF, Fr_a1 hF, Option.bind_some, ea, hL.2.2 k h, if_pos h]
  · have h1 : nI L.length ≤ nI k := nI_le (by omega) (by omega)
    simp only [if_pos h1, if_neg h]
theorem s_wordAt (hF : isFr o) (hL : FrL X o L) (k : Nat) (hk : k + 1 < L.length) : fFr_wordAt (b + o) (nI k) (wX b X) = some ((L.getD k 0 <<< ((8 : Int32) &&& 31)) ||| L.getD (k + 1) 0, wX b X) := by
  have hl := hL.2.1
  have h0 : ¬ nI k < 0 := nI_pos (by omega)
  have e1 : nI L.length - (1 : Int32) = nI (L.length - 1) := pk_sub (a := L.length) (b := 1) (by omega)
  have h1 : ¬ nI (L.length - 1) ≤ nI k := nI_ge (by omega) (by omega)
  have h2 : ¬ (40 : Int32) ≤ nI k := nI_ge (b := 40) (by omega) (by decide)
  have ea : ax (nI k) 41 = some k := ax_of (by omega) (by decide) rfl
  have eb : ax (nI (k + 1)) 41 = some (k + 1) := ax_of (by omega) (by decide) rfl
  unfold fFr_wordAt
  simp only [if_neg h0, Fr_i1 hF, hL.1, Option.bind_some, e1, if_neg h1, if_neg h2, Fr_r0 hF, Fr_a1 hF, ea, eb, nI_1, hL.2.2 k (by omega), hL.2.2 (k + 1) hk]
theorem s_copy {o' : Nat} (hF : isFr o) (hF' : isFr o') (hne : o ≠ o') (hL : FrL X o' L) : ∃ Y, fFr_copyFrom (b + o) (b + o') (wX b X) = some (wX b Y) ∧ FrL Y o L ∧ Ch [o, o + 1] X Y := by
  have hl := hL.2.1
  have hd : o' ≠ o + 1 ∧ o' + 1 ≠ o + 1 ∧ o' + 1 ≠ o ∧ o ≠ o' := by
    rcases hF with rfl | rfl | rfl | rfl <;> rcases hF' with rfl | rfl | rfl | rfl <;> omega
  have key := lp_inv (step := fFr_copyFrom_L10 (b + o) (b + o')) (Q := fun W => ∃ Y, W = wX b Y ∧ FrL Y o L ∧ Ch [o, o + 1] X Y) (fun k q => ∃ Y, q = (nI k, wX b Y) ∧ Y.I o 1 = nI L.length ∧ (∀ j, j < k → Y.I (o + 1) j = L.getD j 0) ∧ Ch [o, o + 1] X Y) L.length ?_ ?_ 1000 ((0 : Int32), wX b (X.sI o 1 (nI L.length))) (by omega) ⟨_, rfl, by rw [sI_I, up2_s], fun j hj => by omega, Ch.rf.sI (by simp)⟩
  · obtain ⟨Ws', h1, Y, rfl, hY⟩ := key
    refine ⟨Y, ?_, hY.1, hY.2⟩
    simp only [fFr_copyFrom, Fr_i1 hF', hL.1, Fr_p1 hF, Option.bind_some, h1]
  · rintro k q hk ⟨Y, rfl, i1, i2, i3⟩
    have h1 : ¬ nI L.length ≤ nI k := nI_ge hk (by omega)
    have h2 : ¬ (41 : Int32) ≤ nI k := nI_ge (b := 41) (by omega) (by decide)
    have ea : ax (nI k) 41 = some k := ax_of (by omega) (by decide) rfl
    have e1 : Y.I (o' + 1) k = L.getD k 0 := by
      rw [(i3.2.2 (o' + 1) (by simp; omega)).1]
      exact hL.2.2 k hk
    refine ⟨(nI (k + 1), wX b (Y.sI (o + 1) k (L.getD k 0))), ?_, Y.sI (o + 1) k (L.getD k 0), rfl, ?_, ?_, i3.sI (by simp)⟩
    · unfold fFr_copyFrom_L10
      simp only [Fr_i1 hF, i1, Option.bind_some, if_neg h1, if_neg h2, Fr_r0 hF, Fr_r0 hF', Fr_a1 hF', ea, e1, Fr_s1 hF, nI_1]
    · rw [sI_I, up2_o (by omega)]
      exact i1
    · intro j hj
      rw [sI_I]
      by_cases e : j = k
      · subst e; rw [up2_s]
      · rw [up2_k e]
        exact i2 j (by omega)
  · rintro q ⟨Y, rfl, i1, i2, i3⟩
    have h1 : nI L.length ≤ nI L.length := nI_le (Nat.le_refl _) (by omega)
    refine ⟨_, ?_, Y, rfl, ⟨i1, hl, i2⟩, i3⟩
    unfold fFr_copyFrom_L10
    simp only [Fr_i1 hF, i1, Option.bind_some, if_pos h1]
/-! the model's frames -/
/-- nothing has changed but the model's frame w -/
def ChM (w : Nat) (X Y : Xs) : Prop := Ch [90, 91] X Y ∧ ∀ v L, v ≠ w → FrM X v L → FrM Y v L
theorem ChM.tr {w : Nat} {X Y Z : Xs} (h1 : ChM w X Y) (h2 : ChM w Y Z) : ChM w X Z := ⟨h1.1.tr h2.1, fun v L hv h => h2.2 v L hv (h1.2 v L hv h)⟩
theorem m_idx (a w k : Nat) : nI a * nI w + nI k = nI (a * w + k) := by rw [pk_mul, nI_add]
theorem s_add {w : Nat} (hw : w < 4) (hL : FrM X w L) (hl : L.length < 41) (v : Int32) : ∃ Y, fMo_add (b + 56) (nI w) v (wX b X) = some (wX b Y) ∧ FrM Y w (L ++ [v]) ∧ ChM w X Y := by
  have e1 : ax (nI w) 4 = some w := ax_of hw (by decide) rfl
  have e2 : ax (nI (48 * w + L.length)) 192 = some (48 * w + L.length) := ax_of (by omega) (by decide) rfl
  have e3 : (X.sI 90 (48 * w + L.length) v).I 91 w = nI L.length := by rw [sI_I, up2_o (by decide)]; exact hL.1
  refine ⟨(X.sI 90 (48 * w + L.length) v).sI 91 w (nI (L.length + 1)), ?_, ⟨?_, by simp; omega, fun k hk => ?_⟩, (Ch.rf.sI (by simp)).sI (by simp), fun u M hu h => ⟨?_, h.2.1, fun k hk => ?_⟩⟩
  · have ei : (48 : Int32) * nI w + nI L.length = nI (48 * w + L.length) := m_idx 48 w L.length
    simp only [fMo_add, mo_r37, mo_r38, mo_a91, mo_s90, mo_s91, Option.bind_some, e1, hL.1, ei, e2, e3, nI_1]
  · rw [sI_I, up2_s]; simp
  · rw [sI_I, up2_o (by decide), sI_I]
    by_cases e : k = L.length
    · subst e; rw [up2_s, getD_last]
    · have hk2 : k < L.length := by simp at hk; omega
      rw [up2_k (by omega), hL.2.2 k hk2, getD_app hk2]
  · rw [sI_I, up2_k hu, sI_I, up2_o (by decide)]
    exact h.1
  · have := h.2.1
    rw [sI_I, up2_o (by decide), sI_I, up2_k (by omega)]
    exact h.2.2 k hk
theorem s_addW {w : Nat} (hw : w < 4) (hL : FrM X w L) (hl : L.length + 2 ≤ 41) {v : Int32} (hv : Lt 65536 v) : ∃ Y, fMo_addWord (b + 56) (nI w) v (wX b X) = some (wX b Y) ∧ FrM Y w (L ++ wd v) ∧ ChM w X Y := by
  obtain ⟨Y1, e1, f1, c1⟩ := s_add (b := b) hw hL (by omega) (v >>> ((8 : Int32) &&& 31))
  obtain ⟨Y2, e2, f2, c2⟩ := s_add (b := b) hw f1 (by simp; omega) (v &&& 255)
  refine ⟨Y2, ?_, ?_, c1.tr c2⟩
  · simp only [fMo_addWord, mo_o, e1, e2, Option.bind_some]
  · unfold wd
    rw [b16_hi hv]
    simpa using f2
theorem s_beginM {w : Nat} (hw : w < 4) {u f : Int32} : ∃ Y, fMo_begin (b + 56) (nI w) u f (wX b X) = some (wX b Y) ∧ FrM Y w [u, f] ∧ ChM w X Y := by
  have e0 : ax (nI w) 4 = some w := ax_of hw (by decide) rfl
  have hL : FrM (X.sI 91 w 0) w [] := ⟨by rw [sI_I, up2_s]; rfl, by simp, fun k hk => by simp at hk⟩
  have c0 : ChM w X (X.sI 91 w 0) := ⟨Ch.rf.sI (by simp), fun u M hu h => ⟨by rw [sI_I, up2_k hu]; exact h.1, h.2.1, fun k hk => by rw [sI_I, up2_o (by decide)]; exact h.2.2 k hk⟩⟩
  obtain ⟨Y1, e1, f1, c1⟩ := s_add (b := b) hw hL (by simp) u
  obtain ⟨Y2, e2, f2, c2⟩ := s_add (b := b) hw f1 (by simp) f
  refine ⟨Y2, ?_, by simpa using f2, (c0.tr c1).tr c2⟩
  simp only [fMo_begin, mo_r38, mo_s91, e0, mo_o, e1, e2, Option.bind_some]
theorem s_sumM {w : Nat} (hw : w < 4) (hL : FrM X w L) (hl : L.length + 2 ≤ 41) (hB : B8 L) : ∃ Y, fMo_addSum (b + 56) (nI w) (wX b X) = some (wX b Y) ∧ FrM Y w (sumd L) ∧ ChM w X Y := by
  have e0 : ax (nI w) 4 = some w := ax_of hw (by decide) rfl
  have hloop : lp (fMo_addSum_L5 (wX b X) (b + 56) (nI w)) 1000 ((65535 : Int32), (0 : Int32)) = some (crcL L) := by
    have h := lp_traj (step := fMo_addSum_L5 (wX b X) (b + 56) (nI w)) (r := crcL L) (fun k => (crcL (L.take k), nI k)) L.length ?_ ?_ 1000 (by omega)
    · exact h
    · intro k hk
      have h1 : ¬ nI L.length ≤ nI k := nI_ge hk (by omega)
      have ea : ax (nI (48 * w + k)) 192 = some (48 * w + k) := ax_of (by omega) (by decide) rfl
      have ei : (48 : Int32) * nI w + nI k = nI (48 * w + k) := m_idx 48 w k
      unfold fMo_addSum_L5
      simp only [mo_r37, mo_r38, mo_a91, mo_a90, hL.1, e0, Option.bind_some, if_neg h1, ei, ea, hL.2.2 k hk, crc_same, crc_loop, nI_1, crcL_take hk]
    · have h1 : nI L.length ≤ nI L.length := nI_le (Nat.le_refl _) (by omega)
      unfold fMo_addSum_L5
      simp only [mo_r38, mo_a91, hL.1, e0, Option.bind_some, if_pos h1, List.take_length]
  obtain ⟨Y1, e1, f1, c1⟩ := s_add (b := b) hw hL (by omega) (crcL L &&& 255)
  obtain ⟨Y2, e2, f2, c2⟩ := s_add (b := b) hw f1 (by simp; omega) (crcL L >>> ((8 : Int32) &&& 31))
  refine ⟨Y2, ?_, ?_, c1.tr c2⟩
  · simp only [fMo_addSum, hloop, mo_o, e1, e2, Option.bind_some]
  · unfold sumd
    rw [b16_hi (crcL_lt hB)]
    simpa using f2
end FR2
