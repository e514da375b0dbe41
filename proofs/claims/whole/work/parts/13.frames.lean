/-! Frames: what lies in them as lists of bytes, on both sides. -/
theorem sI_I {X : Xs} {o k : Nat} {v : Int32} : (X.sI o k v).I = up2 X.I o k v := rfl
theorem sI_R {X : Xs} {o k : Nat} {v : Int32} : (X.sI o k v).R = X.R := rfl
theorem sI_J {X : Xs} {o k : Nat} {v : Int32} : (X.sI o k v).J = X.J := rfl
theorem sR_I {X : Xs} {o k : Nat} {v : Option Nat} : (X.sR o k v).I = X.I := rfl
theorem sR_R {X : Xs} {o k : Nat} {v : Option Nat} : (X.sR o k v).R = up2 X.R o k v := rfl
theorem sR_J {X : Xs} {o k : Nat} {v : Option Nat} : (X.sR o k v).J = X.J := rfl
theorem sJ_I {X : Xs} {o k : Nat} {v : Int64} : (X.sJ o k v).I = X.I := rfl
theorem sJ_R {X : Xs} {o k : Nat} {v : Int64} : (X.sJ o k v).R = X.R := rfl
theorem sJ_J {X : Xs} {o k : Nat} {v : Int64} : (X.sJ o k v).J = up2 X.J o k v := rfl
/-- nothing has changed but rows of ps -/
def Ch (ps : List Nat) (X Y : Xs) : Prop := Y.n = X.n ∧ Y.K = X.K ∧ ∀ p, p ∉ ps → Y.I p = X.I p ∧ Y.R p = X.R p ∧ Y.J p = X.J p
theorem Ch.rf {ps : List Nat} {X : Xs} : Ch ps X X := ⟨rfl, rfl, fun _ _ => ⟨rfl, rfl, rfl⟩⟩
theorem Ch.tr {ps : List Nat} {X Y Z : Xs} (h1 : Ch ps X Y) (h2 : Ch ps Y Z) : Ch ps X Z :=
  ⟨h2.1.trans h1.1, h2.2.1.trans h1.2.1, fun p hp => ⟨(h2.2.2 p hp).1.trans (h1.2.2 p hp).1, (h2.2.2 p hp).2.1.trans (h1.2.2 p hp).2.1, (h2.2.2 p hp).2.2.trans (h1.2.2 p hp).2.2⟩⟩
theorem Ch.mono {ps qs : List Nat} {X Y : Xs} (h : Ch ps X Y) (hs : ∀ p, p ∈ ps → p ∈ qs) : Ch qs X Y := ⟨h.1, h.2.1, fun p hp => h.2.2 p (fun q => hp (hs p q))⟩
theorem Ch.sI {ps : List Nat} {X Y : Xs} {o k : Nat} {v : Int32} (h : Ch ps X Y) (ho : o ∈ ps) : Ch ps X (Y.sI o k v) :=
  h.tr ⟨rfl, rfl, fun p hp => ⟨up2_row (fun e => hp (e ▸ ho)), rfl, rfl⟩⟩
theorem Ch.sR {ps : List Nat} {X Y : Xs} {o k : Nat} {v : Option Nat} (h : Ch ps X Y) (ho : o ∈ ps) : Ch ps X (Y.sR o k v) :=
  h.tr ⟨rfl, rfl, fun p hp => ⟨rfl, up2_row (fun e => hp (e ▸ ho)), rfl⟩⟩
theorem Ch.sJ {ps : List Nat} {X Y : Xs} {o k : Nat} {v : Int64} (h : Ch ps X Y) (ho : o ∈ ps) : Ch ps X (Y.sJ o k v) :=
  h.tr ⟨rfl, rfl, fun p hp => ⟨rfl, rfl, up2_row (fun e => hp (e ▸ ho))⟩⟩
theorem Ch.jo {ps : List Nat} {X Y : Xs} {o : Nat} (h : Ch ps X Y) (hj : isJo X o) : isJo Y o := by
  unfold isJo at *
  rw [h.1, h.2.1]
  exact hj
theorem Ch.re {ps : List Nat} {X Y : Xs} {o : Nat} (h : Ch ps X Y) (hj : isRe X o) : isRe Y o := by
  unfold isRe at *
  rw [h.1, h.2.1]
  exact hj
theorem Ch.po {ps : List Nat} {X Y : Xs} {o : Nat} (h : Ch ps X Y) (hj : isPo X o) : isPo Y o := by
  unfold isPo at *
  rw [h.1, h.2.1]
  exact hj
/-- the program's frame at o holds L; the model's frame w holds L -/
def FrL (X : Xs) (o : Nat) (L : List Int32) : Prop := X.I o 1 = nI L.length ∧ L.length ≤ 41 ∧ ∀ k, k < L.length → X.I (o + 1) k = L.getD k 0
def FrM (X : Xs) (w : Nat) (L : List Int32) : Prop := X.I 91 w = nI L.length ∧ L.length ≤ 41 ∧ ∀ k, k < L.length → X.I 90 (48 * w + k) = L.getD k 0
theorem FrL.of {X Y : Xs} {o : Nat} {L : List Int32} (h : FrL X o L) (h1 : Y.I o = X.I o) (h2 : Y.I (o + 1) = X.I (o + 1)) : FrL Y o L := by
  unfold FrL at *
  rw [h1, h2]
  exact h
theorem getD_app {L : List Int32} {y : Int32} {k : Nat} (hk : k < L.length) : (L ++ [y]).getD k 0 = L.getD k 0 := by
  simp [List.getD_eq_getElem?_getD, List.getElem?_append_left hk]
theorem getD_last {L : List Int32} {y : Int32} : (L ++ [y]).getD L.length 0 = y := by
  simp [List.getD_eq_getElem?_getD]
theorem FrL.add {X : Xs} {o : Nat} {L : List Int32} {y : Int32} (h : FrL X o L) (hl : L.length < 41) : FrL ((X.sI (o + 1) L.length y).sI o 1 (nI (L.length + 1))) o (L ++ [y]) := by
  refine ⟨?_, by simp; omega, fun k hk => ?_⟩
  · rw [sI_I, up2_s]; simp
  · rw [sI_I, up2_o (by omega), sI_I]
    by_cases e : k = L.length
    · subst e; rw [up2_s, getD_last]
    · have hk2 : k < L.length := by simp at hk; omega
      rw [up2_k e, h.2.2 k hk2, getD_app hk2]
section FR
variable {b : Nat} {X : Xs} {o : Nat} {L : List Int32}
theorem s_addByte0 (hF : isFr o) (hL : FrL X o L) (hl : L.length < 41) (v : Int32) : fFr_addByte (b + o) v (wX b X) = some (wX b ((X.sI (o + 1) L.length (v &&& 255)).sI o 1 (nI (L.length + 1)))) := by
  have h41 : ¬ (41 : Int32) ≤ nI L.length := nI_ge hl (by decide)
  have e : (X.sI (o + 1) L.length (v &&& 255)).I o 1 = nI L.length := by rw [sI_I, up2_o (by omega)]; exact hL.1
  have ea : ax (nI L.length) 41 = some L.length := ax_of hl (by decide) rfl
  simp only [fFr_addByte, Fr_i1 hF, Fr_r0 hF, Fr_s1 hF, Fr_p1 hF, hL.1, Option.bind_some, if_neg h41, ea, e, nI_1]
theorem s_addByte (hF : isFr o) (hL : FrL X o L) (hl : L.length < 41) (v : Int32) : ∃ Y, fFr_addByte (b + o) v (wX b X) = some (wX b Y) ∧ FrL Y o (L ++ [v &&& 255]) ∧ Ch [o, o + 1] X Y :=
  ⟨_, s_addByte0 hF hL hl v, hL.add hl, (Ch.rf.sI (by simp)).sI (by simp)⟩
theorem s_addWord (hF : isFr o) (hL : FrL X o L) (hl : L.length + 2 ≤ 41) (v : Int32) : ∃ Y, fFr_addWord (b + o) v (wX b X) = some (wX b Y) ∧ FrL Y o (L ++ [(v >>> ((8 : Int32) &&& 31)) &&& 255, v &&& 255]) ∧ Ch [o, o + 1] X Y := by
  obtain ⟨Y1, e1, f1, c1⟩ := s_addByte (b := b) hF hL (by omega) (v >>> ((8 : Int32) &&& 31))
  obtain ⟨Y2, e2, f2, c2⟩ := s_addByte (b := b) hF f1 (by simp; omega) v
  obtain ⟨q1, g1⟩ := Fr_o (b := b) (X := X) hF
  obtain ⟨q2, g2⟩ := Fr_o (b := b) (X := Y1) hF
  refine ⟨Y2, ?_, by simpa using f2, c1.tr c2⟩
  simp only [fFr_addWord, g1, e1, g2, e2, Option.bind_some]
theorem s_begin (hF : isFr o) (u f : Int32) : ∃ Y, fFr_begin (b + o) u f (wX b X) = some (wX b Y) ∧ FrL Y o [u &&& 255, f &&& 255] ∧ Ch [o, o + 1] X Y := by
  have hL : FrL (X.sI o 1 0) o [] := ⟨by rw [sI_I, up2_s]; rfl, by simp, fun k hk => by simp at hk⟩
  obtain ⟨Y1, e1, f1, c1⟩ := s_addByte (b := b) hF hL (by simp) u
  obtain ⟨Y2, e2, f2, c2⟩ := s_addByte (b := b) hF f1 (by simp) f
  obtain ⟨q1, g1⟩ := Fr_o (b := b) (X := X.sI o 1 0) hF
  obtain ⟨q2, g2⟩ := Fr_o (b := b) (X := Y1) hF
  refine ⟨Y2, ?_, by simpa using f2, ((Ch.rf.sI (by simp)).tr c1).tr c2⟩
  simp only [fFr_begin, Fr_p1 hF, g1, e1, g2, e2, Option.bind_some]
/-! the check sum -/
def crc1 (c : Int32) : Int32 := if c &&& (1 : Int32) = (1 : Int32) then (c >>> ((1 : Int32) &&& 31)) ^^^ (40961 : Int32) else c >>> ((1 : Int32) &&& 31)
def crcN : Nat → Int32 → Int32
  | 0, c => c
  | n + 1, c => crc1 (crcN n c)
def crcL (L : List Int32) : Int32 := L.foldl (fun c x => crcN 8 (c ^^^ x)) 65535
theorem crcL_take {L : List Int32} {k : Nat} (h : k < L.length) : crcL (L.take (k + 1)) = crcN 8 (crcL (L.take k) ^^^ L.getD k 0) := by
  unfold crcL
  rw [List.take_succ, List.foldl_append, List.getElem?_eq_getElem h]
  simp [List.getD_eq_getElem?_getD, List.getElem?_eq_getElem h]
theorem crc_step {k : Nat} (hk : k < 8) (c : Int32) : fFr_addSum_L30 (c, nI k) = some (.inl (crc1 c, nI (k + 1))) := by
  have h8 : ¬ (8 : Int32) ≤ nI k := nI_ge hk (by decide)
  unfold fFr_addSum_L30 crc1
  simp only [if_neg h8, nI_1]
  by_cases h : c &&& (1 : Int32) = (1 : Int32)
  · simp only [if_pos h, Option.bind_some]
  · simp only [if_neg h, Option.bind_some]
theorem crc_loop (c : Int32) : lp fFr_addSum_L30 1000 (c, 0) = some (crcN 8 c) := by
  refine lp_traj (fun k => (crcN k c, nI k)) 8 (fun k hk => crc_step hk _) ?_ 1000 (by decide)
  unfold fFr_addSum_L30
  simp only [if_pos (show (8 : Int32) ≤ nI 8 by decide)]
theorem crc_same : fMo_addSum_L32 = fFr_addSum_L30 := rfl
theorem s_addSum (hF : isFr o) (hL : FrL X o L) (hl : L.length + 2 ≤ 41) : ∃ Y, fFr_addSum (b + o) (wX b X) = some (wX b Y) ∧ FrL Y o (L ++ [crcL L &&& 255, (crcL L >>> ((8 : Int32) &&& 31)) &&& 255]) ∧ Ch [o, o + 1] X Y := by
  have hloop : lp (fFr_addSum_L5 (wX b X) (b + o)) 1000 ((65535 : Int32), (0 : Int32)) = some (crcL L) := by
    have h := lp_traj (step := fFr_addSum_L5 (wX b X) (b + o)) (r := crcL L) (fun k => (crcL (L.take k), nI k)) L.length ?_ ?_ 1000 (by omega)
    · exact h
    · intro k hk
      have h1 : ¬ nI L.length ≤ nI k := nI_ge hk (by omega)
      have h2 : ¬ (41 : Int32) ≤ nI k := nI_ge (b := 41) (by omega) (by decide)
      have ea : ax (nI k) 41 = some k := ax_of (by omega) (by decide) rfl
      unfold fFr_addSum_L5
      simp only [Fr_i1 hF, Fr_r0 hF, Fr_a1 hF, hL.1, Option.bind_some, if_neg h1, if_neg h2, ea, hL.2.2 k hk, crc_loop, nI_1, crcL_take hk]
    · have h1 : nI L.length ≤ nI L.length := nI_le (Nat.le_refl _) (by omega)
      unfold fFr_addSum_L5
      simp only [Fr_i1 hF, hL.1, Option.bind_some, if_pos h1, List.take_length]
  obtain ⟨Y1, e1, f1, c1⟩ := s_addByte (b := b) hF hL (by omega) (crcL L)
  obtain ⟨Y2, e2, f2, c2⟩ := s_addByte (b := b) hF f1 (by simp; omega) (crcL L >>> ((8 : Int32) &&& 31))
  obtain ⟨q1, g1⟩ := Fr_o (b := b) (X := X) hF
  obtain ⟨q2, g2⟩ := Fr_o (b := b) (X := Y1) hF
  refine ⟨Y2, ?_, by simpa using f2, c1.tr c2⟩
  simp only [fFr_addSum, hloop, g1, e1, g2, e2, Option.bind_some]
end FR
