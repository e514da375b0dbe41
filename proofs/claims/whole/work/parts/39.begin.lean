/-! A free line starts its next job: both sides. -/
section BG
variable {b t nr np j i : Nat} {E : Nat → Nat → Nat} {al ln d off ls : Nat → Nat} {tb : Nat → Nat → Nat → Nat} {cur : Nat → Option Nat} {q : Nat → List Nat} {X Y X2 Y2 : Xs}
theorem s_ck {o : Nat} (h : isJo X o) : ck (wX b X) (some (b + o)) [3, 4] = some () := by
  obtain ⟨qj, gj, -⟩ := jo_o (b := b) h
  show (gO (wX b X) (b + o) [3, 4]).bind (fun _ => some ()) = some ()
  rw [bs gj]
theorem c_shift (hj : j < 2) {n : Nat} (hn : n ≤ 3) (h4 : X.I (33 + 8 * j) 4 = nI n) (hr : ∀ m, m < n → ∃ o, X.R (33 + 8 * j + 7) (m + 1) = some (b + o) ∧ isJo X o) : ∃ Z, lp (fLi_startNext_L38 (b + (33 + 8 * j))) 1000 ((0 : Int32), wX b X) = some (wX b Z) ∧ Ch [33 + 8 * j + 7] X Z ∧ ∀ m, m < n → Z.R (33 + 8 * j + 7) m = X.R (33 + 8 * j + 7) (m + 1) := by
  have hlin := li_of hj
  have key := lp_inv (step := fLi_startNext_L38 (b + (33 + 8 * j))) (Q := fun W => ∃ Z, W = wX b Z ∧ Ch [33 + 8 * j + 7] X Z ∧ ∀ m, m < n → Z.R (33 + 8 * j + 7) m = X.R (33 + 8 * j + 7) (m + 1)) (fun k s => ∃ Z, s = (nI k, wX b Z) ∧ Ch [33 + 8 * j + 7] X Z ∧ (∀ m, m < k → Z.R (33 + 8 * j + 7) m = X.R (33 + 8 * j + 7) (m + 1)) ∧ ∀ m, k ≤ m → Z.R (33 + 8 * j + 7) m = X.R (33 + 8 * j + 7) m) n ?_ ?_ 1000 ((0 : Int32), wX b X) (by omega) ⟨X, rfl, Ch.rf, fun m hm => by omega, fun _ _ => rfl⟩
  · obtain ⟨W, k1, Z, rfl, k2⟩ := key
    exact ⟨Z, k1, k2⟩
  · rintro k s hk ⟨Z, rfl, i1, i2, i3⟩
    obtain ⟨o, ho1, ho2⟩ := hr k hk
    have g4 : gI (wX b Z) (b + (33 + 8 * j)) [2] 4 = some (nI n) := by rw [Li_i4 hlin, (i1.2.2 _ (by simp)).1, h4]
    have e1 : nI k + (1 : Int32) = nI (k + 1) := nI_add k 1
    have ar : aR (wX b Z) (b + (33 + 8 * j + 7)) 7 (nI (k + 1)) = some (some (b + o)) := by rw [Li_a7 hlin, bs (ax_of (show k + 1 < 4 by omega) (by decide) rfl), i3 (k + 1) (by omega), ho1]
    refine ⟨(nI (k + 1), wX b (Z.sR (33 + 8 * j + 7) k (some (b + o)))), ?_, _, rfl, i1.sR (by simp), fun m hm => ?_, fun m hm => ?_⟩
    · unfold fLi_startNext_L38
      dsimp only
      rw [bs g4, if_neg (show ¬ nI n ≤ nI k from nI_ge hk (by omega)), e1, if_neg (show ¬ (4 : Int32) ≤ nI (k + 1) by rw [ge_4 (by omega)]; omega), bs (Li_r3 hlin), bs (Li_r3 hlin), Option.bind_some, bs ar, Option.bind_some, bs (s_ck (i1.jo ho2)), Li_s7 hlin, ax_of (show k < 4 by omega) (by decide) rfl, Option.bind_some, Option.bind_some]
    · rw [sR_R]
      by_cases e : m = k
      · subst e; rw [up2_s, ho1]
      · rw [up2_k e]; exact i2 m (by omega)
    · rw [sR_R, up2_k (by omega)]
      exact i3 m (by omega)
  · rintro s ⟨Z, rfl, i1, i2, i3⟩
    have g4 : gI (wX b Z) (b + (33 + 8 * j)) [2] 4 = some (nI n) := by rw [Li_i4 hlin, (i1.2.2 _ (by simp)).1, h4]
    refine ⟨_, ?_, Z, rfl, i1, i2⟩
    unfold fLi_startNext_L38
    dsimp only
    rw [bs g4, if_pos (nI_le (Nat.le_refl _) (by omega))]
theorem m_shift2 (hj : j < 2) {n : Nat} (hn : n ≤ 3) (h81 : Y.I 81 j = nI n) : ∃ Z, lp (fMo_begins_L33 (b + 56) (nI j)) 1000 ((0 : Int32), wX b Y) = some (wX b Z) ∧ Ch [80] Y Z ∧ (∀ m, m < n → Z.I 80 (4 * j + m) = Y.I 80 (4 * j + m + 1)) ∧ ∀ p, ¬ (4 * j ≤ p ∧ p < 4 * j + n) → Z.I 80 p = Y.I 80 p := by
  have ej : ax (nI j) 2 = some j := ax_of hj (by decide) rfl
  have key := lp_inv (step := fMo_begins_L33 (b + 56) (nI j)) (Q := fun W => ∃ Z, W = wX b Z ∧ Ch [80] Y Z ∧ (∀ m, m < n → Z.I 80 (4 * j + m) = Y.I 80 (4 * j + m + 1)) ∧ ∀ p, ¬ (4 * j ≤ p ∧ p < 4 * j + n) → Z.I 80 p = Y.I 80 p) (fun k s => ∃ Z, s = (nI k, wX b Z) ∧ Ch [80] Y Z ∧ (∀ m, m < k → Z.I 80 (4 * j + m) = Y.I 80 (4 * j + m + 1)) ∧ ∀ p, ¬ (4 * j ≤ p ∧ p < 4 * j + k) → Z.I 80 p = Y.I 80 p) n ?_ ?_ 1000 ((0 : Int32), wX b Y) (by omega) ⟨Y, rfl, Ch.rf, fun m hm => by omega, fun _ _ => rfl⟩
  · obtain ⟨W, k1, Z, rfl, k2⟩ := key
    exact ⟨Z, k1, k2⟩
  · rintro k s hk ⟨Z, rfl, i1, i2, i3⟩
    have g81 : aI (wX b Z) (b + 81) 0 (nI j) = some (nI n) := by rw [mo_a81, bs ej, (i1.2.2 81 (by simp)).1, h81]
    have e4 : (4 : Int32) * nI j + nI k = nI (4 * j + k) := by
      rw [show (4 : Int32) * nI j = nI (4 * j) from pk_mul 4 j, nI_add]
    have e1 : nI (4 * j + k) + (1 : Int32) = nI (4 * j + k + 1) := nI_add _ 1
    have a80 : aI (wX b Z) (b + 80) 0 (nI (4 * j + k + 1)) = some (Y.I 80 (4 * j + k + 1)) := by rw [mo_a80, bs (ax_of (show 4 * j + k + 1 < 8 by omega) (by decide) rfl), i3 _ (by omega)]
    refine ⟨(nI (k + 1), wX b (Z.sI 80 (4 * j + k) (Y.I 80 (4 * j + k + 1)))), ?_, _, rfl, i1.sI (by simp), fun m hm => ?_, fun p hp => ?_⟩
    · unfold fMo_begins_L33
      dsimp only
      rw [bs mo_r28, Option.bind_some, bs g81, if_neg (show ¬ nI n ≤ nI k from nI_ge hk (by omega)), bs mo_r27, bs mo_r27, Option.bind_some, e4, e1, bs a80, Option.bind_some, mo_s80, ax_of (show 4 * j + k < 8 by omega) (by decide) rfl, Option.bind_some, Option.bind_some, nI_1]
    · rw [sI_I]
      by_cases e : m = k
      · subst e; rw [up2_s]
      · rw [up2_k (by omega)]; exact i2 m (by omega)
    · rw [sI_I, up2_k (by omega)]
      exact i3 p (by omega)
  · rintro s ⟨Z, rfl, i1, i2, i3⟩
    have g81 : aI (wX b Z) (b + 81) 0 (nI j) = some (nI n) := by rw [mo_a81, bs ej, (i1.2.2 81 (by simp)).1, h81]
    refine ⟨_, ?_, Z, rfl, i1, i2, i3⟩
    unfold fMo_begins_L33
    dsimp only
    rw [bs mo_r28, Option.bind_some, bs g81, if_pos (nI_le (Nat.le_refl _) (by omega))]
theorem noStart (hI : Inv b t nr np E al ln d off ls tb cur q X Y) (hj : j < 2) (h : (∃ i, cur j = some i) ∨ q j = []) : fLi_startNext (b + (33 + 8 * j)) (wX b X) = some (0, wX b X) := by
  have hlin := li_of hj
  have hL := hI.2.2.2.1 j hj
  unfold fLi_startNext
  rw [bs (Li_q5 hlin), hL.2.2.1.1]
  cases hc : cur j with
  | some i =>
    show oc (some (b + E 0 i)) _ _ = _
    rw [oc_some, bs bz_0]
  | none =>
    rcases h with ⟨i, h⟩ | h
    · rw [hc] at h; cases h
    · have h4 : gI (wX b X) (b + (33 + 8 * j)) [2] 4 = some (nI 0) := by rw [Li_i4 hlin, hL.1.2.2.1, h]; rfl
      show oc none _ _ = _
      rw [oc_none, bs h4, if_pos (show nI 0 = (0 : Int32) from rfl), bs bz_0]
theorem begin_step (hI : Inv b t nr np E al ln d off ls tb cur q X Y) (hj : j < 2) (hc : cur j = none) {h : Nat} {tl : List Nat} (hq : q j = h :: tl) : ∃ Xa Xm X' Y', fLi_startNext (b + (33 + 8 * j)) (wX b X) = some (1, wX b Xa) ∧ fPl_send b (b + (33 + 8 * j)) (wX b Xa) = some (wX b Xm) ∧ fPl_takeAnswer b (b + (33 + 8 * j)) (wX b Xm) = some (wX b X') ∧ fMo_begins (b + 56) (nI j) (wX b Y) = some (wX b Y') ∧ Rel2 b t nr np E al ln d off X' Y' ∧ CK X X' ∧ MK Y Y' := by
  have hlin := li_of hj
  have ej : ax (nI j) 2 = some j := ax_of hj (by decide) rfl
  have hI0 := hI
  obtain ⟨hSC, hSL, hJB, hLN, hWA, hFR, hRH⟩ := hI
  have hL := hLN j hj
  rw [hc, hq] at hL
  obtain ⟨⟨a1, a2, a3, a4⟩, g1, ⟨c1, c2⟩, d1, e1, f1, -⟩ := hL
  have hlen : (h :: tl).length = tl.length + 1 := rfl
  rw [hlen] at a1 a3 a4 g1
  have hjo : ∀ k, k ∈ h :: tl → isJo X (E 0 k) := fun k hk => (hJB.1 k (e1 k (by simpa using hk)).1).1.1
  have hgd : ∀ m, m < tl.length → (h :: tl).getD (m + 1) 0 = tl.getD m 0 ∧ tl.getD m 0 ∈ tl := by
    intro m hm
    refine ⟨by simp, ?_⟩
    rw [List.getD_eq_getElem?_getD, List.getElem?_eq_getElem hm]
    exact List.getElem_mem hm
  -- the kind
  let Xs1 := (X.sR (33 + 8 * j) 5 (some (b + E 0 h))).sI (33 + 8 * j) 4 (nI tl.length)
  have hXs1 : Ch [33 + 8 * j] X Xs1 := (Ch.rf.sR (by simp)).sI (by simp)
  have x1_4 : Xs1.I (33 + 8 * j) 4 = nI tl.length := by
    show ((X.sR (33 + 8 * j) 5 (some (b + E 0 h))).sI (33 + 8 * j) 4 (nI tl.length)).I (33 + 8 * j) 4 = _
    rw [sI_I, up2_s]
  have x1_k : ∀ k, k ≠ 4 → Xs1.I (33 + 8 * j) k = X.I (33 + 8 * j) k := by
    intro k hk
    show ((X.sR (33 + 8 * j) 5 (some (b + E 0 h))).sI (33 + 8 * j) 4 (nI tl.length)).I (33 + 8 * j) k = _
    rw [sI_I, up2_k hk]; rfl
  have x1_5 : Xs1.R (33 + 8 * j) 5 = some (b + E 0 h) := by
    show ((X.sR (33 + 8 * j) 5 (some (b + E 0 h))).sI (33 + 8 * j) 4 (nI tl.length)).R (33 + 8 * j) 5 = _
    rw [sI_R, sR_R, up2_s]
  have x1_7 : Xs1.R (33 + 8 * j + 7) = X.R (33 + 8 * j + 7) := (hXs1.2.2 _ (by simp)).2.1
  obtain ⟨Xa, s1, s2, s3⟩ := c_shift (b := b) (X := Xs1) hj (n := tl.length) (by omega) x1_4 (fun m hm => ⟨E 0 (tl.getD m 0), by rw [x1_7, (g1 (m + 1) (by omega)).1, (hgd m hm).1], hXs1.jo (hjo _ (List.mem_cons_of_mem _ (hgd m hm).2))⟩)
  have hcls : fLi_startNext (b + (33 + 8 * j)) (wX b X) = some (1, wX b Xa) := by
    have g5 : gR (wX b X) (b + (33 + 8 * j)) [2] 5 = some none := by rw [Li_q5 hlin, c1]; rfl
    have g4 : gI (wX b X) (b + (33 + 8 * j)) [2] 4 = some (nI (tl.length + 1)) := by rw [Li_i4 hlin, a3]
    have ar : aR (wX b X) (b + (33 + 8 * j + 7)) 7 (0 : Int32) = some (some (b + E 0 h)) := by rw [Li_a7 hlin, bs (show ax (0 : Int32) 4 = some 0 from ax_of (by omega) (by decide) rfl), (g1 0 (by omega)).1]; rfl
    have g4' : gI (wX b (X.sR (33 + 8 * j) 5 (some (b + E 0 h)))) (b + (33 + 8 * j)) [2] 4 = some (nI (tl.length + 1)) := by rw [Li_i4 hlin, sR_I, a3]
    have em : nI (tl.length + 1) - (1 : Int32) = nI tl.length := pk_sub (b := 1) (by omega)
    unfold fLi_startNext
    rw [bs g5, oc_none, bs g4, if_neg (by rw [q_0 (by omega)]; omega), bs (Li_r3 hlin), Option.bind_some, bs ar, bs (Li_p5 hlin), bs g4', em, bs (Li_p4 hlin), bs s1, bs bz_1]
  -- the model
  let Ys1 := ((Y.sI 82 j (nI h)).sI 83 j 0).sI 81 j (nI tl.length)
  have hYs1 : Ch [81, 82, 83] Y Ys1 := ((Ch.rf.sI (by simp)).sI (by simp)).sI (by simp)
  have y81 : Ys1.I 81 j = nI tl.length := by
    show (((Y.sI 82 j (nI h)).sI 83 j 0).sI 81 j (nI tl.length)).I 81 j = _
    rw [sI_I, up2_s]
  have y82 : Ys1.I 82 j = nI h := by
    show (((Y.sI 82 j (nI h)).sI 83 j 0).sI 81 j (nI tl.length)).I 82 j = _
    rw [sI_I, up2_o (by decide), sI_I, up2_o (by decide), sI_I, up2_s]
  have y83 : Ys1.I 83 j = 0 := by
    show (((Y.sI 82 j (nI h)).sI 83 j 0).sI 81 j (nI tl.length)).I 83 j = _
    rw [sI_I, up2_o (by decide), sI_I, up2_s]
  have yo : ∀ p k, k ≠ j → Ys1.I p k = Y.I p k := by
    intro p k hk
    show (((Y.sI 82 j (nI h)).sI 83 j 0).sI 81 j (nI tl.length)).I p k = _
    rw [sI_I, up2_k hk, sI_I, up2_k hk, sI_I, up2_k hk]
  obtain ⟨Ya, t1, t2, t3, t4⟩ := m_shift2 (b := b) (Y := Ys1) hj (n := tl.length) (by omega) y81
  have y80 : Ys1.I 80 = Y.I 80 := (hYs1.2.2 80 (by simp)).1
  have hcX : Ch [33 + 8 * j, 33 + 8 * j + 7] X Xa := (hXs1.mono (by simp)).tr (s2.mono (by simp))
  have hcY : Ch [80, 81, 82, 83] Y Ya := (hYs1.mono (by simp)).tr (t2.mono (by simp))
  have xal : Xa.I (33 + 8 * j) = Xs1.I (33 + 8 * j) := (s2.2.2 _ (by simp)).1
  have xar : Xa.R (33 + 8 * j) = Xs1.R (33 + 8 * j) := (s2.2.2 _ (by simp)).2.1
  have ya : ∀ p, p ≠ 80 → Ya.I p = Ys1.I p := fun p hp => (t2.2.2 p (by simp; exact hp)).1
  have hB : InvB b t nr np E al ln d off ls tb (stF cur j (some h)) (stF q j tl) j Xa Ya := by
    refine ⟨hSC.ch hcX (by intro p hp; simp only [List.mem_cons, List.not_mem_nil, or_false] at hp; omega) (K56.of hcY (by simp)), hSL.ch hcX (by intro p hp; simp only [List.mem_cons, List.not_mem_nil, or_false] at hp; omega) hcY (by intro p hp; simp only [List.mem_cons, List.not_mem_nil, or_false] at hp; omega), hJB.ch hcX (by intro p hp; simp only [List.mem_cons, List.not_mem_nil, or_false] at hp; omega) hcY (by intro p hp; simp only [List.mem_cons, List.not_mem_nil, or_false] at hp; omega), fun j' hj' hne => ?_, ?_, fun j' hj' => (hWA j' hj').ch hcX (by intro p hp; simp only [List.mem_cons, List.not_mem_nil, or_false] at hp; omega) hcY (by intro p hp; simp only [List.mem_cons, List.not_mem_nil, or_false] at hp; omega), fun j' hj' => (hFR j' hj').ch hcX (by intro p hp; simp only [List.mem_cons, List.not_mem_nil, or_false] at hp; omega) hcY (by intro p hp; simp only [List.mem_cons, List.not_mem_nil, or_false] at hp; omega), hRH.chs hcX (by intro p hp; simp only [List.mem_cons, List.not_mem_nil, or_false] at hp; omega) hcY (by intro p hp; simp only [List.mem_cons, List.not_mem_nil, or_false] at hp; omega) (by rw [(hcY.2.2 56 (by simp)).1])⟩
    · rw [stF_o hne, stF_o hne]
      refine (hLN j' hj').ch (LX.of hcX (by intro p hp; simp only [List.mem_cons, List.not_mem_nil, or_false] at hp; omega)) ⟨fun k hk => ?_, ?_, ?_, ?_, ?_, ?_, ?_, ?_⟩ (fun _ _ _ _ h => h.ch hcY (by intro p hp; simp only [List.mem_cons, List.not_mem_nil, or_false] at hp; omega))
      · rw [t4 _ (by omega), y80]
      · rw [ya 81 (by decide), yo 81 j' hne]
      · rw [ya 82 (by decide), yo 82 j' hne]
      · rw [ya 83 (by decide), yo 83 j' hne]
      · rw [ya 84 (by decide), yo 84 j' hne]
      · rw [ya 85 (by decide), yo 85 j' hne]
      · rw [ya 86 (by decide), yo 86 j' hne]
      · rw [(hcY.2.2 87 (by simp)).2.2]
    · rw [stF_s, stF_s]
      refine ⟨⟨by omega, ?_, ?_, ?_⟩, fun k hk => ⟨?_, ?_⟩, ⟨?_, ?_⟩, by simpa using d1, fun k hk => ?_⟩
      · rw [xal, x1_k 0 (by decide)]; exact a2
      · rw [xal, x1_4]
      · rw [ya 81 (by decide), y81]
      · rw [s3 k hk, x1_7, (g1 (k + 1) (by omega)).1, (hgd k hk).1]
      · rw [t3 k hk, y80, Nat.add_assoc, (g1 (k + 1) (by omega)).2, (hgd k hk).1]
      · rw [xar, x1_5]; rfl
      · rw [ya 82 (by decide), y82]; rfl
      · have hm := e1 k (by simpa using hk)
        exact ⟨hm.1, fun hu => ⟨(hm.2 hu).1, (hm.2 hu).2.1, (hm.2 hu).2.2.1, fun h64 => ((hm.2 hu).2.2.2 h64).ch hcY (by intro p hp; simp only [List.mem_cons, List.not_mem_nil, or_false] at hp; omega)⟩⟩
  obtain ⟨Xm, X', Y', p1, p2, p3, p4, p5, p6⟩ := send_step hB hj stF_s (by rw [xal, x1_k 6 (by decide), f1 rfl, ya 83 (by decide), y83])
  refine ⟨Xa, Xm, X', Y', hcls, p1, p2, ?_, p4, (CK.of hcX (by intro p hp; simp only [List.mem_cons, List.not_mem_nil, or_false] at hp; omega)).tr p5, (MK.of hcY (by intro p hp; simp only [List.mem_cons, List.not_mem_nil, or_false] at hp; omega)).tr p6⟩
  have e4 : (4 : Int32) * nI j = nI (4 * j) := pk_mul 4 j
  have a80 : aI (wX b Y) (b + 80) 0 (nI (4 * j)) = some (nI h) := by
    have := (g1 0 (by omega)).2
    rw [Nat.add_zero] at this
    rw [mo_a80, bs (ax_of (show 4 * j < 8 by omega) (by decide) rfl), this]
    rfl
  have a81 : aI (wX b ((Y.sI 82 j (nI h)).sI 83 j 0)) (b + 81) 0 (nI j) = some (nI (tl.length + 1)) := by
    rw [mo_a81, bs ej, sI_I, up2_o (by decide), sI_I, up2_o (by decide), a4]
  have em : nI (tl.length + 1) - (1 : Int32) = nI tl.length := pk_sub (b := 1) (by omega)
  unfold fMo_begins
  rw [bs mo_r29, bs mo_r27, Option.bind_some, e4, bs a80, Option.bind_some, mo_s82, ej, Option.bind_some, Option.bind_some, bs mo_r30, Option.bind_some, mo_s83, ej, Option.bind_some, Option.bind_some, bs mo_r28, Option.bind_some, bs a81, em, mo_s81, ej, Option.bind_some, Option.bind_some, bs t1, bs mo_o, bs p3]
end BG
