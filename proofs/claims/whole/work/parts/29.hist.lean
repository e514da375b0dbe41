/-! The kept samples on both sides. -/
def RH (X Y : Xs) : Prop := ∃ st old : Nat, st ≤ 12 ∧ old < 12 ∧ X.I 51 5 = nI st ∧ X.I 51 4 = nI old ∧ Y.I 56 25 = nI st ∧ (∀ k, k < st → X.I 52 ((old + k) % 12) = Y.I 79 (3 * k) ∧ X.I 53 ((old + k) % 12) = Y.I 79 (3 * k + 1) ∧ X.I 54 ((old + k) % 12) = Y.I 79 (3 * k + 2)) ∧ ∀ p, p < 4 → (Y.I 77 p = nI 0 ∧ X.I 55 p = -1) ∨ (∃ la, la < 65536 ∧ Y.I 77 p = nI 1 ∧ Y.I 78 p = nI la ∧ X.I 55 p = nI la)
theorem RH.ch {X X' Y Y' : Xs} (h : RH X Y) (h1 : X'.I 51 = X.I 51) (h2 : X'.I 52 = X.I 52) (h3 : X'.I 53 = X.I 53) (h4 : X'.I 54 = X.I 54) (h5 : X'.I 55 = X.I 55) (g1 : Y'.I 56 25 = Y.I 56 25) (g2 : Y'.I 77 = Y.I 77) (g3 : Y'.I 78 = Y.I 78) (g4 : Y'.I 79 = Y.I 79) : RH X' Y' := by
  unfold RH
  rw [h1, h2, h3, h4, h5, g1, g2, g3, g4]
  exact h
section HI
variable {b : Nat} {X Y : Xs} {t p w : Nat}
theorem n_rem12 {x : Nat} (hx : x < 2 ^ 31) : nI x - nI x / (12 : Int32) * (12 : Int32) = nI (x % 12) := pk_rem (d := 12) hx (by decide) (by decide)
theorem m_shift (hst : True) : ∃ Z, lp (fMo_take_L55 (b + 56)) 1000 ((0 : Int32), wX b X) = some (wX b Z) ∧ Ch [79] X Z ∧ ∀ j, j < 33 → Z.I 79 j = X.I 79 (j + 3) := by
  have key := lp_inv (step := fMo_take_L55 (b + 56)) (Q := fun W => ∃ Z, W = wX b Z ∧ Ch [79] X Z ∧ ∀ j, j < 33 → Z.I 79 j = X.I 79 (j + 3)) (fun k q => ∃ Z, q = (nI k, wX b Z) ∧ Ch [79] X Z ∧ (∀ j, j < k → Z.I 79 j = X.I 79 (j + 3)) ∧ ∀ j, k ≤ j → Z.I 79 j = X.I 79 j) 33 ?_ ?_ 1000 ((0 : Int32), wX b X) (by omega) ⟨_, rfl, Ch.rf, fun j hj => by omega, fun _ _ => rfl⟩
  · obtain ⟨W, k1, Z, rfl, k2⟩ := key
    exact ⟨Z, k1, k2⟩
  · rintro k q hk ⟨Z, rfl, i1, i2, i3⟩
    refine ⟨(nI (k + 1), wX b (Z.sI 79 k (X.I 79 (k + 3)))), ?_, _, rfl, i1.sI (by simp), fun j hj => ?_, fun j hj => ?_⟩
    · have e3 : nI k + (3 : Int32) = nI (k + 3) := nI_add k 3
      unfold fMo_take_L55
      dsimp only
      rw [if_neg (show ¬ (33 : Int32) ≤ nI k from nI_ge (b := 33) hk (by decide)), bs mo_r26, bs mo_r26, Option.bind_some, e3, mo_a79, bs (ax_of (show k + 3 < 36 by omega) (by decide) rfl), Option.bind_some, Option.bind_some, mo_s79, ax_of (show k < 36 by omega) (by decide) rfl, Option.bind_some, Option.bind_some, nI_1, i3 (k + 3) (by omega)]
    · rw [sI_I]
      by_cases e : j = k
      · subst e; rw [up2_s]
      · rw [up2_k e]; exact i2 j (by omega)
    · rw [sI_I, up2_k (by omega)]
      exact i3 j (by omega)
  · rintro q ⟨Z, rfl, i1, i2, i3⟩
    refine ⟨_, ?_, Z, rfl, i1, i2⟩
    unfold fMo_take_L55
    dsimp only
    rw [if_pos (by decide)]
theorem keepR (hR : RH X Y) (ht : t < 2 ^ 31) (hc : Y.I 56 0 = nI t) (hp : p < 4) (hw : w < 65536) : ∃ X' Y', fHi_keep (b + 51) (nI t) (nI p) (nI w) (wX b X) = some (wX b X') ∧ fMo_take (b + 56) (nI p) (nI w) (wX b Y) = some (wX b Y') ∧ RH X' Y' ∧ Ch [51, 52, 53, 54, 55] X X' ∧ Ch [56, 77, 78, 79] Y Y' ∧ (∀ q, q ≠ 25 → Y'.I 56 q = Y.I 56 q) ∧ Y'.J 56 = Y.J 56 := by
  obtain ⟨st, old, hst, hold, x5, x4, y25, hs, hl⟩ := hR
  have ep : ax (nI p) 4 = some p := ax_of hp (by decide) rfl
  have a77 : aI (wX b Y) (b + 77) 1 (nI p) = some (Y.I 77 p) := by rw [mo_a77, bs ep]
  have a78 : aI (wX b Y) (b + 78) 0 (nI p) = some (Y.I 78 p) := by rw [mo_a78, bs ep]
  have a55 : aI (wX b X) (b + 55) 0 (nI p) = some (X.I 55 p) := by rw [hi_a3, bs ep]
  have hk1 : ¬ nI p < 0 := nI_pos (by omega)
  have hk2 : ¬ nI 4 ≤ nI p := nI_ge hp (by decide)
  by_cases same : Y.I 77 p = nI 1 ∧ Y.I 78 p = nI w
  · -- nothing new
    have hx : X.I 55 p = nI w := by
      rcases hl p hp with ⟨q, -⟩ | ⟨la, -, -, q2, q3⟩
      · rw [q] at same; exact absurd same.1 (by decide)
      · rw [q3, ← q2, same.2]
    refine ⟨X, Y, ?_, ?_, ⟨st, old, hst, hold, x5, x4, y25, hs, hl⟩, Ch.rf, Ch.rf, fun _ _ => rfl, rfl⟩
    · unfold fHi_keep
      rw [if_neg hk1, bs hi_r3, Option.bind_some, bs hi_n, if_neg hk2, bs hi_r3, Option.bind_some, bs a55, if_pos hx]
    · unfold fMo_take
      rw [bs mo_r23, Option.bind_some, bs a77, if_neg (by rw [same.1]; decide), bs mo_r24, Option.bind_some, bs a78, if_pos same.2]
  · have hx : ¬ X.I 55 p = nI w := by
      intro q
      rcases hl p hp with ⟨-, q1⟩ | ⟨la, l1, q1, q2, q3⟩
      · rw [q1] at q
        have h : ∀ w, w < 65536 → ¬ (-1 : Int32) = nI w := fun w hw e => by
          have h2 : nI w < 0 := by rw [← e]; decide
          exact nI_pos (by omega) h2
        exact h w hw q
      · rw [q3] at q
        exact same ⟨q1, by rw [q2, q]⟩
    -- the kind
    have epl : ax (nI ((old + st) % 12)) 12 = some ((old + st) % 12) := ax_of (Nat.mod_lt _ (by decide)) (by decide) rfl
    have er : (nI old + nI st) - (nI old + nI st) / (12 : Int32) * (12 : Int32) = nI ((old + st) % 12) := by
      rw [nI_add]; exact n_rem12 (by omega)
    have er1 : (nI old + (1 : Int32)) - (nI old + (1 : Int32)) / (12 : Int32) * (12 : Int32) = nI ((old + 1) % 12) := by
      rw [nI_1]; exact n_rem12 (by omega)
    let A := (((X.sI 55 p (nI w)).sI 52 ((old + st) % 12) (nI t)).sI 53 ((old + st) % 12) (nI p)).sI 54 ((old + st) % 12) (nI w)
    have hA : ∀ S', (if (12 : Int32) ≤ nI st then (gI (wX b A) (b + 51) [1] 4).bind fun v22 => (pV (wX b A) (b + 51) [1] 4 (.int ((v22 + (1 : Int32)) - (v22 + (1 : Int32)) / (12 : Int32) * (12 : Int32)))).bind fun S23 => some S23 else (gI (wX b A) (b + 51) [1] 5).bind fun v24 => (pV (wX b A) (b + 51) [1] 5 (.int (v24 + (1 : Int32)))).bind fun S25 => some S25) = some S' → fHi_keep (b + 51) (nI t) (nI p) (nI w) (wX b X) = some S' := by
      intro S' hS'
      have g4 : gI (wX b (X.sI 55 p (nI w))) (b + 51) [1] 4 = some (nI old) := by rw [hi_i4, sI_I, up2_o (by decide), x4]
      have g5 : gI (wX b (X.sI 55 p (nI w))) (b + 51) [1] 5 = some (nI st) := by rw [hi_i5, sI_I, up2_o (by decide), x5]
      have g5A : gI (wX b A) (b + 51) [1] 5 = some (nI st) := by
        rw [hi_i5]
        show some ((((X.sI 55 p (nI w)).sI 52 ((old + st) % 12) (nI t)).sI 53 ((old + st) % 12) (nI p)).sI 54 ((old + st) % 12) (nI w) |>.I 51 5) = _
        rw [sI_I, up2_o (by decide), sI_I, up2_o (by decide), sI_I, up2_o (by decide), sI_I, up2_o (by decide), x5]
      unfold fHi_keep
      rw [if_neg hk1, bs hi_r3, Option.bind_some, bs hi_n, if_neg hk2, bs hi_r3, Option.bind_some, bs a55, if_neg hx, bs hi_r3, Option.bind_some, hi_s3, ep, Option.bind_some, Option.bind_some, bs g4, bs g5, bs hi_r0, Option.bind_some, er, hi_s0, epl, Option.bind_some, Option.bind_some, bs hi_r1, Option.bind_some, hi_s1, epl, Option.bind_some, Option.bind_some, bs hi_r2, Option.bind_some, hi_s2, epl, Option.bind_some, Option.bind_some, bs g5A]
      exact hS'
    -- the model
    have hB : ∃ Z s', s' < 12 ∧ (if nI st = (12 : Int32) then (gI (wX b ((Y.sI 77 p 1).sI 78 p (nI w))) (b + 56) [8] 25).bind fun v14 => (pV (wX b ((Y.sI 77 p 1).sI 78 p (nI w))) (b + 56) [8] 25 (.int (v14 - (1 : Int32)))).bind fun S15 => (lp (fMo_take_L55 (b + 56)) 1000 ((0 : Int32), S15)).bind fun S19 => some S19 else some (wX b ((Y.sI 77 p 1).sI 78 p (nI w)))) = some (wX b Z) ∧ Z.I 56 25 = nI s' ∧ Ch [56, 79] ((Y.sI 77 p 1).sI 78 p (nI w)) Z ∧ (∀ q, q ≠ 25 → Z.I 56 q = Y.I 56 q) ∧ Z.J 56 = Y.J 56 ∧ ((st < 12 ∧ s' = st ∧ ∀ j, Z.I 79 j = Y.I 79 j) ∨ (st = 12 ∧ s' = 11 ∧ ∀ j, j < 33 → Z.I 79 j = Y.I 79 (j + 3))) := by
      have y25' : ((Y.sI 77 p 1).sI 78 p (nI w)).I 56 25 = nI st := by rw [sI_I, up2_o (by decide), sI_I, up2_o (by decide), y25]
      by_cases h12 : st = 12
      · obtain ⟨Z, z1, z2, z3⟩ := m_shift (b := b) (X := ((Y.sI 77 p 1).sI 78 p (nI w)).sI 56 25 (nI 11)) trivial
        refine ⟨Z, 11, by decide, ?_, ?_, ?_, ?_, ?_, Or.inr ⟨h12, rfl, fun j hj => ?_⟩⟩
        · rw [if_pos (by rw [h12]; rfl), mo_i25, y25', h12, Option.bind_some, show nI 12 - (1 : Int32) = nI 11 from rfl, bs mo_p25, bs z1]
        · rw [(z2.2.2 56 (by simp)).1, sI_I, up2_s]
        · exact (Ch.rf.sI (by simp)).tr (z2.mono (by simp))
        · intro q hq
          rw [(z2.2.2 56 (by simp)).1, sI_I, up2_k hq, sI_I, up2_o (by decide), sI_I, up2_o (by decide)]
        · rw [(z2.2.2 56 (by simp)).2.2]; rfl
        · rw [z3 j hj, sI_I, up2_o (by decide), sI_I, up2_o (by decide), sI_I, up2_o (by decide)]
      · refine ⟨_, st, by omega, ?_, y25', Ch.rf, fun q _ => ?_, rfl, Or.inl ⟨by omega, rfl, fun j => ?_⟩⟩
        · rw [if_neg (by rw [q_12 (by omega)]; exact h12)]
        · rw [sI_I, up2_o (by decide), sI_I, up2_o (by decide)]
        · rw [sI_I, up2_o (by decide), sI_I, up2_o (by decide)]
    obtain ⟨Z, s', hs', hZ, z25, zc, zq, zJ, zc2⟩ := hB
    let B := (((Z.sI 79 (3 * s') (nI t)).sI 79 (3 * s' + 1) (nI p)).sI 79 (3 * s' + 2) (nI w)).sI 56 25 (nI (s' + 1))
    have hJ : fMo_take_J20_1 (wX b Y) (b + 56) (nI p) (nI w) = some (wX b B) := by
      have g25 : gI (wX b ((Y.sI 77 p 1).sI 78 p (nI w))) (b + 56) [8] 25 = some (nI st) := by rw [mo_i25, sI_I, up2_o (by decide), sI_I, up2_o (by decide), y25]
      have e3 : (3 : Int32) * nI s' = nI (3 * s') := pk_mul 3 s'
      have e31 : nI (3 * s') + (1 : Int32) = nI (3 * s' + 1) := nI_1 _
      have e32 : nI (3 * s') + (2 : Int32) = nI (3 * s' + 2) := nI_add _ 2
      have x0 : ax (nI (3 * s')) 36 = some (3 * s') := ax_of (by omega) (by decide) rfl
      have x1 : ax (nI (3 * s' + 1)) 36 = some (3 * s' + 1) := ax_of (by omega) (by decide) rfl
      have x2 : ax (nI (3 * s' + 2)) 36 = some (3 * s' + 2) := ax_of (by omega) (by decide) rfl
      have h25a : gI (wX b Z) (b + 56) [8] 25 = some (nI s') := by rw [mo_i25, z25]
      have h0a : gI (wX b Z) (b + 56) [8] 0 = some (nI t) := by rw [mo_i0, zq 0 (by decide), hc]
      have h25b : gI (wX b (Z.sI 79 (3 * s') (nI t))) (b + 56) [8] 25 = some (nI s') := by rw [mo_i25, sI_I, up2_o (by decide), z25]
      have h25c : gI (wX b ((Z.sI 79 (3 * s') (nI t)).sI 79 (3 * s' + 1) (nI p))) (b + 56) [8] 25 = some (nI s') := by rw [mo_i25, sI_I, up2_o (by decide), sI_I, up2_o (by decide), z25]
      have h25d : gI (wX b (((Z.sI 79 (3 * s') (nI t)).sI 79 (3 * s' + 1) (nI p)).sI 79 (3 * s' + 2) (nI w))) (b + 56) [8] 25 = some (nI s') := by rw [mo_i25, sI_I, up2_o (by decide), sI_I, up2_o (by decide), sI_I, up2_o (by decide), z25]
      unfold fMo_take_J20_1
      rw [bs mo_r23, Option.bind_some, bs bz_1, mo_s77, ep, Option.bind_some, Option.bind_some, bs mo_r24, Option.bind_some, mo_s78, ep, Option.bind_some, Option.bind_some, bs g25, bs hZ, bs mo_r26, bs h25a, bs h0a, Option.bind_some, e3, mo_s79, x0, Option.bind_some, Option.bind_some, bs mo_r26, bs h25b, Option.bind_some, e3, e31, mo_s79, x1, Option.bind_some, Option.bind_some, bs mo_r26, bs h25c, Option.bind_some, e3, e32, mo_s79, x2, Option.bind_some, Option.bind_some, bs h25d, nI_1, bs mo_p25]
    have hM : fMo_take (b + 56) (nI p) (nI w) (wX b Y) = some (wX b B) := by
      unfold fMo_take
      rw [bs mo_r23, Option.bind_some, bs a77]
      rcases hl p hp with ⟨q, -⟩ | ⟨la, l1, q1, q2, -⟩
      · rw [if_pos (by rw [q]; rfl), hJ]
      · rw [if_neg (by rw [q1]; decide), bs mo_r24, Option.bind_some, bs a78, if_neg (fun q => same ⟨q1, q⟩), hJ]
    have b79 : ∀ j, B.I 79 j = if j = 3 * s' + 2 then nI w else if j = 3 * s' + 1 then nI p else if j = 3 * s' then nI t else Z.I 79 j := by
      intro j
      show (((Z.sI 79 (3 * s') (nI t)).sI 79 (3 * s' + 1) (nI p)).sI 79 (3 * s' + 2) (nI w) |>.sI 56 25 (nI (s' + 1))).I 79 j = _
      rw [sI_I, up2_o (by decide), sI_I]
      by_cases q1 : j = 3 * s' + 2
      · rw [if_pos q1, q1, up2_s]
      · rw [if_neg q1, up2_k q1, sI_I]
        by_cases q2 : j = 3 * s' + 1
        · rw [if_pos q2, q2, up2_s]
        · rw [if_neg q2, up2_k q2, sI_I]
          by_cases q3 : j = 3 * s'
          · rw [if_pos q3, q3, up2_s]
          · rw [if_neg q3, up2_k q3]
    have b77 : ∀ j, B.I 77 j = if j = p then nI 1 else Y.I 77 j := by
      intro j
      show (((Z.sI 79 (3 * s') (nI t)).sI 79 (3 * s' + 1) (nI p)).sI 79 (3 * s' + 2) (nI w) |>.sI 56 25 (nI (s' + 1))).I 77 j = _
      rw [sI_I, up2_o (by decide), sI_I, up2_o (by decide), sI_I, up2_o (by decide), sI_I, up2_o (by decide), (zc.2.2 77 (by simp)).1, sI_I, up2_o (by decide), sI_I]
      by_cases q : j = p
      · rw [if_pos q, q, up2_s]; rfl
      · rw [if_neg q, up2_k q]
    have b78 : ∀ j, B.I 78 j = if j = p then nI w else Y.I 78 j := by
      intro j
      show (((Z.sI 79 (3 * s') (nI t)).sI 79 (3 * s' + 1) (nI p)).sI 79 (3 * s' + 2) (nI w) |>.sI 56 25 (nI (s' + 1))).I 78 j = _
      rw [sI_I, up2_o (by decide), sI_I, up2_o (by decide), sI_I, up2_o (by decide), sI_I, up2_o (by decide), (zc.2.2 78 (by simp)).1, sI_I]
      by_cases q : j = p
      · rw [if_pos q, q, up2_s]
      · rw [if_neg q, up2_k q, sI_I, up2_o (by decide)]
    have bC : Ch [56, 77, 78, 79] Y B := ((((((Ch.rf.sI (by simp)).sI (by simp)).tr (zc.mono (by simp))).sI (by simp)).sI (by simp)).sI (by simp)).sI (by simp)
    have bq : ∀ q, q ≠ 25 → B.I 56 q = Y.I 56 q := by
      intro q hq
      show (((Z.sI 79 (3 * s') (nI t)).sI 79 (3 * s' + 1) (nI p)).sI 79 (3 * s' + 2) (nI w) |>.sI 56 25 (nI (s' + 1))).I 56 q = _
      rw [sI_I, up2_k hq, sI_I, up2_o (by decide), sI_I, up2_o (by decide), sI_I, up2_o (by decide), zq q hq]
    have b25 : B.I 56 25 = nI (s' + 1) := by
      show (((Z.sI 79 (3 * s') (nI t)).sI 79 (3 * s' + 1) (nI p)).sI 79 (3 * s' + 2) (nI w) |>.sI 56 25 (nI (s' + 1))).I 56 25 = _
      rw [sI_I, up2_s]
    have bJ : B.J 56 = Y.J 56 := zJ
    have aI' : ∀ q, A.I 51 q = X.I 51 q := by
      intro q
      show ((((X.sI 55 p (nI w)).sI 52 ((old + st) % 12) (nI t)).sI 53 ((old + st) % 12) (nI p)).sI 54 ((old + st) % 12) (nI w)).I 51 q = _
      rw [sI_I, up2_o (by decide), sI_I, up2_o (by decide), sI_I, up2_o (by decide), sI_I, up2_o (by decide)]
    have a52 : ∀ q, A.I 52 q = if q = (old + st) % 12 then nI t else X.I 52 q := by
      intro q
      show ((((X.sI 55 p (nI w)).sI 52 ((old + st) % 12) (nI t)).sI 53 ((old + st) % 12) (nI p)).sI 54 ((old + st) % 12) (nI w)).I 52 q = _
      rw [sI_I, up2_o (by decide), sI_I, up2_o (by decide), sI_I]
      by_cases e : q = (old + st) % 12
      · rw [if_pos e, e, up2_s]
      · rw [if_neg e, up2_k e, sI_I, up2_o (by decide)]
    have a53 : ∀ q, A.I 53 q = if q = (old + st) % 12 then nI p else X.I 53 q := by
      intro q
      show ((((X.sI 55 p (nI w)).sI 52 ((old + st) % 12) (nI t)).sI 53 ((old + st) % 12) (nI p)).sI 54 ((old + st) % 12) (nI w)).I 53 q = _
      rw [sI_I, up2_o (by decide), sI_I]
      by_cases e : q = (old + st) % 12
      · rw [if_pos e, e, up2_s]
      · rw [if_neg e, up2_k e, sI_I, up2_o (by decide), sI_I, up2_o (by decide)]
    have a54 : ∀ q, A.I 54 q = if q = (old + st) % 12 then nI w else X.I 54 q := by
      intro q
      show ((((X.sI 55 p (nI w)).sI 52 ((old + st) % 12) (nI t)).sI 53 ((old + st) % 12) (nI p)).sI 54 ((old + st) % 12) (nI w)).I 54 q = _
      rw [sI_I]
      by_cases e : q = (old + st) % 12
      · rw [if_pos e, e, up2_s]
      · rw [if_neg e, up2_k e, sI_I, up2_o (by decide), sI_I, up2_o (by decide), sI_I, up2_o (by decide)]
    have a55' : ∀ q, A.I 55 q = if q = p then nI w else X.I 55 q := by
      intro q
      show ((((X.sI 55 p (nI w)).sI 52 ((old + st) % 12) (nI t)).sI 53 ((old + st) % 12) (nI p)).sI 54 ((old + st) % 12) (nI w)).I 55 q = _
      rw [sI_I, up2_o (by decide), sI_I, up2_o (by decide), sI_I, up2_o (by decide), sI_I]
      by_cases e : q = p
      · rw [if_pos e, e, up2_s]
      · rw [if_neg e, up2_k e]
    have aC : Ch [51, 52, 53, 54, 55] X A := (((Ch.rf.sI (by simp)).sI (by simp)).sI (by simp)).sI (by simp)
    have hlat : ∀ q, q < 4 → (B.I 77 q = nI 0 ∧ A.I 55 q = -1) ∨ (∃ la, la < 65536 ∧ B.I 77 q = nI 1 ∧ B.I 78 q = nI la ∧ A.I 55 q = nI la) := by
      intro q hq
      rw [b77, b78, a55']
      by_cases e : q = p
      · rw [if_pos e, if_pos e, if_pos e]
        exact Or.inr ⟨w, hw, rfl, rfl, rfl⟩
      · rw [if_neg e, if_neg e, if_neg e]
        exact hl q hq
    rcases zc2 with ⟨c1, rfl, c3⟩ | ⟨rfl, rfl, c3⟩
    · -- room is left
      refine ⟨A.sI 51 5 (nI (s' + 1)), B, hA _ ?_, hM, ⟨s' + 1, old, by omega, hold, ?_, ?_, b25, fun k hk => ?_, fun q hq => ?_⟩, aC.sI (by simp), bC, bq, bJ⟩
      · rw [if_neg (show ¬ (12 : Int32) ≤ nI s' from nI_ge (b := 12) hs' (by decide)), hi_i5, aI', x5, Option.bind_some, nI_1, bs hi_p5]
      · rw [sI_I, up2_s]
      · rw [sI_I, up2_k (by decide), aI', x4]
      · rw [sI_I, up2_o (by decide), up2_o (by decide), up2_o (by decide), a52, a53, a54, b79, b79, b79]
        by_cases e : k = s'
        · subst e
          rw [if_pos rfl, if_pos rfl, if_pos rfl, if_neg (by omega), if_neg (by omega), if_pos rfl, if_neg (by omega), if_pos rfl, if_pos rfl]
          exact ⟨rfl, rfl, rfl⟩
        · have hne : (old + k) % 12 ≠ (old + s') % 12 := by omega
          rw [if_neg hne, if_neg hne, if_neg hne, if_neg (by omega), if_neg (by omega), if_neg (by omega), if_neg (by omega), if_neg (by omega), if_neg (by omega), if_neg (by omega), if_neg (by omega), if_neg (by omega), c3, c3, c3]
          exact hs k (by omega)
      · rw [sI_I, up2_o (by decide)]
        exact hlat q hq
    · -- the oldest gives way
      refine ⟨A.sI 51 4 (nI ((old + 1) % 12)), B, hA _ ?_, hM, ⟨12, (old + 1) % 12, by decide, Nat.mod_lt _ (by decide), ?_, ?_, b25, fun k hk => ?_, fun q hq => ?_⟩, aC.sI (by simp), bC, bq, bJ⟩
      · rw [if_pos (by decide), hi_i4, aI', x4, Option.bind_some, er1, bs hi_p4]
      · rw [sI_I, up2_k (by decide), aI', x5]
      · rw [sI_I, up2_s]
      · rw [sI_I, up2_o (by decide), up2_o (by decide), up2_o (by decide), a52, a53, a54, b79, b79, b79]
        by_cases e : k = 11
        · subst e
          have e1 : ((old + 1) % 12 + 11) % 12 = (old + 12) % 12 := by omega
          rw [if_pos e1, if_pos e1, if_pos e1, if_neg (by omega), if_neg (by omega), if_pos rfl, if_neg (by omega), if_pos rfl, if_pos rfl]
          exact ⟨rfl, rfl, rfl⟩
        · have hne : ((old + 1) % 12 + k) % 12 ≠ (old + 12) % 12 := by omega
          have e2 : ((old + 1) % 12 + k) % 12 = (old + (k + 1)) % 12 := by omega
          rw [if_neg hne, if_neg hne, if_neg hne, if_neg (by omega), if_neg (by omega), if_neg (by omega), if_neg (by omega), if_neg (by omega), if_neg (by omega), if_neg (by omega), if_neg (by omega), if_neg (by omega), c3 _ (by omega), c3 _ (by omega), c3 _ (by omega), e2]
          have := hs (k + 1) (by omega)
          rw [show 3 * k + 3 = 3 * (k + 1) by omega, show 3 * k + 1 + 3 = 3 * (k + 1) + 1 by omega, show 3 * k + 2 + 3 = 3 * (k + 1) + 2 by omega]
          exact this
      · rw [sI_I, up2_o (by decide)]
        exact hlat q hq
end HI
