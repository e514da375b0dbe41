/-! reply, line, wire, sample, samples: what the two sides answer is the same, and nothing changes. -/
theorem w_ix (x : Int32) {n : Nat} (S : Ws) (hn : n < 2 ^ 30) : (∃ k, k < n ∧ x = nI k ∧ fMo_within x (0 : Int32) (nI n - (1 : Int32)) S = some (1, S)) ∨ ((x < 0 ∨ nI n ≤ x) ∧ fMo_within x (0 : Int32) (nI n - (1 : Int32)) S = some (0, S)) := by
  by_cases h0 : n = 0
  · subst h0
    right
    by_cases e : x < 0
    · exact ⟨Or.inl e, w_out _ (Or.inl e)⟩
    · have h1 : (0 : Int32) ≤ x := Int32.not_lt.mp e
      refine ⟨Or.inr h1, w_out _ (Or.inr ?_)⟩
      rw [i_le, i_0] at h1
      rw [i_lt]
      have : (nI 0 - (1 : Int32)).toInt = -1 := by decide
      rw [this]
      omega
  · have e : nI n - (1 : Int32) = nI (n - 1) := pk_sub (b := 1) (by omega)
    rw [e]
    rcases tri x (lo := 0) (hi := n - 1) (by omega) (by omega) with ⟨k, k0, k1, rfl⟩ | h
    · exact Or.inl ⟨k, by omega, rfl, w_in (lo := 0) _ k0 k1 (by omega)⟩
    · right
      refine ⟨?_, w_out _ h⟩
      rcases h with h | h
      · exact Or.inl h
      · right
        rw [i_lt, nI_toInt (by omega)] at h
        rw [i_le, nI_toInt (by omega)]
        omega
theorem z_out {z : Int32} (h : z < nI 0 ∨ nI 2 < z) : ¬ z = 0 ∧ ¬ z = 1 ∧ ¬ z = 2 := by
  refine ⟨fun e => ?_, fun e => ?_, fun e => ?_⟩ <;> (subst e; revert h; decide)
section RD
variable {b t nr np j i : Nat} {E : Nat → Nat → Nat} {al ln d off ls : Nat → Nat} {tb : Nat → Nat → Nat → Nat} {cur : Nat → Option Nat} {q : Nat → List Nat} {X Y X2 Y2 : Xs}
theorem reply_step (hI : Inv b t nr np E al ln d off ls tb cur q X Y) (x z : Int32) : ∃ r, fPl_reply b x z (wX b X) = some (r, wX b X) ∧ fMo_reply (b + 56) x z (wX b Y) = some (r, wX b Y) := by
  have h64 := hI.1.1
  have g5 : gI (wX b X) b [7] 5 = some (nI nr) := by rw [pl_i5, hI.1.2.2.2.1]
  have g10 : gI (wX b Y) (b + 56) [8] 10 = some (nI nr) := by rw [mo_i10, hI.1.2.2.2.2.2.2.2.1]
  rcases w_ix x (n := nr) (wX b Y) (by omega) with ⟨i, hi, rfl, hw⟩ | ⟨h, hw⟩
  · have hq := hI.2.2.1.1 i (Or.inl hi)
    obtain ⟨r1, -, -, -, -, -, s6, s7, s8⟩ := hq.2.2.1 (by omega)
    have ei : ax (nI i) 64 = some i := ax_of (by omega) (by decide) rfl
    have ar : aR (wX b X) (b + 49) 5 (nI i) = some (some (b + E 0 i)) := by rw [ra_r, bs ei, hI.2.2.1.2.1 i hi]
    have preC : ∀ R, (if z = 0 then (gI (wX b X) (b + E 0 i) [4] 6).bind fun v11 => some (v11.toInt64, wX b X) else if z = 1 then (gI (wX b X) (b + E 0 i) [4] 7).bind fun v13 => some (v13.toInt64, wX b X) else if z = 2 then (gL (wX b X) (b + E 0 i) [4] 8).bind fun u15 => some (u15, wX b X) else some ((-1 : Int64), wX b X)) = R → fPl_reply b (nI i) z (wX b X) = R := by
      intro R hR
      unfold fPl_reply
      rw [if_neg (nI_pos (by omega)), bs g5, if_neg (nI_ge hi (by omega)), bs pl_r2, Option.bind_some, bs ar, Option.bind_some, oc_some]
      exact hR
    rcases tri z (lo := 0) (hi := 2) (by omega) (by omega) with ⟨m, -, hm, rfl⟩ | h
    · have w2 : fMo_within (nI m) (0 : Int32) (2 : Int32) (wX b Y) = some (1, wX b Y) := w_in (lo := 0) (hi := 2) _ (by omega) hm (by decide)
      have hm : m = 0 ∨ m = 1 ∨ m = 2 := by omega
      have preM : ∀ R, (if nI m = 0 then (gR (wX b Y) (b + 56) [8] 16).bind fun r13 => (r13).bind fun a14 => (aI (wX b Y) a14 0 (nI i)).bind fun v15 => some (v15.toInt64, wX b Y) else if nI m = (1 : Int32) then (gR (wX b Y) (b + 56) [8] 17).bind fun r9 => (r9).bind fun a10 => (aI (wX b Y) a10 0 (nI i)).bind fun v11 => some (v11.toInt64, wX b Y) else (gR (wX b Y) (b + 56) [8] 18).bind fun r6 => (r6).bind fun a7 => (aL (wX b Y) a7 2 (nI i)).bind fun u8 => some (u8, wX b Y)) = R → fMo_reply (b + 56) (nI i) (nI m) (wX b Y) = R := by
        intro R hR
        unfold fMo_reply
        rw [bs g10, bs hw]
        dsimp only
        rw [if_neg (by decide), bs w2]
        dsimp only
        rw [if_neg (by decide)]
        exact hR
      rcases hm with rfl | rfl | rfl
      · refine ⟨(Y.I 71 i).toInt64, preC _ ?_, preM _ ?_⟩
        · rw [if_pos (show nI 0 = (0 : Int32) from rfl), bs (re_i6 r1), s6]
        · rw [if_pos (show nI 0 = (0 : Int32) from rfl), bs mo_r16, Option.bind_some, mo_a71, bs ei, Option.bind_some]
      · refine ⟨(Y.I 72 i).toInt64, preC _ ?_, preM _ ?_⟩
        · rw [if_neg (by decide), if_pos (show nI 1 = (1 : Int32) from rfl), bs (re_i7 r1), s7]
        · rw [if_neg (by decide), if_pos (show nI 1 = (1 : Int32) from rfl), bs mo_r17, Option.bind_some, mo_a72, bs ei, Option.bind_some]
      · refine ⟨Y.J 73 i, preC _ ?_, preM _ ?_⟩
        · rw [if_neg (by decide), if_neg (by decide), if_pos (show nI 2 = (2 : Int32) from rfl), bs (re_j8 r1), s8]
        · rw [if_neg (by decide), if_neg (by decide), bs mo_r18, Option.bind_some, mo_a73, bs ei, Option.bind_some]
    · obtain ⟨z0, z1, z2⟩ := z_out h
      have w2 : fMo_within z (0 : Int32) (2 : Int32) (wX b Y) = some (0, wX b Y) := w_out _ h
      refine ⟨-1, preC _ ?_, ?_⟩
      · rw [if_neg z0, if_neg z1, if_neg z2]
      · unfold fMo_reply
        rw [bs g10, bs hw]
        dsimp only
        rw [if_neg (by decide), bs w2]
        dsimp only
        rw [if_pos rfl]
  · refine ⟨-1, ?_, ?_⟩
    · unfold fPl_reply
      by_cases e : x < 0
      · rw [if_pos e, Option.bind_some, oc_none]
      · rw [if_neg e, bs g5, if_pos (h.resolve_left e), Option.bind_some, oc_none]
    · unfold fMo_reply
      rw [bs g10, bs hw]
      dsimp only
      rw [if_pos rfl]
theorem line_step (hI : Inv b t nr np E al ln d off ls tb cur q X Y) (x z : Int32) : ∃ r, fPl_line b x z (wX b X) = some (r, wX b X) ∧ fMo_line (b + 56) x z (wX b Y) = some (r, wX b Y) := by
  rcases tri x (lo := 0) (hi := 1) (by omega) (by omega) with ⟨j, -, l1, rfl⟩ | h
  · have hj : j < 2 := by omega
    have hlin := li_of hj
    have ej : ax (nI j) 2 = some j := ax_of hj (by decide) rfl
    have w1 : fMo_within (nI j) (0 : Int32) (1 : Int32) (wX b Y) = some (1, wX b Y) := w_in (lo := 0) (hi := 1) _ (by omega) l1 (by decide)
    obtain ⟨⟨a1, a2, a3, a4⟩, g1, ⟨c1, c2⟩, d1, e1, f1, k1⟩ := hI.2.2.2.1 j hj
    have preC : ∀ R, (if z = 0 then (gI (wX b X) (b + (33 + 8 * j)) [2] 4).bind fun v8 => some (v8, wX b X) else if z = 1 then (gI (wX b X) (b + (33 + 8 * j)) [2] 6).bind fun v11 => some (v11, wX b X) else if z = 2 then (gR (wX b X) (b + (33 + 8 * j)) [2] 5).bind fun r14 => oc r14 (some ((-1 : Int32), wX b X)) (fun a15 => (gR (wX b X) (b + (33 + 8 * j)) [2] 5).bind fun r16 => (r16).bind fun a17 => (gI (wX b X) a17 [3, 4] 0).bind fun v18 => some (v18, wX b X)) else some ((-1 : Int32), wX b X)) = R → fPl_line b (nI j) z (wX b X) = R := by
      intro R hR
      unfold fPl_line
      rw [bs (l_in _ hj)]
      dsimp only
      rw [if_neg (by decide), bs pl_r1, Option.bind_some, la_r, bs ej, if_pos hj, Option.bind_some, Option.bind_some, Option.bind_some, Option.bind_some]
      exact hR
    rcases tri z (lo := 0) (hi := 2) (by omega) (by omega) with ⟨m, -, hm, rfl⟩ | h
    · have w2 : fMo_within (nI m) (0 : Int32) (2 : Int32) (wX b Y) = some (1, wX b Y) := w_in (lo := 0) (hi := 2) _ (by omega) hm (by decide)
      have hm : m = 0 ∨ m = 1 ∨ m = 2 := by omega
      have preM : ∀ R, (if nI m = 0 then (gR (wX b Y) (b + 56) [8] 28).bind fun r16 => (r16).bind fun a17 => (aI (wX b Y) a17 0 (nI j)).bind fun v18 => some (v18, wX b Y) else if nI m = (2 : Int32) then (gR (wX b Y) (b + 56) [8] 29).bind fun r12 => (r12).bind fun a13 => (aI (wX b Y) a13 0 (nI j)).bind fun v14 => some (v14, wX b Y) else (gR (wX b Y) (b + 56) [8] 29).bind fun r5 => (r5).bind fun a6 => (aI (wX b Y) a6 0 (nI j)).bind fun v7 => if 0 ≤ v7 then (gR (wX b Y) (b + 56) [8] 30).bind fun r8 => (r8).bind fun a9 => (aI (wX b Y) a9 0 (nI j)).bind fun v10 => some (v10, wX b Y) else some ((0 : Int32), wX b Y)) = R → fMo_line (b + 56) (nI j) (nI m) (wX b Y) = R := by
        intro R hR
        unfold fMo_line
        rw [bs w1]
        dsimp only
        rw [if_neg (by decide), bs w2]
        dsimp only
        rw [if_neg (by decide)]
        exact hR
      have a82 : aI (wX b Y) (b + 82) 0 (nI j) = some (busyI (cur j)) := by rw [mo_a82, bs ej, c2]
      have a83 : aI (wX b Y) (b + 83) 0 (nI j) = some (Y.I 83 j) := by rw [mo_a83, bs ej]
      have g5 : gR (wX b X) (b + (33 + 8 * j)) [2] 5 = some ((cur j).map (fun i => b + E 0 i)) := by rw [Li_q5 hlin, c1]
      rcases hm with rfl | rfl | rfl
      · refine ⟨nI (q j).length, preC _ ?_, preM _ ?_⟩
        · rw [if_pos (show nI 0 = (0 : Int32) from rfl), bs (Li_i4 hlin), a3]
        · rw [if_pos (show nI 0 = (0 : Int32) from rfl), bs mo_r28, Option.bind_some, mo_a81, bs ej, Option.bind_some, a4]
      · refine ⟨X.I (33 + 8 * j) 6, preC _ ?_, preM _ ?_⟩
        · rw [if_neg (by decide), if_pos (show nI 1 = (1 : Int32) from rfl), bs (Li_i6 hlin)]
        · rw [if_neg (by decide), if_neg (by decide), bs mo_r29, Option.bind_some, bs a82]
          cases hc : cur j with
          | none =>
            rw [f1 hc, if_neg (show ¬ (0 : Int32) ≤ busyI none by decide)]
          | some i =>
            have hi := (hI.live hj hc).2.2.1
            rw [if_pos (show (0 : Int32) ≤ busyI (some i) by show (0 : Int32) ≤ nI i; rw [ge_0 (by omega)]; omega), bs mo_r30, Option.bind_some, bs a83, (k1 i hc).1]
      · cases hc : cur j with
        | none =>
          rw [hc] at g5 a82
          refine ⟨-1, preC _ ?_, preM _ ?_⟩
          · rw [if_neg (by decide), if_neg (by decide), if_pos (show nI 2 = (2 : Int32) from rfl), bs g5]
            rfl
          · rw [if_neg (by decide), if_pos (show nI 2 = (2 : Int32) from rfl), bs mo_r29, Option.bind_some, bs a82]
            rfl
        | some i =>
          have hq := (hI.live hj hc).2.1
          have g5 : gR (wX b X) (b + (33 + 8 * j)) [2] 5 = some (some (b + E 0 i)) := by rw [g5, hc]; rfl
          have a82 : aI (wX b Y) (b + 82) 0 (nI j) = some (nI i) := by rw [a82, hc]; rfl
          refine ⟨nI i, preC _ ?_, preM _ ?_⟩
          · rw [if_neg (by decide), if_neg (by decide), if_pos (show nI 2 = (2 : Int32) from rfl), bs g5, oc_some, bs g5, Option.bind_some, bs (jo_i0 hq.1.1), hq.2.1]
          · rw [if_neg (by decide), if_pos (show nI 2 = (2 : Int32) from rfl), bs mo_r29, Option.bind_some, bs a82]
    · obtain ⟨z0, z1, z2⟩ := z_out h
      have w2 : fMo_within z (0 : Int32) (2 : Int32) (wX b Y) = some (0, wX b Y) := w_out _ h
      refine ⟨-1, preC _ ?_, ?_⟩
      · rw [if_neg z0, if_neg z1, if_neg z2]
      · unfold fMo_line
        rw [bs w1]
        dsimp only
        rw [if_neg (by decide), bs w2]
        dsimp only
        rw [if_pos rfl]
  · have wo : fMo_within x (0 : Int32) (1 : Int32) (wX b Y) = some (0, wX b Y) := w_out _ h
    refine ⟨-1, ?_, ?_⟩
    · unfold fPl_line
      rw [bs (l_out _ h)]
      dsimp only
      rw [if_pos rfl]
    · unfold fMo_line
      rw [bs wo]
      dsimp only
      rw [if_pos rfl]
theorem wire_step (hI : Inv b t nr np E al ln d off ls tb cur q X Y) (x y z : Int32) : ∃ r, fPl_wire b x y z (wX b X) = some (r, wX b X) ∧ fMo_wire (b + 56) x y z (wX b Y) = some (r, wX b Y) := by
  rcases tri x (lo := 0) (hi := 1) (by omega) (by omega) with ⟨j, -, l1, rfl⟩ | h
  · have hj : j < 2 := by omega
    have hlin := li_of hj
    obtain ⟨ql, gl⟩ := Li_o (b := b) (X := X) hlin
    have ej : ax (nI j) 2 = some j := ax_of hj (by decide) rfl
    have w1 : fMo_within (nI j) (0 : Int32) (1 : Int32) (wX b Y) = some (1, wX b Y) := w_in (lo := 0) (hi := 1) _ (by omega) l1 (by decide)
    obtain ⟨L, L', f1, f2, f3, f4⟩ := hI.2.2.2.2.2.1 j hj
    have go : ∀ (o w : Nat) (M : List Int32), isWa o → isFr (o + 1) → w < 4 → FrL X (o + 1) M → FrM Y w M → fLi_wayOf (b + (33 + 8 * j)) y (wX b X) = some (some (b + o), wX b X) → (if y = 0 then some (nI j) else some (nI j + (2 : Int32))) = some (nI w) → ∃ r, fPl_wire b (nI j) y z (wX b X) = some (r, wX b X) ∧ fMo_wire (b + 56) (nI j) y z (wX b Y) = some (r, wX b Y) := by
      intro o w M hwa hfr hw hF hM hway hsel
      obtain ⟨qf, gf⟩ := Fr_o (b := b) (X := X) hfr
      have hlen := hF.2.1
      have ew : ax (nI w) 4 = some w := ax_of hw (by decide) rfl
      have a91 : aI (wX b Y) (b + 91) 0 (nI w) = some (nI M.length) := by rw [mo_a91, bs ew, hM.1]
      have preC : ∀ R, (if z = (-1 : Int32) then (gI (wX b X) (b + (o + 1)) [0] 1).bind fun v17 => some (v17, wX b X) else (gO (wX b X) (b + (o + 1)) [0]).bind fun q15 => (fFr_byteAt (b + (o + 1)) z (wX b X)).bind fun (v14, S13) => some (v14, S13)) = R → fPl_wire b (nI j) y z (wX b X) = R := by
        intro R hR
        unfold fPl_wire
        rw [bs (l_in _ hj)]
        dsimp only
        rw [if_neg (by decide), bs pl_r1, Option.bind_some, la_r, bs ej, if_pos hj, Option.bind_some, Option.bind_some, bs gl, bs hway]
        dsimp only
        rw [Option.bind_some, bs (Wa_r0 hwa), Option.bind_some, Option.bind_some]
        exact hR
      have preM : ∀ R, (if z = (-1 : Int32) then some (nI M.length, wX b Y) else (fMo_within z (0 : Int32) (nI M.length - (1 : Int32)) (wX b Y)).bind fun (v10, S9) => if v10 = 0 then some ((-1 : Int32), S9) else (gR S9 (b + 56) [8] 37).bind fun r11 => (r11).bind fun a12 => (aI S9 a12 0 (((48 : Int32) * nI w) + z)).bind fun v13 => some (v13, S9)) = R → fMo_wire (b + 56) (nI j) y z (wX b Y) = R := by
        intro R hR
        unfold fMo_wire
        rw [bs w1]
        dsimp only
        rw [if_neg (by decide), bs hsel, bs mo_r38, Option.bind_some, bs a91, bs mo_r38, Option.bind_some, bs a91]
        exact hR
      by_cases ez : z = -1
      · refine ⟨nI M.length, preC _ ?_, preM _ ?_⟩
        · rw [if_pos ez, bs (Fr_i1 hfr), hF.1]
        · rw [if_pos ez]
      · rcases w_ix z (n := M.length) (wX b Y) (by omega) with ⟨k, hk, rfl, hw2⟩ | ⟨h, hw2⟩
        · refine ⟨M.getD k 0, preC _ ?_, preM _ ?_⟩
          · rw [if_neg ez, bs gf]
            exact (bs (s_byteAt' hfr hF k hk)).trans rfl
          · have e48 : (48 : Int32) * nI w + nI k = nI (48 * w + k) := by rw [show (48 : Int32) * nI w = nI (48 * w) from pk_mul 48 w, nI_add]
            rw [if_neg ez, bs hw2]
            dsimp only
            rw [if_neg (by decide), bs mo_r37, Option.bind_some, e48, mo_a90, bs (ax_of (show 48 * w + k < 192 by omega) (by decide) rfl), Option.bind_some, hM.2.2 k hk]
        · have hb : fFr_byteAt (b + (o + 1)) z (wX b X) = some (-1, wX b X) := by
            unfold fFr_byteAt
            by_cases e : z < 0
            · rw [if_pos e]
            · rw [if_neg e, bs (Fr_i1 hfr), hF.1, if_pos (h.resolve_left e)]
          refine ⟨-1, preC _ ?_, preM _ ?_⟩
          · rw [if_neg ez, bs gf]
            exact (bs hb).trans rfl
          · rw [if_neg ez, bs hw2]
            dsimp only
            rw [if_pos rfl]
    by_cases ey : y = 0
    · refine go (33 + 8 * j + 1) j L (by unfold isWa; omega) (by unfold isFr; omega) (by omega) f1 f2 ?_ (if_pos ey)
      unfold fLi_wayOf
      rw [if_pos ey, bs (Li_r1 hlin)]
    · refine go (33 + 8 * j + 4) (j + 2) L' (by unfold isWa; omega) (by unfold isFr; omega) (by omega) f3 f4 ?_ ?_
      · unfold fLi_wayOf
        rw [if_neg ey, bs (Li_r2 hlin)]
      · rw [if_neg ey]
        exact congrArg some (nI_add j 2)
  · have wo : fMo_within x (0 : Int32) (1 : Int32) (wX b Y) = some (0, wX b Y) := w_out _ h
    refine ⟨-1, ?_, ?_⟩
    · unfold fPl_wire
      rw [bs (l_out _ h)]
      dsimp only
      rw [if_pos rfl]
    · unfold fMo_wire
      rw [bs wo]
      dsimp only
      rw [if_pos rfl]
theorem sample_step (hI : Inv b t nr np E al ln d off ls tb cur q X Y) (x z : Int32) : ∃ r, fPl_sample b x z (wX b X) = some (r, wX b X) ∧ fMo_sample (b + 56) x z (wX b Y) = some (r, wX b Y) := by
  obtain ⟨st, old, hst, hold, x5, x4, y25, hs, -⟩ := hI.2.2.2.2.2.2
  have g5 : gI (wX b X) (b + 51) [1] 5 = some (nI st) := by rw [hi_i5, x5]
  have g4 : gI (wX b X) (b + 51) [1] 4 = some (nI old) := by rw [hi_i4, x4]
  have g25 : gI (wX b Y) (b + 56) [8] 25 = some (nI st) := by rw [mo_i25, y25]
  have preC : ∀ r, fHi_part (b + 51) x z (wX b X) = some (r, wX b X) → fPl_sample b x z (wX b X) = some (r, wX b X) := by
    intro r h
    unfold fPl_sample
    rw [bs pl_r4, Option.bind_some, bs hi_o]
    exact (bs h).trans rfl
  rcases w_ix x (n := st) (wX b Y) (by omega) with ⟨k, hk, rfl, hw⟩ | ⟨h, hw⟩
  · have er : (nI old + nI k) - (nI old + nI k) / (12 : Int32) * (12 : Int32) = nI ((old + k) % 12) := by
      rw [nI_add]; exact n_rem12 (by omega)
    have epl : ax (nI ((old + k) % 12)) 12 = some ((old + k) % 12) := ax_of (Nat.mod_lt _ (by decide)) (by decide) rfl
    have hlt : nI k < nI st := (nI_ltI (by omega) (by omega)).mpr hk
    rcases tri z (lo := 0) (hi := 2) (by omega) (by omega) with ⟨m, -, hm, rfl⟩ | h
    · have w2 : fMo_within (nI m) (0 : Int32) (2 : Int32) (wX b Y) = some (1, wX b Y) := w_in (lo := 0) (hi := 2) _ (by omega) hm (by decide)
      have e3 : (3 : Int32) * nI k + nI m = nI (3 * k + m) := by rw [show (3 : Int32) * nI k = nI (3 * k) from pk_mul 3 k, nI_add]
      have hM : fMo_sample (b + 56) (nI k) (nI m) (wX b Y) = some (Y.I 79 (3 * k + m), wX b Y) := by
        unfold fMo_sample
        rw [bs g25, bs hw]
        dsimp only
        rw [if_neg (by decide), bs w2]
        dsimp only
        rw [if_neg (by decide), bs mo_r26, Option.bind_some, e3, mo_a79, bs (ax_of (show 3 * k + m < 36 by omega) (by decide) rfl), Option.bind_some]
      refine ⟨_, preC _ ?_, hM⟩
      have hm : m = 0 ∨ m = 1 ∨ m = 2 := by omega
      obtain ⟨s1, s2, s3⟩ := hs k hk
      unfold fHi_part
      rcases hm with rfl | rfl | rfl
      · rw [if_neg (nI_pos (by omega)), bs g5, if_pos hlt, bs g4, if_pos (show nI 0 = (0 : Int32) from rfl), bs hi_r0, Option.bind_some, er, hi_a0, bs epl, Option.bind_some, s1, Nat.add_zero]
      · rw [if_neg (nI_pos (by omega)), bs g5, if_pos hlt, bs g4, if_neg (by decide), if_pos (show nI 1 = (1 : Int32) from rfl), bs hi_r1, Option.bind_some, er, hi_a1, bs epl, Option.bind_some, s2]
      · rw [if_neg (nI_pos (by omega)), bs g5, if_pos hlt, bs g4, if_neg (by decide), if_neg (by decide), if_pos (show nI 2 = (2 : Int32) from rfl), bs hi_r2, Option.bind_some, er, hi_a2, bs epl, Option.bind_some, s3]
    · obtain ⟨z0, z1, z2⟩ := z_out h
      have w2 : fMo_within z (0 : Int32) (2 : Int32) (wX b Y) = some (0, wX b Y) := w_out _ h
      refine ⟨-1, preC _ ?_, ?_⟩
      · unfold fHi_part
        rw [if_neg (nI_pos (by omega)), bs g5, if_pos hlt, bs g4, if_neg z0, if_neg z1, if_neg z2]
      · unfold fMo_sample
        rw [bs g25, bs hw]
        dsimp only
        rw [if_neg (by decide), bs w2]
        dsimp only
        rw [if_pos rfl]
  · refine ⟨-1, preC _ ?_, ?_⟩
    · unfold fHi_part
      by_cases e : x < 0
      · rw [if_pos e]
      · rw [if_neg e, bs g5, if_neg (Int32.not_lt.mpr (h.resolve_left e))]
    · unfold fMo_sample
      rw [bs g25, bs hw]
      dsimp only
      rw [if_pos rfl]
theorem samples_step (hI : Inv b t nr np E al ln d off ls tb cur q X Y) (x y z : Int32) : ∃ r, fPl_samples b x y z (wX b X) = some (r, wX b X) ∧ fMo_samples (b + 56) x y z (wX b Y) = some (r, wX b Y) := by
  obtain ⟨st, old, hst, hold, x5, x4, y25, hs, -⟩ := hI.2.2.2.2.2.2
  have g5 : gI (wX b X) (b + 51) [1] 5 = some (nI st) := by rw [hi_i5, x5]
  have g4 : gI (wX b X) (b + 51) [1] 4 = some (nI old) := by rw [hi_i4, x4]
  have g25 : gI (wX b Y) (b + 56) [8] 25 = some (nI st) := by rw [mo_i25, y25]
  have key := lp_inv2 (s1 := fHi_countOf_L6 (wX b X) (b + 51) x y z) (s2 := fMo_samples_L6 (wX b Y) (b + 56) x y z) (Q := fun r r' => r = r') (fun k s s' => ∃ c : Int32, s = (c, nI k) ∧ s' = (c, nI k)) st ?_ ?_ 1000 ((0 : Int32), (0 : Int32)) ((0 : Int32), (0 : Int32)) (by omega) ⟨0, rfl, rfl⟩
  · obtain ⟨r, r', e1, e2, rfl⟩ := key
    refine ⟨r, ?_, ?_⟩
    · have h : fHi_countOf (b + 51) x y z (wX b X) = some (r, wX b X) := by
        unfold fHi_countOf
        rw [bs e1]
      unfold fPl_samples
      rw [bs pl_r4, Option.bind_some, bs hi_o]
      exact (bs h).trans rfl
    · unfold fMo_samples
      rw [bs e2]
  · rintro k s s' hk ⟨c, rfl, rfl⟩
    obtain ⟨s1, s2, -⟩ := hs k hk
    have er : (nI old + nI k) - (nI old + nI k) / (12 : Int32) * (12 : Int32) = nI ((old + k) % 12) := by
      rw [nI_add]; exact n_rem12 (by omega)
    have epl : ax (nI ((old + k) % 12)) 12 = some ((old + k) % 12) := ax_of (Nat.mod_lt _ (by decide)) (by decide) rfl
    have a52 : aI (wX b X) (b + 52) 0 (nI ((old + k) % 12)) = some (Y.I 79 (3 * k)) := by rw [hi_a0, bs epl, s1]
    have a53 : aI (wX b X) (b + 53) 0 (nI ((old + k) % 12)) = some (Y.I 79 (3 * k + 1)) := by rw [hi_a1, bs epl, s2]
    have e3 : (3 : Int32) * nI k = nI (3 * k) := pk_mul 3 k
    have m0 : aI (wX b Y) (b + 79) 0 (nI (3 * k)) = some (Y.I 79 (3 * k)) := by rw [mo_a79, bs (ax_of (show 3 * k < 36 by omega) (by decide) rfl)]
    have m1 : aI (wX b Y) (b + 79) 0 (nI (3 * k + 1)) = some (Y.I 79 (3 * k + 1)) := by rw [mo_a79, bs (ax_of (show 3 * k + 1 < 36 by omega) (by decide) rfl)]
    have preC : ∀ R, (if Y.I 79 (3 * k + 1) = x then (if Y.I 79 (3 * k) < y then some (.inl (c, nI (k + 1))) else if z < Y.I 79 (3 * k) then some (.inl (c, nI (k + 1))) else some (.inl (c + 1, nI (k + 1)))) else some (.inl (c, nI (k + 1)))) = R → fHi_countOf_L6 (wX b X) (b + 51) x y z (c, nI k) = R := by
      intro R hR
      unfold fHi_countOf_L6
      dsimp only
      rw [bs g5, if_neg (nI_ge hk (by omega)), bs g4, bs hi_r1, Option.bind_some, er, bs a53, bs hi_r0, Option.bind_some, bs a52, bs hi_r0, Option.bind_some, bs a52, nI_1]
      exact hR
    have preM : ∀ R, ((if Y.I 79 (3 * k + 1) = x then (if Y.I 79 (3 * k) < y then some (0 : Int32) else if z < Y.I 79 (3 * k) then some (0 : Int32) else some (1 : Int32)) else some (0 : Int32)).bind fun i9 => (if i9 = 0 then some c else some (c + (1 : Int32))).bind fun i20 => some (.inl (i20, nI (k + 1)))) = R → fMo_samples_L6 (wX b Y) (b + 56) x y z (c, nI k) = R := by
      intro R hR
      unfold fMo_samples_L6
      dsimp only
      rw [bs g25, if_neg (nI_ge hk (by omega)), bs mo_r26, Option.bind_some, e3, nI_1 (3 * k), bs m1, bs mo_r26, Option.bind_some, bs m0, bs mo_r26, Option.bind_some, bs m0, nI_1]
      exact hR
    by_cases q1 : Y.I 79 (3 * k + 1) = x
    · by_cases q2 : Y.I 79 (3 * k) < y
      · refine ⟨_, _, preC _ (by rw [if_pos q1, if_pos q2]), preM _ (by rw [if_pos q1, if_pos q2, Option.bind_some, if_pos rfl, Option.bind_some]), c, rfl, rfl⟩
      · by_cases q3 : z < Y.I 79 (3 * k)
        · refine ⟨_, _, preC _ (by rw [if_pos q1, if_neg q2, if_pos q3]), preM _ (by rw [if_pos q1, if_neg q2, if_pos q3, Option.bind_some, if_pos rfl, Option.bind_some]), c, rfl, rfl⟩
        · refine ⟨_, _, preC _ (by rw [if_pos q1, if_neg q2, if_neg q3]), preM _ (by rw [if_pos q1, if_neg q2, if_neg q3, Option.bind_some, if_neg (by decide), Option.bind_some]), c + 1, rfl, rfl⟩
    · refine ⟨_, _, preC _ (by rw [if_neg q1]), preM _ (by rw [if_neg q1, Option.bind_some, if_pos rfl, Option.bind_some]), c, rfl, rfl⟩
  · rintro s s' ⟨c, rfl, rfl⟩
    have hle : nI st ≤ nI st := (nI_leI (by omega) (by omega)).mpr (Nat.le_refl _)
    refine ⟨c, c, ?_, ?_, rfl⟩
    · unfold fHi_countOf_L6
      dsimp only
      rw [bs g5, if_pos hle]
    · unfold fMo_samples_L6
      dsimp only
      rw [bs g25, if_pos hle]
end RD
