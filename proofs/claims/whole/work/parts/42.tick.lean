/-! Arguments within bounds; polls are queued; a tick. -/
theorem i_lt {x y : Int32} : x < y ↔ x.toInt < y.toInt := Int32.lt_iff_toInt_lt
theorem i_le {x y : Int32} : x ≤ y ↔ x.toInt ≤ y.toInt := Int32.le_iff_toInt_le
theorem i_0 : (0 : Int32).toInt = 0 := rfl
theorem tri (x : Int32) {lo hi : Nat} (hlo : lo ≤ hi) (hh : hi < 2 ^ 30) : (∃ n, lo ≤ n ∧ n ≤ hi ∧ x = nI n) ∨ x < nI lo ∨ nI hi < x := by
  rcases pk_ix x (n := hi + 1) (by omega) with h | h | ⟨k, hk, rfl⟩
  · right; left
    rw [i_lt] at h ⊢
    rw [nI_toInt (by omega)]
    rw [i_0] at h
    omega
  · right; right
    rw [i_le] at h
    rw [i_lt]
    rw [nI_toInt (by omega)] at h ⊢
    omega
  · by_cases e : lo ≤ k
    · exact Or.inl ⟨k, e, by omega, rfl⟩
    · right; left
      rw [i_lt, nI_toInt (by omega), nI_toInt (by omega)]
      omega
theorem w_in {n lo hi : Nat} (S : Ws) (h1 : lo ≤ n) (h2 : n ≤ hi) (hh : hi < 2 ^ 30) : fMo_within (nI n) (nI lo) (nI hi) S = some (1, S) := by
  rw [m_within S (by omega) (by omega) (by omega), if_pos ⟨h1, h2⟩]
theorem w_out {x lo hi : Int32} (S : Ws) (h : x < lo ∨ hi < x) : fMo_within x lo hi S = some (0, S) := by
  unfold fMo_within
  by_cases e : x < lo
  · rw [if_pos e, bs bz_0]
  · rw [if_neg e]
    rcases h with h | h
    · exact absurd h e
    · rw [if_pos h, bs bz_0]
theorem p_in {n hi : Nat} (S : Ws) (h2 : n ≤ hi) (hh : hi < 2 ^ 30) : fPl_isWithin (nI n) (nI hi) S = some (1, S) := by
  unfold fPl_isWithin
  rw [if_neg (nI_pos (by omega)), if_neg (fun h => by have := (nI_ltI (by omega) (by omega)).mp h; omega), bs bz_1]
theorem p_out {x hi : Int32} (S : Ws) (h : x < 0 ∨ hi < x) : fPl_isWithin x hi S = some (0, S) := by
  unfold fPl_isWithin
  by_cases e : x < 0
  · rw [if_pos e, bs bz_0]
  · rw [if_neg e]
    rcases h with h | h
    · exact absurd h e
    · rw [if_pos h, bs bz_0]
theorem s_in {n : Nat} (S : Ws) (h1 : 1 ≤ n) (h2 : n ≤ 6) : fPl_isSlave (nI n) S = some (1, S) := by
  unfold fPl_isSlave
  rw [if_neg (by rw [l_1 (by omega)]; omega), if_neg (by rw [g_6 (by omega)]; omega), bs bz_1]
theorem s_out {x : Int32} (S : Ws) (h : x < nI 1 ∨ nI 6 < x) : fPl_isSlave x S = some (0, S) := by
  have h : x < (1 : Int32) ∨ (6 : Int32) < x := h
  unfold fPl_isSlave
  by_cases e : x < 1
  · rw [if_pos e, bs bz_0]
  · rw [if_neg e]
    rcases h with h | h
    · exact absurd h e
    · rw [if_pos h, bs bz_0]
theorem l_in {n : Nat} (S : Ws) (h2 : n < 2) : fPl_isLine (nI n) S = some (1, S) := by
  unfold fPl_isLine
  rw [if_neg (nI_pos (by omega)), if_neg (by rw [ge_2 (by omega)]; omega), bs bz_1]
theorem l_out {x : Int32} (S : Ws) (h : x < nI 0 ∨ nI 1 < x) : fPl_isLine x S = some (0, S) := by
  unfold fPl_isLine
  by_cases e : x < 0
  · rw [if_pos e, bs bz_0]
  · rw [if_neg e]
    rcases h with h | h
    · exact absurd h e
    · have h2 : (2 : Int32) ≤ x := by
        rw [i_lt, nI_toInt (by omega)] at h
        rw [i_le]
        show (2 : Int) ≤ _
        omega
      rw [if_pos h2, bs bz_0]
theorem lp_l {σ ρ : Type} {step : σ → Option (σ ⊕ ρ)} {s s' : σ} {N : Nat} (h : step s = some (.inl s')) : lp step (N + 1) s = lp step N s' := by
  show (step s).bind _ = _
  rw [h]; rfl
theorem lp_r {σ ρ : Type} {step : σ → Option (σ ⊕ ρ)} {s : σ} {r : ρ} {N : Nat} (h : step s = some (.inr r)) : lp step (N + 1) s = some r := by
  show (step s).bind _ = _
  rw [h]; rfl
section TI
variable {b t nr np j i : Nat} {E : Nat → Nat → Nat} {al ln d off ls : Nat → Nat} {tb : Nat → Nat → Nat → Nat} {cur : Nat → Option Nat} {q : Nat → List Nat} {X Y X2 Y2 : Xs}
theorem c_way (hI : Inv b t nr np E al ln d off ls tb cur q X Y) (hli : liveJ nr np i) : ∃ r, fPl_isOnItsWay b (b + E 0 i) (wX b X) = some (r, wX b X) ∧ (((i ∈ (cur 0).toList ++ q 0 ∨ i ∈ (cur 1).toList ++ q 1) ∧ r = 1) ∨ (¬ (i ∈ (cur 0).toList ++ q 0 ∨ i ∈ (cur 1).toList ++ q 1) ∧ r = 0)) := by
  have step : ∀ j, j < 2 → ∃ r, fLi_has (b + (33 + 8 * j)) (b + E 0 i) (wX b X) = some (r, wX b X) ∧ ((i ∈ (cur j).toList ++ q j ∧ r = 1) ∨ (i ∉ (cur j).toList ++ q j ∧ r = 0)) := fun j hj => c_has hI hj hli
  have run : ∀ j, j < 2 → ∀ v, fLi_has (b + (33 + 8 * j)) (b + E 0 i) (wX b X) = some (v, wX b X) → ∀ r, (if v = 0 then some (.inl (nI j + 1, wX b X)) else (bz (1 : Int32)).bind fun _ => some (.inr ((1 : Int32), wX b X))) = some r → fPl_isOnItsWay_L2 b (b + E 0 i) (nI j, wX b X) = some r := by
    intro j hj v hv r hr
    obtain ⟨ql, gl⟩ := Li_o (b := b) (X := X) (li_of hj)
    unfold fPl_isOnItsWay_L2
    dsimp only
    rw [if_neg (by rw [ge_2 (by omega)]; omega), bs pl_r1, Option.bind_some, la_r, bs (ax_of hj (by decide) rfl), if_pos hj, Option.bind_some, Option.bind_some, bs gl, bs hv]
    exact hr
  obtain ⟨r0, h0, d0⟩ := step 0 (by omega)
  obtain ⟨r1, h1, d1⟩ := step 1 (by omega)
  unfold fPl_isOnItsWay
  rcases d0 with ⟨m0, rfl⟩ | ⟨m0, rfl⟩
  · refine ⟨1, ?_, Or.inl ⟨Or.inl m0, rfl⟩⟩
    exact lp_r (N := 999) (run 0 (by omega) 1 h0 _ (by rw [if_neg (by decide), bs bz_1]))
  · have e0 := run 0 (by omega) 0 h0 _ (by rw [if_pos rfl])
    rcases d1 with ⟨m1, rfl⟩ | ⟨m1, rfl⟩
    · refine ⟨1, ?_, Or.inl ⟨Or.inr m1, rfl⟩⟩
      have e1 := run 1 (by omega) 1 h1 _ (by rw [if_neg (by decide), bs bz_1])
      exact (lp_l (N := 999) e0).trans (lp_r (N := 998) e1)
    · refine ⟨0, ?_, Or.inr ⟨fun h => h.elim m0 m1, rfl⟩⟩
      have e1 := run 1 (by omega) 0 h1 _ (by rw [if_pos rfl])
      have e2 : fPl_isOnItsWay_L2 b (b + E 0 i) (nI 2, wX b X) = some (.inr ((0 : Int32), wX b X)) := by
        unfold fPl_isOnItsWay_L2
        dsimp only
        rw [if_pos (by decide), bs bz_0]
      exact (lp_l (N := 999) e0).trans ((lp_l (N := 998) e1).trans (lp_r (N := 997) e2))
theorem c_isAt (hI : SLA al ln d off ls tb X Y) {s : Nat} (hs : s < 6) : fSl_isAttached (b + (2 + 5 * s)) (wX b X) = some (if al s = 1 then 1 else 0, wX b X) := by
  have hp := isSl_of hs
  have hV := hI.1 s hs
  have g5 : gI (wX b X) (b + (2 + 5 * s)) [5] 5 = some (if al s = 0 then -1 else nI (ln s)) := by rw [Sl_i5 hp, (hI.2.1 s hs).2.1]
  have h1 := hV.1
  have h2 := hV.2.1
  unfold fSl_isAttached
  rw [bs g5]
  by_cases e : al s = 0
  · rw [if_pos e, if_pos rfl, bs bz_0, if_neg (by omega)]
  · rw [if_neg e, if_neg (fun h => ne_m1 (t := ln s) (by omega) h.symm), bs bz_1, if_pos (by omega)]
theorem c_att (hI : SLA al ln d off ls tb X Y) {u : Nat} (hu : u < 248) : fPl_isAttachedSlave b (nI u) (wX b X) = some (if 1 ≤ u ∧ u ≤ 6 ∧ al (u - 1) = 1 then 1 else 0, wX b X) := by
  unfold fPl_isAttachedSlave
  by_cases e : 1 ≤ u ∧ u ≤ 6
  · have hs : u - 1 < 6 := by omega
    have em : nI u - (1 : Int32) = nI (u - 1) := pk_sub (b := 1) (by omega)
    obtain ⟨qs, gs⟩ := Sl_o (b := b) (X := X) (isSl_of hs)
    rw [bs (s_in _ e.1 e.2)]
    dsimp only
    rw [if_neg (by decide), bs pl_r0, Option.bind_some, em, sa_r, bs (ax_of hs (by decide) rfl), if_pos hs, Option.bind_some, Option.bind_some, bs gs, bs (c_isAt hI hs)]
    dsimp only
    by_cases e2 : al (u - 1) = 1
    · rw [if_pos e2, if_neg (by decide), bs bz_1, if_pos ⟨e.1, e.2, e2⟩]
    · rw [if_neg e2, if_pos rfl, bs bz_0, if_neg (fun h => e2 h.2.2)]
  · have ho : nI u < nI 1 ∨ nI 6 < nI u := by
      rw [nI_ltI (by omega) (by omega), nI_ltI (by omega) (by omega)]
      omega
    rw [bs (s_out _ ho)]
    dsimp only
    rw [if_pos rfl, bs bz_0, if_neg (fun h => e ⟨h.1, h.2.1⟩)]
theorem c_enqN (hI : Inv b t nr np E al ln d off ls tb cur q X Y) (hli : JobN X (E 0 i) (E 1 i) (E 2 i) (E 3 i) (E 4 i) (E 5 i)) (hn : ¬ (1 ≤ E 1 i ∧ E 1 i ≤ 6 ∧ al (E 1 i - 1) = 1)) : fPl_enqueue b (b + E 0 i) (wX b X) = some (0, wX b X) := by
  obtain ⟨qp, gp⟩ := pl_o (b := b) (X := X)
  have hu := hli.2.2.1
  unfold fPl_enqueue
  rw [bs hli.g1, bs gp, bs (c_att hI.2.1 hu)]
  dsimp only
  rw [if_pos (show (if 1 ≤ E 1 i ∧ E 1 i ≤ 6 ∧ al (E 1 i - 1) = 1 then (1 : Int32) else 0) = 0 by rw [if_neg hn]), bs bz_0]
theorem c_enqY (hI : Inv b t nr np E al ln d off ls tb cur q X Y) (hli : JobN X (E 0 i) (E 1 i) (E 2 i) (E 3 i) (E 4 i) (E 5 i)) (hn : 1 ≤ E 1 i ∧ E 1 i ≤ 6 ∧ al (E 1 i - 1) = 1) {r : Int32} {S' : Ws} (hr : r = 0 ∨ r = 1) (h : fLi_enqueue (b + (33 + 8 * ln (E 1 i - 1))) (b + E 0 i) (wX b X) = some (r, S')) : fPl_enqueue b (b + E 0 i) (wX b X) = some (r, S') := by
  obtain ⟨qp, gp⟩ := pl_o (b := b) (X := X)
  have hu := hli.2.2.1
  have hs : E 1 i - 1 < 6 := by omega
  have hV := hI.2.1.1 _ hs
  have hl2 := hV.2.1
  have em : nI (E 1 i) - (1 : Int32) = nI (E 1 i - 1) := pk_sub (b := 1) (by omega)
  have hp := isSl_of hs
  have g5 : gI (wX b X) (b + (2 + 5 * (E 1 i - 1))) [5] 5 = some (nI (ln (E 1 i - 1))) := by rw [Sl_i5 hp, (hI.2.1.2.1 _ hs).2.1, if_neg (by omega)]
  obtain ⟨ql, gl⟩ := Li_o (b := b) (X := X) (li_of hl2)
  unfold fPl_enqueue
  rw [bs hli.g1, bs gp, bs (c_att hI.2.1 hu)]
  dsimp only
  rw [if_neg (show ¬ (if 1 ≤ E 1 i ∧ E 1 i ≤ 6 ∧ al (E 1 i - 1) = 1 then (1 : Int32) else 0) = 0 by rw [if_pos hn]; decide), bs pl_r0, bs hli.g1, Option.bind_some, em, sa_r, bs (ax_of hs (by decide) rfl), if_pos hs, Option.bind_some, Option.bind_some, bs g5, bs (l_in _ hl2)]
  dsimp only
  rw [if_neg (by decide), bs pl_r1, Option.bind_some, la_r, bs (ax_of hl2 (by decide) rfl), if_pos hl2, Option.bind_some, Option.bind_some, bs gl, bs h]
  dsimp only
  rcases hr with rfl | rfl
  · rw [if_pos rfl, bs bz_0]
  · rw [if_neg (by decide), bs bz_1]
theorem poll_step (hR : Rel2 b t nr np E al ln d off X Y) {k : Nat} (hk : k < np) (h8 : t % 8 = 0) : ∃ X' Y', fPl_queuePolls_L2 b (nI k, wX b X) = some (.inl (nI (k + 1), wX b X')) ∧ fMo_tick_L12 (b + 56) (nI k, wX b Y) = some (.inl (nI (k + 1), wX b Y')) ∧ Rel2 b t nr np E al ln d off X' Y' ∧ CK X X' ∧ MK Y Y' := by
  obtain ⟨ls, tb, cur, q, hI⟩ := hR
  have hnp := hI.1.2.1
  have ht := hI.1.2.2.1
  have hli : liveJ nr np (64 + k) := Or.inr ⟨by omega, by omega⟩
  have hjq := hI.2.2.1.1 _ hli
  obtain ⟨p1, p2, p3, p4, p5, p6, p7, p8, p9, p10, p11⟩ := hjq.2.2.2 (by omega)
  have hal := hI.2.2.1.2.2.2.2.1 (64 + k) (by omega) (by omega)
  have hs : E 1 (64 + k) - 1 < 6 := by omega
  have hV := hI.2.1.1 _ hs
  have hj : ln (E 1 (64 + k) - 1) < 2 := hV.2.1
  obtain ⟨j, hjd⟩ : ∃ j, j = ln (E 1 (64 + k) - 1) := ⟨_, rfl⟩
  rw [← hjd] at hj
  have ej : ax (nI j) 2 = some j := ax_of hj (by decide) rfl
  obtain ⟨qp, gp⟩ := pl_o (b := b) (X := X)
  obtain ⟨r, hr, hr2⟩ := c_way hI hli
  obtain ⟨r', hr', hr2'⟩ := m_polls (b := b) hI hj (p := k) (by omega)
  have hiff : (64 + k ∈ (cur 0).toList ++ q 0 ∨ 64 + k ∈ (cur 1).toList ++ q 1) ↔ 64 + k ∈ (cur j).toList ++ q j := by
    have only : ∀ j', j' < 2 → 64 + k ∈ (cur j').toList ++ q j' → j' = j := fun j' hj' hm => by
      have := (((hI.2.2.2.1 j' hj').2.2.2.2.1 _ hm).2 (by omega)).2.2.1
      omega
    constructor
    · rintro (h | h)
      · rw [← only 0 (by omega) h]; exact h
      · rw [← only 1 (by omega) h]; exact h
    · intro h
      have : j = 0 ∨ j = 1 := by omega
      rcases this with e | e
      · left; rw [e] at h; exact h
      · right; rw [e] at h; exact h
  have ar : aR (wX b X) (b + 50) 6 (nI k) = some (some (b + E 0 (64 + k))) := by rw [pa_r, bs (ax_of (show k < 4 by omega) (by decide) rfl), hI.2.2.1.2.2.1 k hk]
  have g6 : gI (wX b X) b [7] 6 = some (nI np) := by rw [pl_i6, hI.1.2.2.2.2.1]
  have preC : ∀ R, (if r = 0 then (gO (wX b X) b [7]).bind fun q15 => (fPl_enqueue b (b + E 0 (64 + k)) (wX b X)).bind fun (v14, S13) => some (.inl (nI k + 1, S13)) else some (.inl (nI k + 1, wX b X))) = some R → fPl_queuePolls_L2 b (nI k, wX b X) = some R := by
    intro R hR
    unfold fPl_queuePolls_L2
    dsimp only
    rw [bs g6, if_neg (nI_ge hk (by omega)), bs pl_r3, Option.bind_some, bs ar, oc_some, bs gp, bs hr]
    exact hR
  have i19 : gI (wX b Y) (b + 56) [8] 19 = some (nI np) := by rw [mo_i19, hI.1.2.2.2.2.2.2.2.2]
  have i0 : gI (wX b Y) (b + 56) [8] 0 = some (nI t) := by rw [mo_i0, hI.1.2.2.2.2.2.2.1]
  have e8 : nI t - nI t / (8 : Int32) * (8 : Int32) = nI (t % 8) := pk_rem (d := 8) (by omega) (by decide) (by decide)
  have a74 : aI (wX b Y) (b + 74) 0 (nI k) = some (nI (E 1 (64 + k))) := by
    have e : 64 + k - 64 = k := by omega
    rw [e] at p3
    rw [mo_a74, bs (ax_of (show k < 4 by omega) (by decide) rfl), p3]
  have a58 : aI (wX b Y) (b + 58) 0 (nI (E 1 (64 + k))) = some (nI j) := by
    have e : E 1 (64 + k) - 1 + 1 = E 1 (64 + k) := by omega
    have := (hI.2.1.2.2 _ hs).2.1
    rw [e] at this
    rw [mo_a58, bs (ax_of (show E 1 (64 + k) < 7 by omega) (by decide) rfl), this, hjd]
  have a81 : aI (wX b Y) (b + 81) 0 (nI j) = some (nI (q j).length) := by rw [mo_a81, bs ej, (hI.2.2.2.1 j hj).1.2.2.2]
  have e64 : (64 : Int32) + nI k = nI (64 + k) := nI_add 64 k
  have hl4 := (hI.2.2.2.1 j hj).1.1
  have preM : ∀ R, (if r' = 0 then if (4 : Int32) ≤ nI (q j).length then some (.inl (nI k + 1, wX b Y)) else (fMo_put (b + 56) (nI j) (nI (64 + k)) (wX b Y)).bind fun S21 => some (.inl (nI k + 1, S21)) else some (.inl (nI k + 1, wX b Y))) = some R → fMo_tick_L12 (b + 56) (nI k, wX b Y) = some R := by
    intro R hR
    unfold fMo_tick_L12
    dsimp only
    rw [bs i19, if_neg (nI_ge hk (by omega)), bs i0, if_pos (by rw [e8, h8]; rfl), bs mo_r2, bs mo_r20, Option.bind_some, bs a74, Option.bind_some, bs a58, bs mo_o, bs hr']
    dsimp only
    rw [bs mo_r28, Option.bind_some, bs a81, bs mo_o, e64]
    exact hR
  rw [hiff] at hr2
  by_cases on : 64 + k ∈ (cur j).toList ++ q j
  · have hr1 : r = 1 := by
      rcases hr2 with ⟨-, h⟩ | ⟨h, -⟩
      · exact h
      · exact absurd on h
    have hr1' : r' = 1 := by
      rcases hr2' with ⟨-, h⟩ | ⟨h, -⟩
      · exact h
      · exact absurd on h
    refine ⟨X, Y, preC _ ?_, preM _ ?_, ⟨_, _, _, _, hI⟩, CK.rf, MK.rf⟩
    · rw [if_neg (by rw [hr1]; decide), nI_1]
    · rw [if_neg (by rw [hr1']; decide), nI_1]
  · have hr1 : r = 0 := by
      rcases hr2 with ⟨h, -⟩ | ⟨-, h⟩
      · exact absurd h on
      · exact h
    have hr1' : r' = 0 := by
      rcases hr2' with ⟨h, -⟩ | ⟨-, h⟩
      · exact absurd h on
      · exact h
    by_cases hfull : (q j).length < 4
    · have hon : onL nr np E al ln j Y (64 + k) := ⟨hli, fun _ => ⟨p9, hal, hjd.symm, fun h => by omega⟩⟩
      obtain ⟨n1, n2, n3⟩ := enq_inv hI hj hfull on hon
      rw [hjd] at n1
      have n1 := c_enqY hI hjq.1 ⟨p8, p9, hal⟩ (Or.inr rfl) n1
      rw [← hjd] at n1
      refine ⟨_, _, preC _ ?_, preM _ ?_, ⟨_, _, _, _, n3⟩, CK.of (ps := [33 + 8 * j, 33 + 8 * j + 7]) ((Ch.rf.sR (by simp)).sI (by simp)) (by intro p hp; simp only [List.mem_cons, List.not_mem_nil, or_false] at hp; omega), MK.of (ps := [80, 81]) ((Ch.rf.sI (by simp)).sI (by simp)) (by intro p hp; simp only [List.mem_cons, List.not_mem_nil, or_false] at hp; omega)⟩
      · rw [if_pos hr1, bs gp, bs n1, nI_1]
      · rw [if_pos hr1', if_neg (by rw [ge_4 (by omega)]; omega), bs n2, nI_1]
    · have n1 := enq_full hI hj hfull (o := E 0 (64 + k))
      rw [hjd] at n1
      have n1 := c_enqY hI hjq.1 ⟨p8, p9, hal⟩ (Or.inl rfl) n1
      refine ⟨X, Y, preC _ ?_, preM _ ?_, ⟨_, _, _, _, hI⟩, CK.rf, MK.rf⟩
      · rw [if_pos hr1, bs gp, bs n1, nI_1]
      · rw [if_pos hr1', if_pos (by rw [ge_4 (by omega)]; omega), nI_1]
theorem tick_step (hR : Rel2 b t nr np E al ln d off X Y) (ht1 : t + 1 < 100000) : ∃ X' Y', fPl_tick b (wX b X) = some (nI (t + 1), wX b X') ∧ fMo_tick (b + 56) (wX b Y) = some (nI (t + 1), wX b Y') ∧ Rel2 b (t + 1) nr np E al ln d off X' Y' ∧ CK X X' ∧ MK Y Y' := by
  obtain ⟨ls, tb, cur, q, hI⟩ := hR
  obtain ⟨hSC, hSL, hJB, hLN, hWA, hFR, hRH⟩ := hI
  let X1 := X.sI 0 7 (nI (t + 1))
  let Y1 := Y.sI 56 0 (nI (t + 1))
  have hX : Ch [0] X X1 := Ch.rf.sI (by simp)
  have hY : Ch [56] Y Y1 := Ch.rf.sI (by simp)
  have yk : ∀ k, k ≠ 0 → Y1.I 56 k = Y.I 56 k := by
    intro k hk
    show (Y.sI 56 0 (nI (t + 1))).I 56 k = _
    rw [sI_I, up2_k hk]
  have xk : ∀ k, k ≠ 7 → X1.I 0 k = X.I 0 k := by
    intro k hk
    show (X.sI 0 7 (nI (t + 1))).I 0 k = _
    rw [sI_I, up2_k hk]
  have x7 : X1.I 0 7 = nI (t + 1) := by
    show (X.sI 0 7 (nI (t + 1))).I 0 7 = _
    rw [sI_I, up2_s]
  have y0 : Y1.I 56 0 = nI (t + 1) := by
    show (Y.sI 56 0 (nI (t + 1))).I 56 0 = _
    rw [sI_I, up2_s]
  have hI1 : Inv b (t + 1) nr np E al ln d off ls tb cur q X1 Y1 := by
    refine ⟨?_, ⟨hSL.1, fun s hs => (hSL.2.1 s hs).ch hX (by intro t ht; simp only [List.mem_cons, List.not_mem_nil, or_false]; omega), fun s hs => (hSL.2.2 s hs).ch hY (by intro p hp; simp only [List.mem_cons, List.not_mem_nil, or_false] at hp; omega)⟩, hJB.ch hX (by intro p hp; simp only [List.mem_cons, List.not_mem_nil, or_false] at hp; omega) hY (by intro p hp; simp only [List.mem_cons, List.not_mem_nil, or_false] at hp; omega), fun j' hj' => (hLN j' hj').chs hX (by intro p hp; simp only [List.mem_cons, List.not_mem_nil, or_false] at hp; omega) hY (by intro p hp; simp only [List.mem_cons, List.not_mem_nil, or_false] at hp; omega), fun j' hj' => (hWA j' hj').ch hX (by intro p hp; simp only [List.mem_cons, List.not_mem_nil, or_false] at hp; omega) hY (by intro p hp; simp only [List.mem_cons, List.not_mem_nil, or_false] at hp; omega), fun j' hj' => (hFR j' hj').ch hX (by intro p hp; simp only [List.mem_cons, List.not_mem_nil, or_false] at hp; omega) hY (by intro p hp; simp only [List.mem_cons, List.not_mem_nil, or_false] at hp; omega), hRH.chs hX (by intro p hp; simp only [List.mem_cons, List.not_mem_nil, or_false] at hp; omega) hY (by intro p hp; simp only [List.mem_cons, List.not_mem_nil, or_false] at hp; omega) (yk 25 (by decide))⟩
    obtain ⟨s1, s2, s3, s4, s5, s6, s7, s8, s9⟩ := hSC
    exact ⟨s1, s2, ht1, by rw [xk 5 (by decide)]; exact s4, by rw [xk 6 (by decide)]; exact s5, x7, y0, by rw [yk 10 (by decide)]; exact s8, by rw [yk 19 (by decide)]; exact s9⟩
  have hR1 : Rel2 b (t + 1) nr np E al ln d off X1 Y1 := ⟨_, _, _, _, hI1⟩
  have hnp := hSC.2.1
  have e8 : nI (t + 1) - nI (t + 1) / (8 : Int32) * (8 : Int32) = nI ((t + 1) % 8) := pk_rem (d := 8) (by omega) (by decide) (by decide)
  obtain ⟨qp, gp⟩ := pl_o (b := b) (X := X1)
  have g7 : gI (wX b X) b [7] 7 = some (nI t) := by rw [pl_i7, hSC.2.2.2.2.2.1]
  have g71 : gI (wX b X1) b [7] 7 = some (nI (t + 1)) := by rw [pl_i7, x7]
  have i0 : gI (wX b Y) (b + 56) [8] 0 = some (nI t) := by rw [mo_i0, hSC.2.2.2.2.2.2.1]
  have i01 : gI (wX b Y1) (b + 56) [8] 0 = some (nI (t + 1)) := by rw [mo_i0, y0]
  -- polls
  have hq : ∃ X2 Y2, (if nI ((t + 1) % 8) = 0 then (gO (wX b X1) b [7]).bind fun q7 => (fPl_queuePolls b (wX b X1)).bind fun S6 => some S6 else some (wX b X1)) = some (wX b X2) ∧ lp (fMo_tick_L12 (b + 56)) 1000 ((0 : Int32), wX b Y1) = some (wX b Y2) ∧ Rel2 b (t + 1) nr np E al ln d off X2 Y2 ∧ CK X1 X2 ∧ MK Y1 Y2 := by
    by_cases h8 : (t + 1) % 8 = 0
    · obtain ⟨r, r', l1, l2, X2, Y2, rfl, rfl, l3, l4, l5⟩ := lp_inv2 (s1 := fPl_queuePolls_L2 b) (s2 := fMo_tick_L12 (b + 56)) (Q := fun r r' => ∃ X2 Y2, r = wX b X2 ∧ r' = wX b Y2 ∧ Rel2 b (t + 1) nr np E al ln d off X2 Y2 ∧ CK X1 X2 ∧ MK Y1 Y2) (fun k x y => ∃ X2 Y2, x = (nI k, wX b X2) ∧ y = (nI k, wX b Y2) ∧ Rel2 b (t + 1) nr np E al ln d off X2 Y2 ∧ CK X1 X2 ∧ MK Y1 Y2) np (by
          rintro k x y hk ⟨X2, Y2, rfl, rfl, hr, c1, c2⟩
          obtain ⟨X3, Y3, e1, e2, e3, e4, e5⟩ := poll_step hr hk h8
          exact ⟨_, _, e1, e2, X3, Y3, rfl, rfl, e3, c1.tr e4, c2.tr e5⟩) (by
          rintro x y ⟨X2, Y2, rfl, rfl, hr, c1, c2⟩
          have hr' := hr
          obtain ⟨ls2, tb2, cur2, q2, hI2⟩ := hr'
          have g6 : gI (wX b X2) b [7] 6 = some (nI np) := by rw [pl_i6, hI2.1.2.2.2.2.1]
          have i19 : gI (wX b Y2) (b + 56) [8] 19 = some (nI np) := by rw [mo_i19, hI2.1.2.2.2.2.2.2.2.2]
          refine ⟨wX b X2, wX b Y2, ?_, ?_, X2, Y2, rfl, rfl, hr, c1, c2⟩
          · unfold fPl_queuePolls_L2
            dsimp only
            rw [bs g6, if_pos (nI_le (Nat.le_refl _) (by omega))]
          · unfold fMo_tick_L12
            dsimp only
            rw [bs i19, if_pos (nI_le (Nat.le_refl _) (by omega))]) 1000 ((0 : Int32), wX b X1) ((0 : Int32), wX b Y1) (by omega) ⟨X1, Y1, rfl, rfl, hR1, CK.rf, MK.rf⟩
      refine ⟨X2, Y2, ?_, l2, l3, l4, l5⟩
      unfold fPl_queuePolls
      rw [if_pos (by rw [h8]; rfl), bs gp, l1]
      rfl
    · refine ⟨X1, Y1, ?_, ?_, hR1, CK.rf, MK.rf⟩
      · rw [if_neg (by rw [q_0 (by omega)]; exact h8)]
      · refine lp_r (N := 999) ?_
        have i19 : gI (wX b Y1) (b + 56) [8] 19 = some (nI np) := by rw [mo_i19, hI1.1.2.2.2.2.2.2.2.2]
        unfold fMo_tick_L12
        dsimp only
        rw [bs i19]
        by_cases e : nI np ≤ (0 : Int32)
        · rw [if_pos e]
        · rw [if_neg e, bs i01, if_neg (by rw [e8, q_0 (by omega)]; exact h8)]
  obtain ⟨X2, Y2, q1, q2, q3, q4, q5⟩ := hq
  -- the lines
  obtain ⟨r, r', l1, l2, X3, Y3, rfl, rfl, l3, l4, l5⟩ := lp_inv2 (s1 := fPl_tick_L26 b) (s2 := fMo_tick_L78 (b + 56)) (Q := fun r r' => ∃ X3 Y3, r = wX b X3 ∧ r' = wX b Y3 ∧ Rel2 b (t + 1) nr np E al ln d off X3 Y3 ∧ CK X2 X3 ∧ MK Y2 Y3) (fun k x y => ∃ X3 Y3, x = (nI k, wX b X3) ∧ y = (nI k, wX b Y3) ∧ Rel2 b (t + 1) nr np E al ln d off X3 Y3 ∧ CK X2 X3 ∧ MK Y2 Y3) 2 (by
      rintro k x y hk ⟨X3, Y3, rfl, rfl, hr, c1, c2⟩
      obtain ⟨X4, Y4, e1, e2, e3, e4, e5⟩ := serve_step hr hk
      refine ⟨_, _, ?_, e2, X4, Y4, rfl, rfl, e3, c1.tr e4, c2.tr e5⟩
      obtain ⟨qp3, gp3⟩ := pl_o (b := b) (X := X3)
      unfold fPl_tick_L26
      dsimp only
      rw [if_neg (by rw [ge_2 (by omega)]; omega), bs pl_r1, Option.bind_some, la_r, bs (ax_of hk (by decide) rfl), if_pos hk, Option.bind_some, Option.bind_some, bs gp3, bs e1, nI_1]) (by
      rintro x y ⟨X3, Y3, rfl, rfl, hr, c1, c2⟩
      refine ⟨wX b X3, wX b Y3, ?_, ?_, X3, Y3, rfl, rfl, hr, c1, c2⟩
      · unfold fPl_tick_L26
        dsimp only
        rw [if_pos (by decide)]
      · unfold fMo_tick_L78
        dsimp only
        rw [if_pos (by decide)]) 1000 ((0 : Int32), wX b X2) ((0 : Int32), wX b Y2) (by omega) ⟨X2, Y2, rfl, rfl, q3, CK.rf, MK.rf⟩
  have l3' := l3
  obtain ⟨ls3, tb3, cur3, qq3, hI3⟩ := l3'
  have e1 : nI t + (1 : Int32) = nI (t + 1) := nI_add t 1
  refine ⟨X3, Y3, ?_, ?_, l3, ((CK.of hX (by intro p hp; simp only [List.mem_cons, List.not_mem_nil, or_false] at hp; omega)).tr q4).tr l4, ((MK.of hY (by intro p hp; simp only [List.mem_cons, List.not_mem_nil, or_false] at hp; omega)).tr q5).tr l5⟩
  · have g7e : gI (wX b X3) b [7] 7 = some (nI (t + 1)) := by rw [pl_i7, hI3.1.2.2.2.2.2.1]
    unfold fPl_tick
    rw [bs g7, e1, bs pl_p7]
    show ((gI (wX b X1) b [7] 7).bind _) = _
    rw [bs g71, e8, bs q1, bs l1, bs g7e]
  · have i0e : gI (wX b Y3) (b + 56) [8] 0 = some (nI (t + 1)) := by rw [mo_i0, hI3.1.2.2.2.2.2.2.1]
    unfold fMo_tick
    rw [bs i0, e1, bs mo_p0]
    show ((lp (fMo_tick_L12 (b + 56)) 1000 ((0 : Int32), wX b Y1)).bind _) = _
    rw [bs q2, bs l2, bs i0e]
end TI
