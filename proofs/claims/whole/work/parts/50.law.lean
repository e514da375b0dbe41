/-! The law: each step of the script keeps the relation, and the answers are the same. -/
def mds : List Nat := (List.range 36).map (fun k => 56 + k)
theorem mds_mem {p : Nat} : p ∈ mds ↔ 56 ≤ p ∧ p < 92 := by
  unfold mds
  rw [List.mem_map]
  constructor
  · rintro ⟨k, hk, rfl⟩
    rw [List.mem_range] at hk
    omega
  · intro h
    exact ⟨p - 56, by rw [List.mem_range]; omega, by omega⟩
section LW
variable {b t nr np j i : Nat} {E : Nat → Nat → Nat} {al ln d off ls : Nat → Nat} {tb : Nat → Nat → Nat → Nat} {cur : Nat → Option Nat} {q : Nat → List Nat} {X Y X2 Y2 : Xs}
theorem Inv.swX (h : Inv b t nr np E al ln d off ls tb cur q X Y) (m : MK X X2) : Inv b t nr np E al ln d off ls tb cur q X2 Y := by
  have hX : Ch mds X X2 := ⟨m.1, m.2.1, fun p hp => m.2.2 p (by rw [mds_mem] at hp; omega)⟩
  have hY : Ch [] Y Y := Ch.rf
  have hm : ∀ p, p ∈ mds → 56 ≤ p ∧ p < 92 := fun p h => mds_mem.mp h
  obtain ⟨hSC, hSL, hJB, hLN, hWA, hFR, hRH⟩ := h
  exact ⟨hSC.ch hX (fun p h => by have := hm p h; omega) K56.rf, hSL.ch hX (fun p h => by have := hm p h; omega) hY (fun p h => absurd h List.not_mem_nil), hJB.ch hX (fun p h => by have := hm p h; omega) hY (fun p h => absurd h List.not_mem_nil), fun j hj => (hLN j hj).chs hX (fun p h => by have := hm p h; omega) hY (fun p h => absurd h List.not_mem_nil), fun j hj => (hWA j hj).ch hX (fun p h => by have := hm p h; omega) hY (fun p h => absurd h List.not_mem_nil), fun j hj => (hFR j hj).ch hX (fun p h => by have := hm p h; omega) hY (fun p h => absurd h List.not_mem_nil), hRH.chs hX (fun p h => by have := hm p h; omega) hY (fun p h => absurd h List.not_mem_nil) rfl⟩
theorem Inv.swY (h : Inv b t nr np E al ln d off ls tb cur q X Y) (c : CK Y Y2) : Inv b t nr np E al ln d off ls tb cur q X Y2 := by
  have rI : ∀ p, 56 ≤ p → p < 92 → Y2.I p = Y.I p := fun p h1 h2 => (c p h1 h2).1
  have rJ : ∀ p, 56 ≤ p → p < 92 → Y2.J p = Y.J p := fun p h1 h2 => (c p h1 h2).2.2
  have hZ : ∀ i, Z0 Y i → Z0 Y2 i := fun i h => by
    unfold Z0
    rw [rI 71 (by decide) (by decide), rI 72 (by decide) (by decide), rJ 73 (by decide) (by decide)]
    exact h
  have hM : ∀ w L, FrM Y w L → FrM Y2 w L := fun w L h => by
    unfold FrM
    rw [rI 90 (by decide) (by decide), rI 91 (by decide) (by decide)]
    exact h
  obtain ⟨hSC, hSL, hJB, hLN, hWA, hFR, hRH⟩ := h
  refine ⟨?_, ⟨hSL.1, hSL.2.1, fun i hi => ?_⟩, ⟨fun i hi => ?_, hJB.2.1, hJB.2.2.1, hJB.2.2.2.1, hJB.2.2.2.2.1, fun i h1 h2 => hZ i (hJB.2.2.2.2.2 i h1 h2)⟩, fun j hj => ?_, fun j hj => ?_, fun j hj => ?_, ?_⟩
  · unfold SC
    rw [rI 56 (by decide) (by decide)]
    exact hSC
  · obtain ⟨e0, e1, e2, e3, e4, et⟩ := hSL.2.2 i hi
    refine ⟨by rw [rI 57 (by decide) (by decide)]; exact e0, by rw [rI 58 (by decide) (by decide)]; exact e1, by rw [rI 59 (by decide) (by decide)]; exact e2, by rw [rI 60 (by decide) (by decide)]; exact e3, by rw [rI 61 (by decide) (by decide)]; exact e4, fun t k h1 h4 hk => ?_⟩
    rw [rI (61 + t) (by omega) (by omega)]
    exact et t k h1 h4 hk
  · have h := hJB.1 i hi
    unfold JQ
    rw [rI 66 (by decide) (by decide), rI 67 (by decide) (by decide), rI 68 (by decide) (by decide), rI 69 (by decide) (by decide), rJ 70 (by decide) (by decide), rI 71 (by decide) (by decide), rI 72 (by decide) (by decide), rJ 73 (by decide) (by decide), rI 74 (by decide) (by decide), rI 75 (by decide) (by decide), rI 76 (by decide) (by decide)]
    exact h
  · refine (hLN j hj).ch LX.rf ⟨fun k _ => ?_, ?_, ?_, ?_, ?_, ?_, ?_, ?_⟩ (fun i _ _ _ h => hZ i h)
    · rw [rI 80 (by decide) (by decide)]
    · rw [rI 81 (by decide) (by decide)]
    · rw [rI 82 (by decide) (by decide)]
    · rw [rI 83 (by decide) (by decide)]
    · rw [rI 84 (by decide) (by decide)]
    · rw [rI 85 (by decide) (by decide)]
    · rw [rI 86 (by decide) (by decide)]
    · rw [rJ 87 (by decide) (by decide)]
  · have h := hWA j hj
    unfold WAY
    rw [rI 88 (by decide) (by decide), rI 89 (by decide) (by decide)]
    exact h
  · obtain ⟨L, L', f1, f2, f3, f4⟩ := hFR j hj
    exact ⟨L, L', f1, hM _ _ f2, f3, hM _ _ f4⟩
  · exact hRH.ch rfl rfl rfl rfl rfl (by rw [rI 56 (by decide) (by decide)]) (rI 77 (by decide) (by decide)) (rI 78 (by decide) (by decide)) (rI 79 (by decide) (by decide))
theorem Rel.swX (h : Rel b t X Y) (m : MK X X2) : Rel b t X2 Y := by
  obtain ⟨nr, np, E, al, ln, d, off, ls, tb, cur, q, hI⟩ := h
  exact (hI.swX m).rel
theorem Rel.swY (h : Rel b t X Y) (c : CK Y Y2) : Rel b t X Y2 := by
  obtain ⟨nr, np, E, al, ln, d, off, ls, tb, cur, q, hI⟩ := h
  exact (hI.swY c).rel
theorem glue {X' X1 Y1 : Xs} (hw : wX b X1 = wX b X') (hm : MK X' Y1) : ∃ Z, wX b Z = wX b Y1 ∧ MK X1 Z ∧ CK Y1 Z := by
  have hn : X1.n = X'.n := by
    have h : b + (92 + X1.n) = b + (92 + X'.n) := congrArg Prod.fst hw
    omega
  have hcel : ∀ o, o < 92 + X1.n → cel b X1 o = cel b X' o := by
    intro o ho
    have h2 : (wX b X1).2 (b + o) = (wX b X').2 (b + o) := by rw [hw]
    rw [wX_at ho, wX_at (by omega)] at h2
    exact Option.some.inj h2
  have hn1 : Y1.n = X1.n := hm.1.trans hn.symm
  let Z : Xs := (fun p => if 56 ≤ p ∧ p < 92 then Y1.I p else X1.I p, fun p => if 56 ≤ p ∧ p < 92 then Y1.R p else X1.R p, fun p => if 56 ≤ p ∧ p < 92 then Y1.J p else X1.J p, X1.n, X1.K)
  have zp : ∀ p, 56 ≤ p ∧ p < 92 → Z.I p = Y1.I p ∧ Z.R p = Y1.R p ∧ Z.J p = Y1.J p := fun p h => ⟨if_pos h, if_pos h, if_pos h⟩
  have zn : ∀ p, ¬ (56 ≤ p ∧ p < 92) → Z.I p = X1.I p ∧ Z.R p = X1.R p ∧ Z.J p = X1.J p := fun p h => ⟨if_neg h, if_neg h, if_neg h⟩
  refine ⟨Z, ?_, ⟨rfl, rfl, fun p hp => zn p (by omega)⟩, fun p h1 h2 => zp p ⟨h1, h2⟩⟩
  have hc : ∀ o, o < 92 + X1.n → cel b Z o = cel b Y1 o := by
    intro o ho
    by_cases h : 56 ≤ o ∧ o < 92
    · obtain ⟨z1, z2, z3⟩ := zp o h
      unfold cel
      rw [if_pos h.2, if_pos h.2, z1, z2, z3]
    · obtain ⟨z1, z2, z3⟩ := zn o h
      obtain ⟨m1, m2, m3⟩ := hm.2.2 o (by omega)
      rw [cel_congr (b := b) z1 z2 z3 (show Z.K o = X1.K o from rfl), hcel o ho]
      exact cel_congr m1.symm m2.symm m3.symm (by rw [hm.2.1])
  refine Prod.ext (by show b + (92 + X1.n) = b + (92 + Y1.n); omega) ?_
  funext a
  show (if a < b then none else if a < b + (92 + X1.n) then some (cel b Z (a - b)) else none) = (if a < b then none else if a < b + (92 + Y1.n) then some (cel b Y1 (a - b)) else none)
  rw [hn1]
  by_cases h1 : a < b
  · rw [if_pos h1, if_pos h1]
  · rw [if_neg h1, if_neg h1]
    by_cases h2 : a < b + (92 + X1.n)
    · rw [if_pos h2, if_pos h2, hc _ (by omega)]
    · rw [if_neg h2, if_neg h2]
theorem both {α : Type} {t' : Nat} {f g : Ws → Option (α × Ws)} (h : ∀ X Y, Rel b t X Y → ∃ X' Y' r, f (wX b X) = some (r, wX b X') ∧ g (wX b Y) = some (r, wX b Y') ∧ Rel b t' X' Y' ∧ CK X X' ∧ MK Y Y') {W : Xs} (R : Rel b t W W) : ∃ X' r Z, f (wX b W) = some (r, wX b X') ∧ g (wX b X') = some (r, wX b Z) ∧ Rel b t' Z Z := by
  obtain ⟨X', Y0, r0, a1, -, -, a4, -⟩ := h W W R
  obtain ⟨X1, Y1, r, c1, c2, c3, c4, c5⟩ := h W X' (R.swY a4)
  have e : (r0, wX b X') = (r, wX b X1) := Option.some.inj (a1.symm.trans c1)
  have er : r0 = r := congrArg Prod.fst e
  have ew : wX b X' = wX b X1 := congrArg Prod.snd e
  obtain ⟨Z, z1, z2, z3⟩ := glue ew.symm c5
  exact ⟨X', r, Z, by rw [a1, er], by rw [c2, z1], (c3.swX z2).swY z3⟩
theorem both0 {α : Type} {f g : Ws → Option (α × Ws)} (h : ∀ X Y, Rel b t X Y → ∃ r, f (wX b X) = some (r, wX b X) ∧ g (wX b Y) = some (r, wX b Y)) {W : Xs} (R : Rel b t W W) : ∃ X' r Z, f (wX b W) = some (r, wX b X') ∧ g (wX b X') = some (r, wX b Z) ∧ Rel b t Z Z :=
  both (fun X Y hR => by
    obtain ⟨r, h1, h2⟩ := h X Y hR
    exact ⟨X, Y, r, h1, h2, hR, CK.rf, MK.rf⟩) R
theorem Rel.use {P : Prop} (h : Rel b t X Y) (k : ∀ nr np E al ln d off ls tb cur q, Inv b t nr np E al ln d off ls tb cur q X Y → P) : P := by
  obtain ⟨nr, np, E, al, ln, d, off, ls, tb, cur, q, hI⟩ := h
  exact k nr np E al ln d off ls tb cur q hI
end LW
theorem lg_rf (u : Int64) : lg_cmp u u = 0 := (lg_cmp_eq u u).mpr rfl
set_option maxHeartbeats 4000000 in
theorem law_step (xs : Nat → Int32) {b t L m : Nat} {W : Xs} (hL : L ≤ 3584) (h7 : 7 * m + 7 ≤ L) (R : Rel b t W W) (ht : t ≤ m) : ∃ W' t', t' ≤ m + 1 ∧ fLw_step xs L b (b + 56) (nI (7 * m), wX b W) = some (.inl (nI (7 * (m + 1)), wX b W')) ∧ Rel b t' W' W' := by
  have sk : ∀ k : Nat, k < 7 → sx xs L (nI (7 * m) + nI k) = some (xs (7 * m + k)) := by
    intro k hk
    unfold sx
    rw [nI_add, bs (ax_of (show 7 * m + k < L by omega) (by omega) rfl)]
  have s0 : sx xs L (nI (7 * m)) = some (xs (7 * m)) := by
    unfold sx
    rw [bs (ax_of (show 7 * m < L by omega) (by omega) rfl)]
  have s1 : sx xs L (nI (7 * m) + (1 : Int32)) = some (xs (7 * m + 1)) := sk 1 (by omega)
  have s2 : sx xs L (nI (7 * m) + (2 : Int32)) = some (xs (7 * m + 2)) := sk 2 (by omega)
  have s3 : sx xs L (nI (7 * m) + (3 : Int32)) = some (xs (7 * m + 3)) := sk 3 (by omega)
  have s4 : sx xs L (nI (7 * m) + (4 : Int32)) = some (xs (7 * m + 4)) := sk 4 (by omega)
  have s5 : sx xs L (nI (7 * m) + (5 : Int32)) = some (xs (7 * m + 5)) := sk 5 (by omega)
  have s6 : sx xs L (nI (7 * m) + (6 : Int32)) = some (xs (7 * m + 6)) := sk 6 (by omega)
  have e7 : nI (7 * m) + (7 : Int32) = nI (7 * (m + 1)) := nI_add (7 * m) 7
  have hc : ¬ (Int32.ofNat L - (7 : Int32)) < nI (7 * m) := by
    have e : Int32.ofNat L - (7 : Int32) = nI (L - 7) := pk_sub (a := L) (b := 7) (by omega)
    rw [e, nI_ltI (by omega) (by omega)]
    omega
  obtain ⟨qp, gp⟩ := pl_o (b := b) (X := W)
  obtain ⟨y, hy, ey⟩ : ∃ y : Int32, (y = 0 ∨ y = 1) ∧ (if xs (7 * m + 2) = 0 then some (0 : Int32) else some (1 : Int32)) = some y := by
    by_cases h : xs (7 * m + 2) = 0
    · exact ⟨0, Or.inl rfl, if_pos h⟩
    · exact ⟨1, Or.inr rfl, if_neg h⟩
  unfold fLw_step
  dsimp only
  rw [if_neg hc, bs s0]
  by_cases q0 : xs (7 * m) &&& (15 : Int32) = 0
  · rw [if_pos q0]
    obtain ⟨X', r, Z, h1, h2, h3⟩ := both (f := fPl_attach b (xs (7 * m + 1)) (xs (7 * m + 2)) (xs (7 * m + 3))) (g := fMo_attach (b + 56) (xs (7 * m + 1)) (xs (7 * m + 2)) (xs (7 * m + 3))) (t' := t) (fun X Y hR => hR.use fun _ _ _ _ _ _ _ _ _ _ _ hI => attach_step hI _ _ _) R
    refine ⟨Z, t, by omega, ?_, h3⟩
    rw [bs s1, bs s2, bs s3, bs gp, bs h1]
    dsimp only
    rw [bs s1, bs s2, bs s3, bs mo_o, bs h2]
    dsimp only
    rw [if_pos rfl, e7]
  rw [if_neg q0]
  by_cases q1 : xs (7 * m) &&& (15 : Int32) = 1
  · rw [if_pos q1]
    obtain ⟨X', r, Z, h1, h2, h3⟩ := both (f := fPl_power b (xs (7 * m + 1)) y) (g := fMo_power (b + 56) (xs (7 * m + 1)) y) (t' := t) (fun X Y hR => hR.use fun _ _ _ _ _ _ _ _ _ _ _ hI => power_step hI _ hy) R
    refine ⟨Z, t, by omega, ?_, h3⟩
    rw [bs s1, bs s2, bs ey, bs gp, bs h1]
    dsimp only
    rw [bs s1, bs s2, bs ey, bs mo_o, bs h2]
    dsimp only
    rw [if_pos rfl, e7]
  rw [if_neg q1]
  by_cases q2 : xs (7 * m) &&& (15 : Int32) = 2
  · rw [if_pos q2]
    obtain ⟨X', r, Z, h1, h2, h3⟩ := both (f := fPl_process b (xs (7 * m + 1)) (xs (7 * m + 2)) (xs (7 * m + 3)) (xs (7 * m + 4))) (g := fMo_process (b + 56) (xs (7 * m + 1)) (xs (7 * m + 2)) (xs (7 * m + 3)) (xs (7 * m + 4))) (t' := t) (fun X Y hR => hR.use fun _ _ _ _ _ _ _ _ _ _ _ hI => process_step hI _ _ _ _) R
    refine ⟨Z, t, by omega, ?_, h3⟩
    rw [bs s1, bs s2, bs s3, bs s4, bs gp, bs h1]
    dsimp only
    rw [bs s1, bs s2, bs s3, bs s4, bs mo_o, bs h2]
    dsimp only
    rw [if_pos rfl, e7]
  rw [if_neg q2]
  by_cases q3 : xs (7 * m) &&& (15 : Int32) = 3
  · rw [if_pos q3]
    obtain ⟨X', r, Z, h1, h2, h3⟩ := both0 (f := fPl_cell b (xs (7 * m + 1)) (xs (7 * m + 2)) (xs (7 * m + 3))) (g := fMo_cell (b + 56) (xs (7 * m + 1)) (xs (7 * m + 2)) (xs (7 * m + 3))) (fun X Y hR => hR.use fun _ _ _ _ _ _ _ _ _ _ _ hI => cell_step hI _ _ _) R
    refine ⟨Z, t, by omega, ?_, h3⟩
    rw [bs s1, bs s2, bs s3, bs gp, bs h1]
    dsimp only
    rw [bs s1, bs s2, bs s3, bs mo_o, bs h2]
    dsimp only
    rw [if_pos rfl, e7]
  rw [if_neg q3]
  by_cases q4 : xs (7 * m) &&& (15 : Int32) = 4
  · rw [if_pos q4]
    obtain ⟨X', r, Z, h1, h2, h3⟩ := both (f := fPl_point b (xs (7 * m + 1)) (xs (7 * m + 2)) (xs (7 * m + 3))) (g := fMo_point (b + 56) (xs (7 * m + 1)) (xs (7 * m + 2)) (xs (7 * m + 3))) (t' := t) (fun X Y hR => hR.use fun _ _ _ _ _ _ _ _ _ _ _ hI => point_step hI _ _ _) R
    refine ⟨Z, t, by omega, ?_, h3⟩
    rw [bs s1, bs s2, bs s3, bs gp, bs h1]
    dsimp only
    rw [bs s1, bs s2, bs s3, bs mo_o, bs h2]
    dsimp only
    rw [if_pos rfl, e7]
  rw [if_neg q4]
  by_cases q5 : xs (7 * m) &&& (15 : Int32) = 5
  · rw [if_pos q5]
    obtain ⟨X', r, Z, h1, h2, h3⟩ := both (f := fPl_request b (xs (7 * m + 1)) (xs (7 * m + 2)) (xs (7 * m + 3)) (xs (7 * m + 4)) (((xs (7 * m + 5)).toInt64 <<< ((32 : Int32).toInt64 &&& 63)) ||| ((xs (7 * m + 6)).toInt64 &&& (4294967295 : Int64)))) (g := fMo_request (b + 56) (xs (7 * m + 1)) (xs (7 * m + 2)) (xs (7 * m + 3)) (xs (7 * m + 4)) (((xs (7 * m + 5)).toInt64 <<< ((32 : Int32).toInt64 &&& 63)) ||| ((xs (7 * m + 6)).toInt64 &&& (4294967295 : Int64)))) (t' := t) (fun X Y hR => hR.use fun _ _ _ _ _ _ _ _ _ _ _ hI => request_step hI _ _ _ _ _) R
    refine ⟨Z, t, by omega, ?_, h3⟩
    rw [bs s1, bs s2, bs s3, bs s4, bs s5, bs s6, bs gp, bs h1]
    dsimp only
    rw [bs s1, bs s2, bs s3, bs s4, bs s5, bs s6, bs mo_o, bs h2]
    dsimp only
    rw [if_pos rfl, e7]
  rw [if_neg q5]
  by_cases q6 : xs (7 * m) &&& (15 : Int32) = 6
  · rw [if_pos q6]
    obtain ⟨X', r, Z, h1, h2, h3⟩ := both (f := fPl_fault b (xs (7 * m + 1)) y (xs (7 * m + 3))) (g := fMo_fault (b + 56) (xs (7 * m + 1)) y (xs (7 * m + 3))) (t' := t) (fun X Y hR => hR.use fun _ _ _ _ _ _ _ _ _ _ _ hI => fault_step hI _ hy _) R
    refine ⟨Z, t, by omega, ?_, h3⟩
    rw [bs s1, bs s2, bs ey, bs s3, bs gp, bs h1]
    dsimp only
    rw [bs s1, bs s2, bs ey, bs s3, bs mo_o, bs h2]
    dsimp only
    rw [if_pos rfl, e7]
  rw [if_neg q6]
  by_cases q7 : xs (7 * m) &&& (15 : Int32) = 7
  · rw [if_pos q7]
    obtain ⟨X', r, Z, h1, h2, h3⟩ := both (f := fPl_tick b) (g := fMo_tick (b + 56)) (t' := t + 1) (fun X Y hR => by
      obtain ⟨nr, np, E, al, ln, d, off, hR2⟩ := hR
      obtain ⟨X', Y', k1, k2, k3, k4, k5⟩ := tick_step hR2 (by omega)
      exact ⟨X', Y', _, k1, k2, ⟨_, _, _, _, _, _, _, k3⟩, k4, k5⟩) R
    refine ⟨Z, t + 1, by omega, ?_, h3⟩
    rw [bs gp, bs h1]
    dsimp only
    rw [bs mo_o, bs h2]
    dsimp only
    rw [if_pos rfl, e7]
  rw [if_neg q7]
  by_cases q8 : xs (7 * m) &&& (15 : Int32) = 8
  · rw [if_pos q8]
    obtain ⟨X', r, Z, h1, h2, h3⟩ := both0 (f := fPl_reply b (xs (7 * m + 1)) (xs (7 * m + 2))) (g := fMo_reply (b + 56) (xs (7 * m + 1)) (xs (7 * m + 2))) (fun X Y hR => hR.use fun _ _ _ _ _ _ _ _ _ _ _ hI => reply_step hI _ _) R
    refine ⟨Z, t, by omega, ?_, h3⟩
    rw [bs s1, bs s2, bs gp, bs h1]
    dsimp only
    rw [bs s1, bs s2, bs mo_o, bs h2]
    dsimp only
    rw [if_pos (lg_rf r), e7]
  rw [if_neg q8]
  by_cases q9 : xs (7 * m) &&& (15 : Int32) = 9
  · rw [if_pos q9]
    obtain ⟨X', r, Z, h1, h2, h3⟩ := both0 (f := fPl_line b (xs (7 * m + 1)) (xs (7 * m + 2))) (g := fMo_line (b + 56) (xs (7 * m + 1)) (xs (7 * m + 2))) (fun X Y hR => hR.use fun _ _ _ _ _ _ _ _ _ _ _ hI => line_step hI _ _) R
    refine ⟨Z, t, by omega, ?_, h3⟩
    rw [bs s1, bs s2, bs gp, bs h1]
    dsimp only
    rw [bs s1, bs s2, bs mo_o, bs h2]
    dsimp only
    rw [if_pos rfl, e7]
  rw [if_neg q9]
  by_cases q10 : xs (7 * m) &&& (15 : Int32) = 10
  · rw [if_pos q10]
    obtain ⟨X', r, Z, h1, h2, h3⟩ := both0 (f := fPl_wire b (xs (7 * m + 1)) y (xs (7 * m + 3))) (g := fMo_wire (b + 56) (xs (7 * m + 1)) y (xs (7 * m + 3))) (fun X Y hR => hR.use fun _ _ _ _ _ _ _ _ _ _ _ hI => wire_step hI _ _ _) R
    refine ⟨Z, t, by omega, ?_, h3⟩
    rw [bs s1, bs s2, bs ey, bs s3, bs gp, bs h1]
    dsimp only
    rw [bs s1, bs s2, bs ey, bs s3, bs mo_o, bs h2]
    dsimp only
    rw [if_pos rfl, e7]
  rw [if_neg q10]
  by_cases q11 : xs (7 * m) &&& (15 : Int32) = 11
  · rw [if_pos q11]
    obtain ⟨X', r, Z, h1, h2, h3⟩ := both0 (f := fPl_sample b (xs (7 * m + 1)) (xs (7 * m + 2))) (g := fMo_sample (b + 56) (xs (7 * m + 1)) (xs (7 * m + 2))) (fun X Y hR => hR.use fun _ _ _ _ _ _ _ _ _ _ _ hI => sample_step hI _ _) R
    refine ⟨Z, t, by omega, ?_, h3⟩
    rw [bs s1, bs s2, bs gp, bs h1]
    dsimp only
    rw [bs s1, bs s2, bs mo_o, bs h2]
    dsimp only
    rw [if_pos rfl, e7]
  rw [if_neg q11]
  by_cases q12 : xs (7 * m) &&& (15 : Int32) = 12
  · rw [if_pos q12]
    obtain ⟨X', r, Z, h1, h2, h3⟩ := both0 (f := fPl_samples b (xs (7 * m + 1)) (xs (7 * m + 2)) (xs (7 * m + 3))) (g := fMo_samples (b + 56) (xs (7 * m + 1)) (xs (7 * m + 2)) (xs (7 * m + 3))) (fun X Y hR => hR.use fun _ _ _ _ _ _ _ _ _ _ _ hI => samples_step hI _ _ _) R
    refine ⟨Z, t, by omega, ?_, h3⟩
    rw [bs s1, bs s2, bs s3, bs gp, bs h1]
    dsimp only
    rw [bs s1, bs s2, bs s3, bs mo_o, bs h2]
    dsimp only
    rw [if_pos rfl, e7]
  rw [if_neg q12]
  exact ⟨W, t, by omega, by rw [e7], R⟩
theorem law_pure (L : Nat) (hL : L ≤ 3584) (xs : Nat → Int32) (b : Nat) : ∃ Sz, fLw_law xs L (b, fun _ => none) = some (1, Sz) := by
  obtain ⟨S1, h1, h2, h3⟩ := inits b
  have key := lp_inv (step := fLw_step xs L b (b + 56)) (Q := fun r => ∃ Sz, r = ((1 : Int32), Sz)) (fun m s => ∃ W t, s = (nI (7 * m), wX b W) ∧ Rel b t W W ∧ t ≤ m) (L / 7) ?_ ?_ 1000 ((0 : Int32), wX b xI0) (by omega) ⟨xI0, 0, rfl, rel0 b, Nat.le_refl _⟩
  · obtain ⟨r, k1, Sz, rfl⟩ := key
    refine ⟨Sz, ?_⟩
    unfold fLw_law
    refine (bs h1).trans ?_
    refine (bs h3).trans ?_
    rw [h2]
    exact k1
  · rintro m s hm ⟨W, t, rfl, R, ht⟩
    obtain ⟨W', t', a1, a2, a3⟩ := law_step xs hL (m := m) (by omega) R ht
    exact ⟨_, a2, W', t', rfl, a3, a1⟩
  · rintro s ⟨W, t, rfl, -, -⟩
    have hc : (Int32.ofNat L - (7 : Int32)) < nI (7 * (L / 7)) := by
      by_cases h : 7 ≤ L
      · have e : Int32.ofNat L - (7 : Int32) = nI (L - 7) := pk_sub (a := L) (b := 7) (by omega)
        rw [e, nI_ltI (by omega) (by omega)]
        omega
      · have h' : L = 0 ∨ L = 1 ∨ L = 2 ∨ L = 3 ∨ L = 4 ∨ L = 5 ∨ L = 6 := by omega
        rcases h' with rfl | rfl | rfl | rfl | rfl | rfl | rfl <;> decide
    refine ⟨((1 : Int32), wX b W), ?_, _, rfl⟩
    unfold fLw_step
    dsimp only
    rw [if_pos hc, bs bz_1]
