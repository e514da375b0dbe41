/-! The relation of the two sides: X the program's cells, Y the reference's. -/
def liveJ (nr np i : Nat) : Prop := i < nr ∨ (64 ≤ i ∧ i < 64 + np)
def SC (t nr np : Nat) (X Y : Xs) : Prop := nr ≤ 64 ∧ np ≤ 4 ∧ t < 100000 ∧ X.I 0 5 = nI nr ∧ X.I 0 6 = nI np ∧ X.I 0 7 = nI t ∧ Y.I 56 0 = nI t ∧ Y.I 56 10 = nI nr ∧ Y.I 56 19 = nI np
def SLA (al ln d off ls : Nat → Nat) (tb : Nat → Nat → Nat → Nat) (X Y : Xs) : Prop := (∀ i, i < 6 → SlV (al i) (ln i) (d i) (off i) (ls i) (tb i)) ∧ (∀ i, i < 6 → SlC X i (al i) (ln i) (d i) (off i) (ls i) (tb i)) ∧ (∀ i, i < 6 → SlM Y i (al i) (ln i) (d i) (off i) (ls i) (tb i))
def JQ (E : Nat → Nat → Nat) (i : Nat) (X Y : Xs) : Prop :=
  JobN X (E 0 i) (E 1 i) (E 2 i) (E 3 i) (E 4 i) (E 5 i) ∧ X.I (E 0 i) 0 = nI i ∧
  (i < 64 → isRe X (E 0 i) ∧ Y.I 66 i = nI (E 1 i) ∧ Y.I 67 i = nI (E 2 i) ∧ Y.I 68 i = nI (E 3 i) ∧ Y.I 69 i = nI (E 4 i) ∧ Y.J 70 i = lN (E 5 i) ∧ X.I (E 0 i) 6 = Y.I 71 i ∧ X.I (E 0 i) 7 = Y.I 72 i ∧ X.J (E 0 i) 8 = Y.J 73 i) ∧
  (64 ≤ i → isPo X (E 0 i) ∧ X.I (E 0 i) 6 = nI (i - 64) ∧ Y.I 74 (i - 64) = nI (E 1 i) ∧ Y.I 75 (i - 64) = nI (E 2 i) ∧ Y.I 76 (i - 64) = nI (E 3 i) ∧ E 4 i = 1 ∧ E 5 i = 0 ∧ 1 ≤ E 1 i ∧ E 1 i ≤ 6 ∧ (E 2 i = 3 ∨ E 2 i = 4) ∧ E 3 i < 8)
def Z0 (Y : Xs) (i : Nat) : Prop := Y.I 71 i = 0 ∧ Y.I 72 i = 0 ∧ Y.J 73 i = 0
def JBS (b nr np : Nat) (E : Nat → Nat → Nat) (al : Nat → Nat) (X Y : Xs) : Prop := (∀ i, liveJ nr np i → JQ E i X Y) ∧ (∀ i, i < nr → X.R 49 i = some (b + E 0 i)) ∧ (∀ p, p < np → X.R 50 p = some (b + E 0 (64 + p))) ∧ (∀ i k, liveJ nr np i → liveJ nr np k → E 0 i = E 0 k → i = k) ∧ (∀ i, 64 ≤ i → i < 64 + np → al (E 1 i - 1) = 1) ∧ (∀ i, nr ≤ i → i < 64 → Z0 Y i)
def PND (E : Nat → Nat → Nat) (j i : Nat) (X Y : Xs) : Prop := E 1 i ≠ 0 ∧ ∃ r sv, r = refN (E 2 i) (E 3 i) (E 4 i) (E 5 i) ∧ (r = 0 → svOK (E 2 i) (E 4 i) (E 5 i) sv ∧ Y.J 87 j = lN sv) ∧ FrL X (33 + 8 * j + 4 + 1) (ansL (E 1 i) (E 2 i) (E 3 i) (E 4 i) (E 5 i) r sv) ∧ Y.I 86 j = nI r
def busyI : Option Nat → Int32
  | none => -1
  | some i => nI i
def onL (nr np : Nat) (E : Nat → Nat → Nat) (al ln : Nat → Nat) (j : Nat) (Y : Xs) (i : Nat) : Prop := liveJ nr np i ∧ (E 1 i ≠ 0 → E 1 i ≤ 6 ∧ al (E 1 i - 1) = 1 ∧ ln (E 1 i - 1) = j ∧ (i < 64 → Z0 Y i))
def LNS (b nr np : Nat) (E : Nat → Nat → Nat) (al ln : Nat → Nat) (j : Nat) (c : Option Nat) (q : List Nat) (X Y : Xs) : Prop :=
  (q.length ≤ 4 ∧ X.I (33 + 8 * j) 0 = nI j ∧ X.I (33 + 8 * j) 4 = nI q.length ∧ Y.I 81 j = nI q.length) ∧
  (∀ k, k < q.length → X.R (33 + 8 * j + 7) k = some (b + E 0 (q.getD k 0)) ∧ Y.I 80 (4 * j + k) = nI (q.getD k 0)) ∧
  (X.R (33 + 8 * j) 5 = c.map (fun i => b + E 0 i) ∧ Y.I 82 j = busyI c) ∧
  (c.toList ++ q).Nodup ∧ (∀ i, i ∈ c.toList ++ q → onL nr np E al ln j Y i) ∧
  (c = none → X.I (33 + 8 * j) 6 = 0) ∧
  (∀ i, c = some i → X.I (33 + 8 * j) 6 = Y.I 83 j ∧ X.I (33 + 8 * j) 7 = Y.I 84 j ∧ X.I (33 + 8 * j) 8 = Y.I 85 j ∧ (Y.I 85 j = -1 ∨ PND E j i X Y))
def WAY (j : Nat) (X Y : Xs) : Prop := ∃ w w', w < 2 ∧ w' < 2 ∧ X.I (33 + 8 * j + 1) 1 = nI w ∧ Y.I 88 j = nI w ∧ X.I (33 + 8 * j + 4) 1 = nI w' ∧ Y.I 89 j = nI w'
def FRA (j : Nat) (X Y : Xs) : Prop := ∃ L L', FrL X (33 + 8 * j + 1 + 1) L ∧ FrM Y j L ∧ FrL X (33 + 8 * j + 4 + 1) L' ∧ FrM Y (j + 2) L'
def Inv (b t nr np : Nat) (E : Nat → Nat → Nat) (al ln d off ls : Nat → Nat) (tb : Nat → Nat → Nat → Nat) (cur : Nat → Option Nat) (q : Nat → List Nat) (X Y : Xs) : Prop :=
  SC t nr np X Y ∧ SLA al ln d off ls tb X Y ∧ JBS b nr np E al X Y ∧ (∀ j, j < 2 → LNS b nr np E al ln j (cur j) (q j) X Y) ∧ (∀ j, j < 2 → WAY j X Y) ∧ (∀ j, j < 2 → FRA j X Y) ∧ RH X Y
section RL
variable {b t nr np j : Nat} {E : Nat → Nat → Nat} {al ln d off ls : Nat → Nat} {tb : Nat → Nat → Nat → Nat} {c : Option Nat} {q : List Nat} {X Y X' Y' : Xs} {ps qs : List Nat}
def K56 (Y Y' : Xs) : Prop := ∀ q, q ≠ 25 → q ≠ 39 → Y'.I 56 q = Y.I 56 q
theorem K56.rf : K56 Y Y := fun _ _ _ => rfl
theorem K56.tr {Y'' : Xs} (h : K56 Y Y') (h2 : K56 Y' Y'') : K56 Y Y'' := fun q a b => (h2 q a b).trans (h q a b)
theorem K56.of (h : Ch ps Y Y') (hp : ∀ p, p ∈ ps → p ≠ 56) : K56 Y Y' := fun q _ _ => by rw [(h.2.2 56 (fun m => hp 56 m rfl)).1]
theorem SC.ch (h : SC t nr np X Y) (hX : Ch ps X X') (hp : ∀ p, p ∈ ps → p ≠ 0) (hY : K56 Y Y') : SC t nr np X' Y' := by
  unfold SC
  rw [(hX.2.2 0 (fun m => hp 0 m rfl)).1, hY 0 (by decide) (by decide), hY 10 (by decide) (by decide), hY 19 (by decide) (by decide)]
  exact h
theorem SlM.ch {i al ln d off ls : Nat} {tb : Nat → Nat → Nat} (h : SlM Y i al ln d off ls tb) (hY : Ch qs Y Y') (hq : ∀ p, p ∈ qs → p < 57 ∨ 65 < p) : SlM Y' i al ln d off ls tb := by
  have hn : ∀ p, 57 ≤ p → p ≤ 65 → Y'.I p = Y.I p := fun p h1 h2 => (hY.2.2 p (fun m => by have := hq p m; omega)).1
  obtain ⟨e0, e5, e6, e7, e8, et⟩ := h
  refine ⟨?_, ?_, ?_, ?_, ?_, fun t k h1 h2 h3 => ?_⟩
  all_goals rw [hn _ (by omega) (by omega)]
  · exact e0
  · exact e5
  · exact e6
  · exact e7
  · exact e8
  · exact et t k h1 h2 h3
theorem SLA.ch (h : SLA al ln d off ls tb X Y) (hX : Ch ps X X') (hp : ∀ p, p ∈ ps → 32 ≤ p) (hY : Ch qs Y Y') (hq : ∀ p, p ∈ qs → p < 57 ∨ 65 < p) : SLA al ln d off ls tb X' Y' :=
  ⟨h.1, fun i hi => (h.2.1 i hi).ch hX (fun t ht m => by have := hp _ m; omega), fun i hi => (h.2.2 i hi).ch hY hq⟩
theorem JQ.ch {i : Nat} (h : JQ E i X Y) (hX : Ch ps X X') (hp : E 0 i ∉ ps) (hY : ∀ p, 66 ≤ p → p ≤ 72 → p ≠ 70 → Y'.I p i = Y.I p i) (hJ : Y'.J 70 i = Y.J 70 i ∧ Y'.J 73 i = Y.J 73 i) (hY2 : ∀ p, 74 ≤ p → p ≤ 76 → Y'.I p (i - 64) = Y.I p (i - 64)) : JQ E i X' Y' := by
  obtain ⟨h1, h2, h3, h4⟩ := h
  obtain ⟨x1, x2, x3⟩ := hX.2.2 _ hp
  refine ⟨h1.ch hX hp, by rw [x1]; exact h2, fun hi => ?_, fun hi => ?_⟩
  · obtain ⟨a1, a2, a3, a4, a5, a6, a7, a8, a9⟩ := h3 hi
    refine ⟨hX.re a1, ?_, ?_, ?_, ?_, ?_, ?_, ?_, ?_⟩
    · rw [hY 66 (by omega) (by omega) (by omega)]; exact a2
    · rw [hY 67 (by omega) (by omega) (by omega)]; exact a3
    · rw [hY 68 (by omega) (by omega) (by omega)]; exact a4
    · rw [hY 69 (by omega) (by omega) (by omega)]; exact a5
    · rw [hJ.1]; exact a6
    · rw [hY 71 (by omega) (by omega) (by omega), x1]; exact a7
    · rw [hY 72 (by omega) (by omega) (by omega), x1]; exact a8
    · rw [hJ.2, x3]; exact a9
  · obtain ⟨a1, a2, a3, a4, a5, a6⟩ := h4 hi
    refine ⟨hX.po a1, by rw [x1]; exact a2, ?_, ?_, ?_, a6⟩
    · rw [hY2 74 (by omega) (by omega)]; exact a3
    · rw [hY2 75 (by omega) (by omega)]; exact a4
    · rw [hY2 76 (by omega) (by omega)]; exact a5
theorem Z0.ch {i : Nat} (h : Z0 Y i) (hY : Ch qs Y Y') (hq : ∀ p, p ∈ qs → p < 66 ∨ 76 < p) : Z0 Y' i := by
  have hn : ∀ p, 66 ≤ p → p ≤ 76 → p ∉ qs := fun p h1 h2 m => by have := hq p m; omega
  unfold Z0
  rw [(hY.2.2 71 (hn 71 (by omega) (by omega))).1, (hY.2.2 72 (hn 72 (by omega) (by omega))).1, (hY.2.2 73 (hn 73 (by omega) (by omega))).2.2]
  exact h
theorem JBS.ch (h : JBS b nr np E al X Y) (hX : Ch ps X X') (hp : ∀ p, p ∈ ps → p < 49 ∨ (50 < p ∧ p < 92)) (hY : Ch qs Y Y') (hq : ∀ p, p ∈ qs → p < 66 ∨ 76 < p) : JBS b nr np E al X' Y' := by
  obtain ⟨h1, h2, h3, h4, h5, h6⟩ := h
  have hn : ∀ p, 66 ≤ p → p ≤ 76 → p ∉ qs := fun p h1 h2 m => by have := hq p m; omega
  refine ⟨fun i hi => (h1 i hi).ch hX (fun m => by have := hp _ m; have := (h1 i hi).1.1.1; omega) (fun p a b _ => ?_) ⟨?_, ?_⟩ (fun p a b => ?_), ?_, ?_, h4, h5, fun i a b => (h6 i a b).ch hY hq⟩
  · rw [(hY.2.2 p (hn p a (by omega))).1]
  · rw [(hY.2.2 70 (hn 70 (by omega) (by omega))).2.2]
  · rw [(hY.2.2 73 (hn 73 (by omega) (by omega))).2.2]
  · rw [(hY.2.2 p (hn p (by omega) b)).1]
  · rw [(hX.2.2 49 (fun m => by have := hp _ m; omega)).2.1]; exact h2
  · rw [(hX.2.2 50 (fun m => by have := hp _ m; omega)).2.1]; exact h3
def LX (j : Nat) (X X' : Xs) : Prop := X'.I (33 + 8 * j) = X.I (33 + 8 * j) ∧ X'.R (33 + 8 * j) = X.R (33 + 8 * j) ∧ X'.R (33 + 8 * j + 7) = X.R (33 + 8 * j + 7) ∧ X'.I (33 + 8 * j + 4 + 1) = X.I (33 + 8 * j + 4 + 1) ∧ X'.I (33 + 8 * j + 4 + 1 + 1) = X.I (33 + 8 * j + 4 + 1 + 1)
def LY (j : Nat) (Y Y' : Xs) : Prop := (∀ k, k < 4 → Y'.I 80 (4 * j + k) = Y.I 80 (4 * j + k)) ∧ Y'.I 81 j = Y.I 81 j ∧ Y'.I 82 j = Y.I 82 j ∧ Y'.I 83 j = Y.I 83 j ∧ Y'.I 84 j = Y.I 84 j ∧ Y'.I 85 j = Y.I 85 j ∧ Y'.I 86 j = Y.I 86 j ∧ Y'.J 87 j = Y.J 87 j
theorem LX.rf : LX j X X := ⟨rfl, rfl, rfl, rfl, rfl⟩
theorem LY.rf : LY j Y Y := ⟨fun _ _ => rfl, rfl, rfl, rfl, rfl, rfl, rfl, rfl⟩
theorem LX.of (hX : Ch ps X X') (hp : ∀ p, p ∈ ps → p ≠ 33 + 8 * j ∧ p ≠ 33 + 8 * j + 7 ∧ p ≠ 33 + 8 * j + 5 ∧ p ≠ 33 + 8 * j + 6) : LX j X X' :=
  ⟨(hX.2.2 _ (fun m => (hp _ m).1 rfl)).1, (hX.2.2 _ (fun m => (hp _ m).1 rfl)).2.1, (hX.2.2 _ (fun m => (hp _ m).2.1 rfl)).2.1, (hX.2.2 _ (fun m => (hp _ m).2.2.1 rfl)).1, (hX.2.2 _ (fun m => (hp _ m).2.2.2 rfl)).1⟩
theorem LY.of (hY : Ch qs Y Y') (hq : ∀ p, p ∈ qs → p < 80 ∨ 87 < p) : LY j Y Y' := by
  have hn : ∀ p, 80 ≤ p → p ≤ 87 → p ∉ qs := fun p h1 h2 m => by have := hq p m; omega
  refine ⟨fun k _ => ?_, ?_, ?_, ?_, ?_, ?_, ?_, ?_⟩
  · rw [(hY.2.2 80 (hn _ (by omega) (by omega))).1]
  · rw [(hY.2.2 81 (hn _ (by omega) (by omega))).1]
  · rw [(hY.2.2 82 (hn _ (by omega) (by omega))).1]
  · rw [(hY.2.2 83 (hn _ (by omega) (by omega))).1]
  · rw [(hY.2.2 84 (hn _ (by omega) (by omega))).1]
  · rw [(hY.2.2 85 (hn _ (by omega) (by omega))).1]
  · rw [(hY.2.2 86 (hn _ (by omega) (by omega))).1]
  · rw [(hY.2.2 87 (hn _ (by omega) (by omega))).2.2]
theorem LNS.ch (h : LNS b nr np E al ln j c q X Y) (hX : LX j X X') (hY : LY j Y Y') (hz : ∀ i, i ∈ c.toList ++ q → E 1 i ≠ 0 → i < 64 → Z0 Y i → Z0 Y' i) : LNS b nr np E al ln j c q X' Y' := by
  obtain ⟨⟨a1, a2, a3, a4⟩, b1, ⟨c1, c2⟩, d1, e1, f1, g1⟩ := h
  obtain ⟨x1, x2, x3, x4, x5⟩ := hX
  obtain ⟨y0, y1, y2, y3, y4, y5, y6, y7⟩ := hY
  refine ⟨⟨a1, by rw [x1]; exact a2, by rw [x1]; exact a3, by rw [y1]; exact a4⟩, fun k hk => ?_, ⟨by rw [x2]; exact c1, by rw [y2]; exact c2⟩, d1, fun i hi => ?_, fun hc => by rw [x1]; exact f1 hc, fun i hi => ?_⟩
  · rw [x3, y0 k (by omega)]; exact b1 k hk
  · refine ⟨(e1 i hi).1, fun hu => ?_⟩
    obtain ⟨m1, m2, m3, m4⟩ := (e1 i hi).2 hu
    exact ⟨m1, m2, m3, fun h64 => hz i hi hu h64 (m4 h64)⟩
  · obtain ⟨m1, m2, m3, m4⟩ := g1 i hi
    rw [x1, y3, y4, y5]
    refine ⟨m1, m2, m3, ?_⟩
    rcases m4 with m4 | ⟨n1, r, sv, n2, n3, n4, n5⟩
    · exact Or.inl m4
    · refine Or.inr ⟨n1, r, sv, n2, ?_, n4.of x4 x5, by rw [y6]; exact n5⟩
      rw [y7]; exact n3
theorem LNS.chs (h : LNS b nr np E al ln j c q X Y) (hX : Ch ps X X') (hp : ∀ p, p ∈ ps → p ≠ 33 + 8 * j ∧ p ≠ 33 + 8 * j + 7 ∧ p ≠ 33 + 8 * j + 5 ∧ p ≠ 33 + 8 * j + 6) (hY : Ch qs Y Y') (hq : ∀ p, p ∈ qs → (p < 66 ∨ 76 < p) ∧ (p < 80 ∨ 87 < p)) : LNS b nr np E al ln j c q X' Y' :=
  h.ch (LX.of hX hp) (LY.of hY (fun p m => (hq p m).2)) (fun _ _ _ _ hz => hz.ch hY (fun p m => (hq p m).1))
theorem WAY.ch (h : WAY j X Y) (hX : Ch ps X X') (hp : ∀ p, p ∈ ps → p ≠ 33 + 8 * j + 1 ∧ p ≠ 33 + 8 * j + 4) (hY : Ch qs Y Y') (hq : ∀ p, p ∈ qs → p ≠ 88 ∧ p ≠ 89) : WAY j X' Y' := by
  unfold WAY
  rw [(hX.2.2 _ (fun m => (hp _ m).1 rfl)).1, (hX.2.2 _ (fun m => (hp _ m).2 rfl)).1, (hY.2.2 _ (fun m => (hq _ m).1 rfl)).1, (hY.2.2 _ (fun m => (hq _ m).2 rfl)).1]
  exact h
theorem FrM.of {w : Nat} {L : List Int32} (h : FrM Y w L) (hY : Ch qs Y Y') (hq : ∀ p, p ∈ qs → p ≠ 90 ∧ p ≠ 91) : FrM Y' w L := by
  unfold FrM
  rw [(hY.2.2 _ (fun m => (hq _ m).1 rfl)).1, (hY.2.2 _ (fun m => (hq _ m).2 rfl)).1]
  exact h
theorem FRA.ch (h : FRA j X Y) (hX : Ch ps X X') (hp : ∀ p, p ∈ ps → p ≠ 33 + 8 * j + 2 ∧ p ≠ 33 + 8 * j + 3 ∧ p ≠ 33 + 8 * j + 5 ∧ p ≠ 33 + 8 * j + 6) (hY : Ch qs Y Y') (hq : ∀ p, p ∈ qs → p ≠ 90 ∧ p ≠ 91) : FRA j X' Y' := by
  obtain ⟨L, L', f1, f2, f3, f4⟩ := h
  refine ⟨L, L', f1.of ?_ ?_, f2.of hY hq, f3.of ?_ ?_, f4.of hY hq⟩
  · exact (hX.2.2 _ (fun m => (hp _ m).1 rfl)).1
  · exact (hX.2.2 _ (fun m => (hp _ m).2.1 rfl)).1
  · exact (hX.2.2 _ (fun m => (hp _ m).2.2.1 rfl)).1
  · exact (hX.2.2 _ (fun m => (hp _ m).2.2.2 rfl)).1
theorem RH.chs (h : RH X Y) (hX : Ch ps X X') (hp : ∀ p, p ∈ ps → p < 51 ∨ 55 < p) (hY : Ch qs Y Y') (hq : ∀ p, p ∈ qs → p < 77 ∨ 79 < p) (h25 : Y'.I 56 25 = Y.I 56 25) : RH X' Y' := by
  have hn : ∀ p, 51 ≤ p → p ≤ 55 → p ∉ ps := fun p h1 h2 m => by have := hp p m; omega
  have hm : ∀ p, 77 ≤ p → p ≤ 79 → p ∉ qs := fun p h1 h2 m => by have := hq p m; omega
  exact h.ch (hX.2.2 51 (hn _ (by omega) (by omega))).1 (hX.2.2 52 (hn _ (by omega) (by omega))).1 (hX.2.2 53 (hn _ (by omega) (by omega))).1 (hX.2.2 54 (hn _ (by omega) (by omega))).1 (hX.2.2 55 (hn _ (by omega) (by omega))).1 h25 (hY.2.2 77 (hm _ (by omega) (by omega))).1 (hY.2.2 78 (hm _ (by omega) (by omega))).1 (hY.2.2 79 (hm _ (by omega) (by omega))).1
end RL
