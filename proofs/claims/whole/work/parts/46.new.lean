/-! A new job: the cell, and what it changes of the relation. -/
theorem add_up {S : Ws} {x y : Cel} : (S.add x).up S.1 y = S.add y := by
  refine Prod.ext rfl ?_
  funext a
  show va_up (va_up S.2 S.1 (some x)) S.1 (some y) a = va_up S.2 S.1 (some y) a
  by_cases h : a = S.1
  · subst h
    rw [va_up_self, va_up_self]
  · rw [va_up_ne _ _ h, va_up_ne _ _ h, va_up_ne _ _ h]
theorem add_pV {S : Ws} {ci k : Nat} {cs : List Nat} {fs : List Value} {v : Value} (hc : ci ∈ cs) (hk : k < fs.length) : pV (S.add (.inr (ci, fs))) S.1 cs k v = some (S.add (.inr (ci, fs.set k v))) := by
  rw [pV_of add_self hc hk, add_up]
theorem add_gR {S : Ws} {a k : Nat} {x : Cel} {cs : List Nat} (h : a ≠ S.1) : gR (S.add x) a cs k = gR S a cs k := by
  unfold gR gV gO
  rw [add_ne h]
theorem re_new (S : Ws) (n u f a c : Int32) (v : Int64) : fRe_init S.1 n u f a c v (S.add (.inr (4, [.int 0, .int 0, .int 0, .int 0, .int 0, .long 0, .int 0, .int 0, .long 0]))) = some (S.add (.inr (4, [.int n, .int u, .int f, .int a, .int c, .long v, .int 0, .int 0, .long 0]))) := by
  unfold fRe_init fJo_init
  rw [bs (add_pV (by decide) (Nat.le_of_ble_eq_true rfl)), bs (add_pV (by decide) (Nat.le_of_ble_eq_true rfl)), bs (add_pV (by decide) (Nat.le_of_ble_eq_true rfl)), bs (add_pV (by decide) (Nat.le_of_ble_eq_true rfl)), bs (add_pV (by decide) (Nat.le_of_ble_eq_true rfl)), bs (add_pV (by decide) (Nat.le_of_ble_eq_true rfl)), Option.bind_some, bs (add_pV (by decide) (Nat.le_of_ble_eq_true rfl))]
  rfl
theorem po_new (S : Ws) (n u f a : Int32) (h : Nat) : fPo_init S.1 n u f a h (S.add (.inr (3, [.int 0, .int 0, .int 0, .int 0, .int 0, .long 0, .int 0, .null]))) = some (S.add (.inr (3, [.int ((64 : Int32) + n), .int u, .int f, .int a, .int 1, .long 0, .int n, .ref h]))) := by
  unfold fPo_init fJo_init
  rw [bs (add_pV (by decide) (Nat.le_of_ble_eq_true rfl)), bs (add_pV (by decide) (Nat.le_of_ble_eq_true rfl)), bs (add_pV (by decide) (Nat.le_of_ble_eq_true rfl)), bs (add_pV (by decide) (Nat.le_of_ble_eq_true rfl)), bs (add_pV (by decide) (Nat.le_of_ble_eq_true rfl)), bs (add_pV (by decide) (Nat.le_of_ble_eq_true rfl)), Option.bind_some, bs (add_pV (by decide) (Nat.le_of_ble_eq_true rfl)), bs (add_pV (by decide) (Nat.le_of_ble_eq_true rfl))]
  rfl
theorem wX_add {b : Nat} {X X' : Xs} {c : Cel} (hn : X'.n = X.n + 1) (hc : cel b X' (92 + X.n) = c) (hr : ∀ p, p ≠ 92 + X.n → X'.I p = X.I p ∧ X'.R p = X.R p ∧ X'.J p = X.J p ∧ X'.K p = X.K p) : (wX b X).add c = wX b X' := by
  unfold Ws.add wX
  rw [hn]
  refine Prod.ext (by show b + (92 + X.n) + 1 = b + (92 + (X.n + 1)); omega) ?_
  funext a
  show va_up _ (b + (92 + X.n)) (some c) a = _
  by_cases ha : a = b + (92 + X.n)
  · subst ha
    rw [va_up_self]
    show _ = (if b + (92 + X.n) < b then none else if b + (92 + X.n) < b + (92 + (X.n + 1)) then some (cel b X' (b + (92 + X.n) - b)) else none)
    rw [if_neg (by omega), if_pos (by omega), show b + (92 + X.n) - b = 92 + X.n by omega, hc]
  · rw [va_up_ne _ _ ha]
    show (if a < b then none else if a < b + (92 + X.n) then some (cel b X (a - b)) else none) = (if a < b then none else if a < b + (92 + (X.n + 1)) then some (cel b X' (a - b)) else none)
    by_cases h1 : a < b
    · rw [if_pos h1, if_pos h1]
    · have hp : a - b ≠ 92 + X.n := by omega
      obtain ⟨r1, r2, r3, r4⟩ := hr _ hp
      rw [if_neg h1, if_neg h1, cel_congr r1 r2 r3 r4]
      by_cases h2 : a < b + (92 + X.n)
      · rw [if_pos h2, if_pos (by omega)]
      · rw [if_neg h2, if_neg (by omega)]
def Xs.gr (X : Xs) (k : Nat) : Xs := (X.I, X.R, X.J, X.n + 1, fun p => if p = 92 + X.n then k else X.K p)
def Xs.job (X : Xs) (k : Nat) (i : Nat → Int32) (j : Nat → Int64) : Xs := (fun p => if p = 92 + X.n then i else X.I p, X.R, fun p => if p = 92 + X.n then j else X.J p, X.n + 1, fun p => if p = 92 + X.n then k else X.K p)
def jI (a0 a1 a2 a3 a4 a6 a7 : Int32) : Nat → Int32 := fun k => if k = 0 then a0 else if k = 1 then a1 else if k = 2 then a2 else if k = 3 then a3 else if k = 4 then a4 else if k = 6 then a6 else a7
def jJ (v w : Int64) : Nat → Int64 := fun k => if k = 5 then v else w
section JN
variable {b : Nat} {X : Xs} {k : Nat} {i : Nat → Int32} {j : Nat → Int64}
theorem job_I : (X.job k i j).I (92 + X.n) = i := if_pos rfl
theorem job_J : (X.job k i j).J (92 + X.n) = j := if_pos rfl
theorem job_K : (X.job k i j).K (92 + X.n) = k := if_pos rfl
theorem job_oI {p : Nat} (h : p ≠ 92 + X.n) : (X.job k i j).I p = X.I p := if_neg h
theorem job_oJ {p : Nat} (h : p ≠ 92 + X.n) : (X.job k i j).J p = X.J p := if_neg h
theorem job_oK {p : Nat} (h : p ≠ 92 + X.n) : (X.job k i j).K p = X.K p := if_neg h
theorem job_w {c : Cel} (h : jobX b i j k = c) : (wX b X).add c = wX b (X.job k i j) := by
  refine wX_add rfl ?_ (fun p hp => ⟨job_oI hp, rfl, job_oJ hp, job_oK hp⟩)
  unfold cel
  rw [if_neg (by omega), job_I, job_J, job_K]
  exact h
theorem job_c (l : List Nat) (h : 92 + X.n ∈ l) : Ch l (X.gr k) (X.job k i j) := ⟨rfl, rfl, fun p hp => ⟨job_oI (fun e => hp (e ▸ h)), rfl, job_oJ (fun e => hp (e ▸ h))⟩⟩
theorem job_ck : CK X (X.job k i j) := fun p _ h2 => ⟨job_oI (by omega), rfl, job_oJ (by omega)⟩
theorem gr_jo {p : Nat} (h : isJo X p) : isJo (X.gr k) p := by
  have h2 := h.2.1
  refine ⟨h.1, by show p < 92 + (X.n + 1); omega, ?_⟩
  show (if p = 92 + X.n then k else X.K p) = 3 ∨ (if p = 92 + X.n then k else X.K p) = 4
  rw [if_neg (by omega)]
  exact h.2.2
theorem gr_re {p : Nat} (h : isRe X p) : isRe (X.gr k) p := by
  have h2 := h.2.1
  refine ⟨h.1, by show p < 92 + (X.n + 1); omega, ?_⟩
  show (if p = 92 + X.n then k else X.K p) = 4
  rw [if_neg (by omega)]
  exact h.2.2
theorem gr_po {p : Nat} (h : isPo X p) : isPo (X.gr k) p := by
  have h2 := h.2.1
  refine ⟨h.1, by show p < 92 + (X.n + 1); omega, ?_⟩
  show (if p = 92 + X.n then k else X.K p) = 3
  rw [if_neg (by omega)]
  exact h.2.2
theorem gr_nr : isRe (X.gr 4) (92 + X.n) := ⟨by omega, by show 92 + X.n < 92 + (X.n + 1); omega, if_pos rfl⟩
theorem gr_np : isPo (X.gr 3) (92 + X.n) := ⟨by omega, by show 92 + X.n < 92 + (X.n + 1); omega, if_pos rfl⟩
end JN
def exE (E : Nat → Nat → Nat) (n : Nat) (w : Nat → Nat) : Nat → Nat → Nat := fun c i => if i = n then w c else E c i
theorem exE_s {E : Nat → Nat → Nat} {n c : Nat} {w : Nat → Nat} : exE E n w c n = w c := if_pos rfl
theorem exE_o {E : Nat → Nat → Nat} {n c i : Nat} {w : Nat → Nat} (h : i ≠ n) : exE E n w c i = E c i := if_neg h
def jw (o u f a c v : Nat) : Nat → Nat := fun k => if k = 0 then o else if k = 1 then u else if k = 2 then f else if k = 3 then a else if k = 4 then c else v
section AD
variable {b t nr np j i : Nat} {E : Nat → Nat → Nat} {al ln d off ls : Nat → Nat} {tb : Nat → Nat → Nat → Nat} {cur : Nat → Option Nat} {q : Nat → List Nat} {X Y X2 Y2 : Xs}
theorem grow (hI : Inv b t nr np E al ln d off ls tb cur q X Y) (k : Nat) : Inv b t nr np E al ln d off ls tb cur q (X.gr k) Y := by
  refine ⟨hI.1, hI.2.1, ⟨fun i hi => ?_, hI.2.2.1.2⟩, hI.2.2.2⟩
  have h := hI.2.2.1.1 i hi
  exact ⟨⟨gr_jo h.1.1, h.1.2⟩, h.2.1, fun a => ⟨gr_re (h.2.2.1 a).1, (h.2.2.1 a).2⟩, fun a => ⟨gr_po (h.2.2.2 a).1, (h.2.2.2 a).2⟩⟩
theorem JQ.ch2 {i : Nat} {ps : List Nat} (h : JQ E i X Y) (hX : Ch ps X X2) (hp : E 0 i ∉ ps) (hY : i < 64 → (∀ p, 66 ≤ p → p ≤ 72 → p ≠ 70 → Y2.I p i = Y.I p i) ∧ Y2.J 70 i = Y.J 70 i ∧ Y2.J 73 i = Y.J 73 i) (hY2 : 64 ≤ i → ∀ p, 74 ≤ p → p ≤ 76 → Y2.I p (i - 64) = Y.I p (i - 64)) : JQ E i X2 Y2 := by
  obtain ⟨h1, h2, h3, h4⟩ := h
  obtain ⟨x1, x2, x3⟩ := hX.2.2 _ hp
  refine ⟨h1.ch hX hp, by rw [x1]; exact h2, fun hi => ?_, fun hi => ?_⟩
  · obtain ⟨a1, a2, a3, a4, a5, a6, a7, a8, a9⟩ := h3 hi
    obtain ⟨hY, hJ, hJ'⟩ := hY hi
    refine ⟨hX.re a1, ?_, ?_, ?_, ?_, ?_, ?_, ?_, ?_⟩
    · rw [hY 66 (by omega) (by omega) (by omega)]; exact a2
    · rw [hY 67 (by omega) (by omega) (by omega)]; exact a3
    · rw [hY 68 (by omega) (by omega) (by omega)]; exact a4
    · rw [hY 69 (by omega) (by omega) (by omega)]; exact a5
    · rw [hJ]; exact a6
    · rw [hY 71 (by omega) (by omega) (by omega), x1]; exact a7
    · rw [hY 72 (by omega) (by omega) (by omega), x1]; exact a8
    · rw [hJ', x3]; exact a9
  · obtain ⟨a1, a2, a3, a4, a5, a6⟩ := h4 hi
    refine ⟨hX.po a1, by rw [x1]; exact a2, ?_, ?_, ?_, a6⟩
    · rw [hY2 hi 74 (by omega) (by omega)]; exact a3
    · rw [hY2 hi 75 (by omega) (by omega)]; exact a4
    · rw [hY2 hi 76 (by omega) (by omega)]; exact a5
theorem JQ.ex {E' : Nat → Nat → Nat} {i : Nat} (h : JQ E i X Y) (he : ∀ c, E' c i = E c i) : JQ E' i X Y := by
  unfold JQ
  simp only [he]
  exact h
theorem LNS.ex {nr' np' : Nat} {E' : Nat → Nat → Nat} {c : Option Nat} {q : List Nat} (h : LNS b nr np E al ln j c q X Y) (hl : ∀ i, liveJ nr np i → liveJ nr' np' i ∧ ∀ c, E' c i = E c i) : LNS b nr' np' E' al ln j c q X Y := by
  obtain ⟨a, b1, ⟨c1, c2⟩, d1, e1, f1, g1⟩ := h
  refine ⟨a, fun k hk => ?_, ⟨?_, c2⟩, d1, fun i hi => ?_, f1, fun i hi => ?_⟩
  · have m := e1 (q.getD k 0) (List.mem_append_right _ (gd_mem.mp ⟨k, hk, rfl⟩))
    rw [(hl _ m.1).2 0]
    exact b1 k hk
  · cases c with
    | none => exact c1
    | some i =>
      show _ = some (b + E' 0 i)
      rw [(hl i (e1 i (by simp)).1).2 0]
      exact c1
  · have m := e1 i hi
    refine ⟨(hl i m.1).1, ?_⟩
    rw [(hl i m.1).2 1]
    exact m.2
  · obtain ⟨m1, m2, m3, m4⟩ := g1 i hi
    refine ⟨m1, m2, m3, ?_⟩
    have he := (hl i (e1 i (by rw [hi]; simp)).1).2
    rcases m4 with m4 | m4
    · exact Or.inl m4
    · right
      unfold PND
      simp only [he]
      exact m4
theorem adopt (hI : Inv b t nr np E al ln d off ls tb cur q X Y) {nr' np' i0 : Nat} {E' : Nat → Nat → Nat} (hl : ∀ i, liveJ nr' np' i ↔ liveJ nr np i ∨ i = i0) (hn0 : ¬ liveJ nr np i0) (hE : ∀ i, i ≠ i0 → ∀ c, E' c i = E c i) (hfr : ∀ i, liveJ nr np i → E 0 i ≠ E' 0 i0) (h92 : 92 ≤ E' 0 i0) (hX : Ch [0, 49, 50, E' 0 i0] X X2) (hY : Ch [56, 66, 67, 68, 69, 70, 74, 75, 76] Y Y2) (hSC : SC t nr' np' X2 Y2) (h25 : Y2.I 56 25 = Y.I 56 25) (hJ : JQ E' i0 X2 Y2) (yk : ∀ k, k ≠ i0 → (∀ p, 66 ≤ p → p ≤ 69 → Y2.I p k = Y.I p k) ∧ Y2.J 70 k = Y.J 70 k) (yp : ∀ k, 64 + k ≠ i0 → ∀ p, 74 ≤ p → p ≤ 76 → Y2.I p k = Y.I p k) (h49 : ∀ i, i < nr' → X2.R 49 i = some (b + E' 0 i)) (h50 : ∀ p, p < np' → X2.R 50 p = some (b + E' 0 (64 + p))) (hal : ∀ i, 64 ≤ i → i < 64 + np' → al (E' 1 i - 1) = 1) (hz : ∀ i, nr' ≤ i → nr ≤ i) : Inv b t nr' np' E' al ln d off ls tb cur q X2 Y2 := by
  obtain ⟨-, hSL, hJB, hLN, hWA, hFR, hRH⟩ := hI
  have hZ : ∀ i, Z0 Y i → Z0 Y2 i := fun i h => by
    unfold Z0
    rw [(hY.2.2 71 (by simp)).1, (hY.2.2 72 (by simp)).1, (hY.2.2 73 (by simp)).2.2]
    exact h
  have hlv : ∀ i, liveJ nr np i → i ≠ i0 := fun i h e => hn0 (e ▸ h)
  refine ⟨hSC, ⟨hSL.1, fun i hi => (hSL.2.1 i hi).ch hX (by intro t ht; simp only [List.mem_cons, List.not_mem_nil, or_false]; omega), fun i hi => (hSL.2.2 i hi).ch hY (by intro p hp; simp only [List.mem_cons, List.not_mem_nil, or_false] at hp; omega)⟩, ⟨fun i hi => ?_, h49, h50, fun i k hi hk e => ?_, hal, fun i h1 h2 => hZ i (hJB.2.2.2.2.2 i (hz i h1) h2)⟩, fun j' hj' => ?_, fun j' hj' => (hWA j' hj').ch hX (by intro p hp; simp only [List.mem_cons, List.not_mem_nil, or_false] at hp; omega) hY (by intro p hp; simp only [List.mem_cons, List.not_mem_nil, or_false] at hp; omega), fun j' hj' => (hFR j' hj').ch hX (by intro p hp; simp only [List.mem_cons, List.not_mem_nil, or_false] at hp; omega) hY (by intro p hp; simp only [List.mem_cons, List.not_mem_nil, or_false] at hp; omega), hRH.chs hX (by intro p hp; simp only [List.mem_cons, List.not_mem_nil, or_false] at hp; omega) hY (by intro p hp; simp only [List.mem_cons, List.not_mem_nil, or_false] at hp; omega) h25⟩
  · by_cases e : i = i0
    · subst e; exact hJ
    · have hli : liveJ nr np i := ((hl i).mp hi).resolve_right e
      have ho := hJB.1 i hli
      have h9 := ho.1.1.1
      have hne := hfr i hli
      refine (ho.ch2 hX (by simp only [List.mem_cons, List.not_mem_nil, or_false]; omega) (fun h => ⟨fun p h1 h2 h3 => ?_, (yk i e).2, by rw [(hY.2.2 73 (by simp)).2.2]⟩) (fun h p h1 h2 => yp (i - 64) (by omega) p h1 h2)).ex (hE i e)
      by_cases hp : p ≤ 69
      · exact (yk i e).1 p h1 hp
      · have hp : p = 71 ∨ p = 72 := by omega
        rcases hp with rfl | rfl
        · rw [(hY.2.2 71 (by simp)).1]
        · rw [(hY.2.2 72 (by simp)).1]
  · by_cases e1 : i = i0
    · by_cases e2 : k = i0
      · rw [e1, e2]
      · have hk' := ((hl k).mp hk).resolve_right e2
        rw [e1, hE k e2] at e
        exact absurd e.symm (hfr k hk')
    · have hi' := ((hl i).mp hi).resolve_right e1
      by_cases e2 : k = i0
      · rw [e2, hE i e1] at e
        exact absurd e (hfr i hi')
      · have hk' := ((hl k).mp hk).resolve_right e2
        rw [hE i e1, hE k e2] at e
        exact hJB.2.2.2.1 i k hi' hk' e
  · refine LNS.ex ((hLN j' hj').ch (LX.of hX (by intro p hp; simp only [List.mem_cons, List.not_mem_nil, or_false] at hp; omega)) (LY.of hY (by intro p hp; simp only [List.mem_cons, List.not_mem_nil, or_false] at hp; omega)) (fun i _ _ _ h => hZ i h)) (fun i hi => ⟨(hl i).mpr (Or.inl hi), hE i (hlv i hi)⟩)
theorem set_inv (hI : Inv b t nr np E al ln d off ls tb cur q X Y) (hi : i < nr) (hX : Ch [E 0 i] X X2) (xk : ∀ k, k ≠ 6 → k ≠ 7 → X2.I (E 0 i) k = X.I (E 0 i) k) (xJ : X2.J (E 0 i) = X.J (E 0 i)) (hY : Ch [71, 72] Y Y2) (yk : ∀ k, k ≠ i → Y2.I 71 k = Y.I 71 k ∧ Y2.I 72 k = Y.I 72 k) (e6 : X2.I (E 0 i) 6 = Y2.I 71 i) (e7 : X2.I (E 0 i) 7 = Y2.I 72 i) (hno : ∀ j, j < 2 → ∀ k, k ∈ (cur j).toList ++ q j → E 1 k ≠ 0 → k ≠ i) : Inv b t nr np E al ln d off ls tb cur q X2 Y2 := by
  obtain ⟨hSC, hSL, hJB, hLN, hWA, hFR, hRH⟩ := hI
  have h64 := hSC.1
  have ho := hJB.1 i (Or.inl hi)
  have h92 := ho.1.1.1
  have hZ : ∀ k, k ≠ i → Z0 Y k → Z0 Y2 k := fun k hk h => by
    unfold Z0
    rw [(yk k hk).1, (yk k hk).2, (hY.2.2 73 (by simp)).2.2]
    exact h
  have yr : ∀ p, p ≠ 71 → p ≠ 72 → Y2.I p = Y.I p ∧ Y2.J p = Y.J p := fun p h1 h2 => ⟨(hY.2.2 p (by simp; omega)).1, (hY.2.2 p (by simp; omega)).2.2⟩
  refine ⟨hSC.ch hX (by intro p hp; simp only [List.mem_cons, List.not_mem_nil, or_false] at hp; omega) (K56.of hY (by intro p hp; simp only [List.mem_cons, List.not_mem_nil, or_false] at hp; omega)), hSL.ch hX (by intro p hp; simp only [List.mem_cons, List.not_mem_nil, or_false] at hp; omega) hY (by intro p hp; simp only [List.mem_cons, List.not_mem_nil, or_false] at hp; omega), ⟨fun k hk => ?_, fun k hk => ?_, fun k hk => ?_, hJB.2.2.2.1, hJB.2.2.2.2.1, fun k h1 h2 => hZ k (by omega) (hJB.2.2.2.2.2 k h1 h2)⟩, fun j' hj' => ?_, fun j' hj' => (hWA j' hj').ch hX (by intro p hp; simp only [List.mem_cons, List.not_mem_nil, or_false] at hp; omega) hY (by intro p hp; simp only [List.mem_cons, List.not_mem_nil, or_false] at hp; omega), fun j' hj' => (hFR j' hj').ch hX (by intro p hp; simp only [List.mem_cons, List.not_mem_nil, or_false] at hp; omega) hY (by intro p hp; simp only [List.mem_cons, List.not_mem_nil, or_false] at hp; omega), hRH.chs hX (by intro p hp; simp only [List.mem_cons, List.not_mem_nil, or_false] at hp; omega) hY (by intro p hp; simp only [List.mem_cons, List.not_mem_nil, or_false] at hp; omega) (by rw [(yr 56 (by decide) (by decide)).1])⟩
  · by_cases e : k = i
    · subst e
      obtain ⟨⟨o1, ⟨p1, p2, p3, p4, p5⟩, o3⟩, o4, o5, -⟩ := ho
      obtain ⟨a1, a2, a3, a4, a5, a6, a7, a8, a9⟩ := o5 (by omega)
      refine ⟨⟨hX.jo o1, ⟨?_, ?_, ?_, ?_, ?_⟩, o3⟩, ?_, fun _ => ⟨hX.re a1, ?_, ?_, ?_, ?_, ?_, e6, e7, ?_⟩, fun h => by omega⟩
      · rw [xk 1 (by decide) (by decide)]; exact p1
      · rw [xk 2 (by decide) (by decide)]; exact p2
      · rw [xk 3 (by decide) (by decide)]; exact p3
      · rw [xk 4 (by decide) (by decide)]; exact p4
      · rw [xJ]; exact p5
      · rw [xk 0 (by decide) (by decide)]; exact o4
      · rw [(yr 66 (by decide) (by decide)).1]; exact a2
      · rw [(yr 67 (by decide) (by decide)).1]; exact a3
      · rw [(yr 68 (by decide) (by decide)).1]; exact a4
      · rw [(yr 69 (by decide) (by decide)).1]; exact a5
      · rw [(yr 70 (by decide) (by decide)).2]; exact a6
      · rw [(yr 73 (by decide) (by decide)).2, xJ]; exact a9
    · have hok := hJB.1 k hk
      have hne : E 0 k ≠ E 0 i := fun m => e (hJB.2.2.2.1 k i hk (Or.inl hi) m)
      refine hok.ch2 hX (by simp only [List.mem_cons, List.not_mem_nil, or_false]; exact hne) (fun _ => ⟨fun p h1 h2 h3 => ?_, by rw [(yr 70 (by decide) (by decide)).2], by rw [(yr 73 (by decide) (by decide)).2]⟩) (fun _ p h1 h2 => by rw [(yr p (by omega) (by omega)).1])
      have hp : p = 71 ∨ p = 72 ∨ (p ≠ 71 ∧ p ≠ 72) := by omega
      rcases hp with rfl | rfl | hp
      · exact (yk k e).1
      · exact (yk k e).2
      · rw [(yr p hp.1 hp.2).1]
  · rw [(hX.2.2 49 (by simp only [List.mem_cons, List.not_mem_nil, or_false]; omega)).2.1]; exact hJB.2.1 k hk
  · rw [(hX.2.2 50 (by simp only [List.mem_cons, List.not_mem_nil, or_false]; omega)).2.1]; exact hJB.2.2.1 k hk
  · exact (hLN j' hj').ch (LX.of hX (by intro p hp; simp only [List.mem_cons, List.not_mem_nil, or_false] at hp; omega)) (LY.of hY (by intro p hp; simp only [List.mem_cons, List.not_mem_nil, or_false] at hp; omega)) (fun k hk hu _ h => hZ k (hno j' hj' k hk hu) h)
end AD
