/-! All slaves of a line get a job: both sides to the same records. -/
theorem svN_act {f a c v : Nat} {tb : Nat → Nat → Nat} : svN f a c v (acT f a c v tb) = svN f a c v tb := by
  by_cases h : f = 1 ∨ f = 2 ∨ f = 3 ∨ f = 4
  · have e : acT f a c v tb = tb := by
      unfold acT
      rw [if_neg (by omega), if_neg (by omega), if_neg (by omega), if_neg (by omega), if_neg (by omega)]
    rw [e]
  · unfold svN
    have h1 : ¬ (f = 1 ∨ f = 2) := by omega
    have h2 : ¬ (f = 3 ∨ f = 4) := by omega
    rw [if_neg h1, if_neg h2, if_neg h1, if_neg h2]
/-- slave i of line j is meant by unit u -/
abbrev meantQ (j u i : Nat) (al ln : Nat → Nat) : Prop := al i = 1 ∧ ln i = j ∧ (u = 0 ∨ u = i + 1)
abbrev doesQ (j u f a c v i : Nat) (al ln off ls : Nat → Nat) : Prop := meantQ j u i al ln ∧ hears f (off i) (ls i) ∧ refN f a c v = 0
def lsP (j u f a c v : Nat) (al ln off ls : Nat → Nat) : Nat → Nat := fun i => if doesQ j u f a c v i al ln off ls then acL f a (ls i) else ls i
def tbP (j u f a c v : Nat) (al ln off ls : Nat → Nat) (tb : Nat → Nat → Nat → Nat) : Nat → Nat → Nat → Nat := fun i => if doesQ j u f a c v i al ln off ls then acT f a c v (tb i) else tb i
abbrev ansQ (j u f a c v : Nat) (al ln off ls : Nat → Nat) : Prop := 1 ≤ u ∧ u ≤ 6 ∧ al (u - 1) = 1 ∧ ln (u - 1) = j ∧ answersQ u f a c v (off (u - 1)) (ls (u - 1))
def upto (k : Nat) (g g' : Nat → Nat) : Nat → Nat := fun i => if i < k then g' i else g i
def uptoT (k : Nat) (g g' : Nat → Nat → Nat → Nat) : Nat → Nat → Nat → Nat := fun i => if i < k then g' i else g i
theorem upto_lt {k i : Nat} {g g' : Nat → Nat} (h : i < k) : upto k g g' i = g' i := if_pos h
theorem upto_ge {k i : Nat} {g g' : Nat → Nat} (h : ¬ i < k) : upto k g g' i = g i := if_neg h
theorem uptoT_lt {k i : Nat} {g g' : Nat → Nat → Nat → Nat} (h : i < k) : uptoT k g g' i = g' i := if_pos h
theorem uptoT_ge {k i : Nat} {g g' : Nat → Nat → Nat → Nat} (h : ¬ i < k) : uptoT k g g' i = g i := if_neg h
theorem lsP_pos {j u f a c v i : Nat} {al ln off ls : Nat → Nat} (h : doesQ j u f a c v i al ln off ls) : lsP j u f a c v al ln off ls i = acL f a (ls i) := if_pos h
theorem lsP_neg {j u f a c v i : Nat} {al ln off ls : Nat → Nat} (h : ¬ doesQ j u f a c v i al ln off ls) : lsP j u f a c v al ln off ls i = ls i := if_neg h
theorem tbP_pos {j u f a c v i : Nat} {al ln off ls : Nat → Nat} {tb : Nat → Nat → Nat → Nat} (h : doesQ j u f a c v i al ln off ls) : tbP j u f a c v al ln off ls tb i = acT f a c v (tb i) := if_pos h
theorem tbP_neg {j u f a c v i : Nat} {al ln off ls : Nat → Nat} {tb : Nat → Nat → Nat → Nat} (h : ¬ doesQ j u f a c v i al ln off ls) : tbP j u f a c v al ln off ls tb i = tb i := if_neg h
theorem mpost {j u f a c v : Nat} {al ln d off ls : Nat → Nat} {tb : Nat → Nat → Nat → Nat} (hV : ∀ i, i < 6 → SlV (al i) (ln i) (d i) (off i) (ls i) (tb i)) : ∀ i, i < 6 → SlV (al i) (ln i) (d i) (off i) (lsP j u f a c v al ln off ls i) (tbP j u f a c v al ln off ls tb i) := by
  intro i hi
  unfold lsP tbP
  by_cases h : doesQ j u f a c v i al ln off ls
  · rw [if_pos h, if_pos h]
    exact (hV i hi).act
  · rw [if_neg h, if_neg h]
    exact hV i hi
section DL
variable {b : Nat} {X : Xs} {o j u f a c v : Nat} {al ln d off ls : Nat → Nat} {tb : Nat → Nat → Nat → Nat}
theorem li_of {j : Nat} (h : j < 2) : isLi (33 + 8 * j) := by
  unfold isLi
  omega
def slR : List Nat := (List.range 30).map (· + 2)
theorem slR_mem {p : Nat} : p ∈ slR ↔ 2 ≤ p ∧ p < 32 := by
  unfold slR
  simp only [List.mem_map, List.mem_range]
  constructor
  · rintro ⟨a, h, rfl⟩; omega
  · intro h; exact ⟨p - 2, by omega, by omega⟩
theorem c_deliver (hj : j < 2) (hV : ∀ i, i < 6 → SlV (al i) (ln i) (d i) (off i) (ls i) (tb i)) (hS : ∀ i, i < 6 → SlC X i (al i) (ln i) (d i) (off i) (ls i) (tb i)) (h : JobN X o u f a c v) (hl0 : X.I (33 + 8 * j) 0 = nI j) : ∃ X' r, fPl_deliver b (b + (33 + 8 * j)) (b + o) (wX b X) = some (r, wX b X') ∧ (∀ i, i < 6 → SlC X' i (al i) (ln i) (d i) (off i) (lsP j u f a c v al ln off ls i) (tbP j u f a c v al ln off ls tb i)) ∧ Ch slR X X' ∧ ((ansQ j u f a c v al ln off ls ∧ r = some (b + (2 + 5 * (u - 1)))) ∨ (¬ ansQ j u f a c v al ln off ls ∧ r = none)) := by
  have hli := li_of hj
  have key := lp_inv (step := fPl_deliver_L5 b (b + (33 + 8 * j)) (b + o)) (Q := fun q => ∃ X', q.2 = wX b X' ∧ (∀ i, i < 6 → SlC X' i (al i) (ln i) (d i) (off i) (lsP j u f a c v al ln off ls i) (tbP j u f a c v al ln off ls tb i)) ∧ Ch slR X X' ∧ ((ansQ j u f a c v al ln off ls ∧ q.1 = some (b + (2 + 5 * (u - 1)))) ∨ (¬ ansQ j u f a c v al ln off ls ∧ q.1 = none))) (fun k q => ∃ X', q.2 = (nI k, wX b X') ∧ (∀ i, i < 6 → SlC X' i (al i) (ln i) (d i) (off i) (upto k ls (lsP j u f a c v al ln off ls) i) (uptoT k tb (tbP j u f a c v al ln off ls tb) i)) ∧ Ch slR X X' ∧ ((ansQ j u f a c v al ln off ls ∧ u ≤ k ∧ q.1 = some (b + (2 + 5 * (u - 1)))) ∨ (¬ (ansQ j u f a c v al ln off ls ∧ u ≤ k) ∧ q.1 = none))) 6 ?_ ?_ 1000 (none, (0 : Int32), wX b X) (by omega) ⟨X, rfl, fun i hi => hS i hi, Ch.rf, Or.inr ⟨fun q => by have := q.1.1; omega, rfl⟩⟩
  · obtain ⟨⟨r, W⟩, k1, X', hW, k2, k3, k4⟩ := key
    have hW : W = wX b X' := hW
    subst hW
    refine ⟨X', r, ?_, k2, k3, k4⟩
    unfold fPl_deliver
    rw [bs k1]
  · rintro k ⟨r1, q⟩ hk ⟨X', hq, i1, i2, i3⟩
    have hq : q = (nI k, wX b X') := hq
    subst hq
    have hp := isSl_of hk
    have hno : o ∉ slR := by rw [slR_mem]; have := h.1.1; omega
    have h' := h.ch i2 hno
    have hl0' : gI (wX b X') (b + (33 + 8 * j)) [2] 0 = some (nI j) := by
      rw [Li_i0 hli, (i2.2.2 (33 + 8 * j) (by rw [slR_mem]; omega)).1, hl0]
    have hSk := i1 k hk
    have eu : upto k ls (lsP j u f a c v al ln off ls) k = ls k := upto_ge (Nat.lt_irrefl _)
    have et : uptoT k tb (tbP j u f a c v al ln off ls tb) k = tb k := uptoT_ge (Nat.lt_irrefl _)
    rw [eu, et] at hSk
    have hVk := hV k hk
    have g5 : gI (wX b X') (b + (2 + 5 * k)) [5] 5 = some (if al k = 0 then -1 else nI (ln k)) := by rw [Sl_i5 hp, hSk.2.1]
    have pre : ∀ r, (if (if al k = 0 then (-1 : Int32) else nI (ln k)) = nI j then (gO (wX b X') (b + (2 + 5 * k)) [5]).bind fun q15 => (fSl_isMeantBy (b + (2 + 5 * k)) (b + o) (wX b X')).bind fun (v14, S13) => if v14 = 0 then some (.inl (r1, nI k + 1, S13)) else (gO S13 (b + (2 + 5 * k)) [5]).bind fun q18 => (fSl_obey (b + (2 + 5 * k)) (b + o) S13).bind fun (v17, S16) => if v17 = 0 then some (.inl (r1, nI k + 1, S16)) else some (.inl ((some (b + (2 + 5 * k))), nI k + 1, S16)) else some (.inl (r1, nI k + 1, wX b X'))) = some r → fPl_deliver_L5 b (b + (33 + 8 * j)) (b + o) (r1, nI k, wX b X') = some r := by
      intro r hr
      unfold fPl_deliver_L5
      dsimp only
      rw [if_neg (show ¬ (6 : Int32) ≤ nI k from nI_ge (b := 6) hk (by decide)), bs pl_r0, Option.bind_some, sa_r, bs (ax_of hk (by decide) rfl), if_pos hk, Option.bind_some, Option.bind_some, bs g5, bs hl0']
      exact hr
    have hcond : ((if al k = 0 then (-1 : Int32) else nI (ln k)) = nI j) ↔ (al k = 1 ∧ ln k = j) := by
      have h1 := hVk.1
      have h2 := hVk.2.1
      by_cases e : al k = 0
      · rw [if_pos e]
        constructor
        · intro q
          have h3 : nI j < 0 := by rw [← q]; decide
          exact absurd h3 (nI_pos (by omega))
        · rintro ⟨q, -⟩
          omega
      · rw [if_neg e, nI_eq (by omega) (by omega)]
        omega
    -- nothing happens to slave k
    have still : ¬ doesQ j u f a c v k al ln off ls → ∀ X2, Ch slR X' X2 → (∀ i, i < 6 → SlC X2 i (al i) (ln i) (d i) (off i) (upto k ls (lsP j u f a c v al ln off ls) i) (uptoT k tb (tbP j u f a c v al ln off ls tb) i)) → ∀ i, i < 6 → SlC X2 i (al i) (ln i) (d i) (off i) (upto (k + 1) ls (lsP j u f a c v al ln off ls) i) (uptoT (k + 1) tb (tbP j u f a c v al ln off ls tb) i) := by
      intro hd X2 _ hX2 i hi
      have := hX2 i hi
      by_cases e : i = k
      · subst e
        rw [upto_lt (Nat.lt_succ_self _), uptoT_lt (Nat.lt_succ_self _), lsP_neg hd, tbP_neg hd]
        rw [upto_ge (Nat.lt_irrefl _), uptoT_ge (Nat.lt_irrefl _)] at this
        exact this
      · by_cases e2 : i < k
        · rw [upto_lt (by omega), uptoT_lt (by omega)]
          rw [upto_lt e2, uptoT_lt e2] at this
          exact this
        · rw [upto_ge (by omega), uptoT_ge (by omega)]
          rw [upto_ge e2, uptoT_ge e2] at this
          exact this
    by_cases c1 : al k = 1 ∧ ln k = j
    · obtain ⟨qs, gs⟩ := Sl_o (b := b) (X := X') hp
      by_cases c2 : u = 0 ∨ u = k + 1
      · obtain ⟨X2, r2, o1, o2, o3, o4⟩ := c_obey (b := b) hk hVk hSk h'
        have hch : Ch slR X' X2 := o3.mono (by intro p hp; rw [slR_mem]; simp at hp; omega)
        have hm : fSl_isMeantBy (b + (2 + 5 * k)) (b + o) (wX b X') = some (1, wX b X') := by rw [c_meant hk hSk h', if_pos c2]
        have hrun : ∀ r, (if r2 = 0 then some (.inl (r1, nI k + 1, wX b X2)) else some (.inl ((some (b + (2 + 5 * k))), nI k + 1, wX b X2))) = some r → fPl_deliver_L5 b (b + (33 + 8 * j)) (b + o) (r1, nI k, wX b X') = some r := by
          intro r hr
          refine pre r ?_
          rw [if_pos (hcond.mpr c1), bs gs, bs hm]
          dsimp only
          rw [if_neg (by decide), bs gs, bs o1]
          exact hr
        have hrec : ∀ i, i < 6 → SlC X2 i (al i) (ln i) (d i) (off i) (upto (k + 1) ls (lsP j u f a c v al ln off ls) i) (uptoT (k + 1) tb (tbP j u f a c v al ln off ls tb) i) := by
          intro i hi
          by_cases e : i = k
          · subst e
            rw [upto_lt (Nat.lt_succ_self _), uptoT_lt (Nat.lt_succ_self _)]
            have e1 : doesQ j u f a c v i al ln off ls ↔ (hears f (off i) (ls i) ∧ refN f a c v = 0) := ⟨fun q => q.2, fun q => ⟨⟨c1.1, c1.2, c2⟩, q⟩⟩
            by_cases e2 : hears f (off i) (ls i) ∧ refN f a c v = 0
            · rw [lsP_pos (e1.mpr e2), tbP_pos (e1.mpr e2)]
              rw [if_pos e2, if_pos e2] at o4
              exact o4
            · rw [lsP_neg (fun q => e2 (e1.mp q)), tbP_neg (fun q => e2 (e1.mp q))]
              rw [if_neg e2, if_neg e2] at o4
              exact o4
          · have := (i1 i hi).ch o3 (by intro t ht; simp; omega)
            by_cases e2 : i < k
            · rw [upto_lt (by omega), uptoT_lt (by omega)]
              rw [upto_lt e2, uptoT_lt e2] at this
              exact this
            · rw [upto_ge (by omega), uptoT_ge (by omega)]
              rw [upto_ge e2, uptoT_ge e2] at this
              exact this
        rcases o2 with ⟨oa, rfl⟩ | ⟨oa, rfl⟩
        · have hu : u = k + 1 := by have := oa.2.1; omega
          subst hu
          refine ⟨_, hrun _ (by rw [if_neg (by decide)]), X2, by rw [nI_1], hrec, i2.tr hch, Or.inl ⟨⟨by omega, by omega, c1.1, c1.2, oa⟩, Nat.le_refl _, rfl⟩⟩
        · refine ⟨_, hrun _ (by rw [if_pos rfl]), X2, by rw [nI_1], hrec, i2.tr hch, ?_⟩
          rcases i3 with ⟨a1, a2, a3⟩ | ⟨a1, a3⟩
          · exact Or.inl ⟨a1, by omega, a3⟩
          · refine Or.inr ⟨fun q => ?_, a3⟩
            by_cases e : u ≤ k
            · exact a1 ⟨q.1, e⟩
            · have hu : u = k + 1 := by have := q.2; omega
              subst hu
              exact oa q.1.2.2.2.2
      · have hm : fSl_isMeantBy (b + (2 + 5 * k)) (b + o) (wX b X') = some (0, wX b X') := by rw [c_meant hk hSk h', if_neg c2]
        refine ⟨_, pre (.inl (r1, nI k + 1, wX b X')) ?_, X', by rw [nI_1], still (fun q => c2 q.1.2.2) X' Ch.rf i1, i2, ?_⟩
        · rw [if_pos (hcond.mpr c1), bs gs, bs hm]
          dsimp only
          rw [if_pos rfl]
        · rcases i3 with ⟨a1, a2, a3⟩ | ⟨a1, a3⟩
          · exact Or.inl ⟨a1, by omega, a3⟩
          · exact Or.inr ⟨fun q => a1 ⟨q.1, by have := q.1.1; have := q.2; omega⟩, a3⟩
    · refine ⟨_, pre (.inl (r1, nI k + 1, wX b X')) ?_, X', by rw [nI_1], still (fun q => c1 ⟨q.1.1, q.1.2.1⟩) X' Ch.rf i1, i2, ?_⟩
      · rw [if_neg (fun q => c1 (hcond.mp q))]
      · rcases i3 with ⟨a1, a2, a3⟩ | ⟨a1, a3⟩
        · exact Or.inl ⟨a1, by omega, a3⟩
        · refine Or.inr ⟨fun q => ?_, a3⟩
          by_cases e : u ≤ k
          · exact a1 ⟨q.1, e⟩
          · have hu : u = k + 1 := by have := q.2; omega
            subst hu
            exact c1 ⟨q.1.2.2.1, q.1.2.2.2.1⟩
  · rintro ⟨r1, q⟩ ⟨X', hq, i1, i2, i3⟩
    have hq : q = (nI 6, wX b X') := hq
    subst hq
    refine ⟨(r1, wX b X'), ?_, X', rfl, fun i hi => ?_, i2, ?_⟩
    · unfold fPl_deliver_L5
      dsimp only
      rw [if_pos (by decide)]
    · have := i1 i hi
      rw [upto_lt hi, uptoT_lt hi] at this
      exact this
    · rcases i3 with ⟨a1, a2, a3⟩ | ⟨a1, a3⟩
      · exact Or.inl ⟨a1, a3⟩
      · exact Or.inr ⟨fun q => a1 ⟨q, q.2.1⟩, a3⟩
end DL
