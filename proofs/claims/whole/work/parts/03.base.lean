/-! Rows over the story's steps: loops by a trajectory, or by what holds at each turn; reading and writing known cells. -/
theorem lp_traj {σ ρ : Type} {step : σ → Option (σ ⊕ ρ)} (f : Nat → σ) (n : Nat) {r : ρ} (h1 : ∀ k, k < n → step (f k) = some (.inl (f (k + 1)))) (h2 : step (f n) = some (.inr r)) : ∀ (N : Nat), n < N → lp step N (f 0) = some r := by
  have key : ∀ j k N, k + j = n → j < N → lp step N (f k) = some r := by
    intro j
    induction j with
    | zero =>
      intro k N hk hN
      obtain ⟨N', rfl⟩ : ∃ N', N = N' + 1 := ⟨N - 1, by omega⟩
      have e : k = n := by omega
      subst e
      simp only [lp, h2, Option.bind_some]
    | succ j ih =>
      intro k N hk hN
      obtain ⟨N', rfl⟩ : ∃ N', N = N' + 1 := ⟨N - 1, by omega⟩
      simp only [lp, h1 k (by omega), Option.bind_some]
      exact ih (k + 1) N' (by omega) (by omega)
  intro N hN
  exact key n 0 N (by omega) hN
theorem lp_inv {σ ρ : Type} {step : σ → Option (σ ⊕ ρ)} (I : Nat → σ → Prop) (n : Nat) {Q : ρ → Prop} (h1 : ∀ k s, k < n → I k s → ∃ s', step s = some (.inl s') ∧ I (k + 1) s') (h2 : ∀ s, I n s → ∃ r, step s = some (.inr r) ∧ Q r) : ∀ (N : Nat) (s : σ), n < N → I 0 s → ∃ r, lp step N s = some r ∧ Q r := by
  have key : ∀ j k N s, k + j = n → j < N → I k s → ∃ r, lp step N s = some r ∧ Q r := by
    intro j
    induction j with
    | zero =>
      intro k N s hk hN hI
      obtain ⟨N', rfl⟩ : ∃ N', N = N' + 1 := ⟨N - 1, by omega⟩
      have e : k = n := by omega
      subst e
      obtain ⟨r, hr, hq⟩ := h2 s hI
      exact ⟨r, by simp only [lp, hr, Option.bind_some], hq⟩
    | succ j ih =>
      intro k N s hk hN hI
      obtain ⟨N', rfl⟩ : ∃ N', N = N' + 1 := ⟨N - 1, by omega⟩
      obtain ⟨s', hs, hI'⟩ := h1 k s (by omega) hI
      obtain ⟨r, hr, hq⟩ := ih (k + 1) N' s' (by omega) (by omega) hI'
      exact ⟨r, by simp only [lp, hs, Option.bind_some]; exact hr, hq⟩
  intro N s hN hI
  exact key n 0 N s (by omega) hN hI
theorem gO_of {S : Ws} {a ci : Nat} {cs : List Nat} {fs : List Value} (h : S.2 a = some (.inr (ci, fs))) (hc : ci ∈ cs) : gO S a cs = some (ci, fs) := by
  simp [gO, h, hc]
theorem gI_of {S : Ws} {a ci k : Nat} {cs : List Nat} {fs : List Value} {x : Int32} (h : S.2 a = some (.inr (ci, fs))) (hc : ci ∈ cs) (hk : fs[k]? = some (.int x)) : gI S a cs k = some x := by
  simp [gI, gV, gO_of h hc, hk, vI]
theorem gL_of {S : Ws} {a ci k : Nat} {cs : List Nat} {fs : List Value} {x : Int64} (h : S.2 a = some (.inr (ci, fs))) (hc : ci ∈ cs) (hk : fs[k]? = some (.long x)) : gL S a cs k = some x := by
  simp [gL, gV, gO_of h hc, hk, vL]
theorem gR_of {S : Ws} {a ci k y : Nat} {cs : List Nat} {fs : List Value} (h : S.2 a = some (.inr (ci, fs))) (hc : ci ∈ cs) (hk : fs[k]? = some (.ref y)) : gR S a cs k = some (some y) := by
  simp [gR, gV, gO_of h hc, hk, vR]
theorem gR_no {S : Ws} {a ci k : Nat} {cs : List Nat} {fs : List Value} (h : S.2 a = some (.inr (ci, fs))) (hc : ci ∈ cs) (hk : fs[k]? = some .null) : gR S a cs k = some none := by
  simp [gR, gV, gO_of h hc, hk, vR]
theorem pV_of {S : Ws} {a ci k : Nat} {cs : List Nat} {fs : List Value} {v : Value} (h : S.2 a = some (.inr (ci, fs))) (hc : ci ∈ cs) (hk : k < fs.length) : pV S a cs k v = some (S.up a (.inr (ci, fs.set k v))) := by
  simp [pV, gO_of h hc, hk]
theorem gA_of {S : Ws} {a t : Nat} {q : Nat × ((Nat → Int32) ⊕ (Nat → Int64) ⊕ (Nat → Option Nat))} (h : S.2 a = some (.inl (t, q))) : gA S a t = some q := by
  simp [gA, h]
theorem ax_of {i : Int32} {n k : Nat} (hk : k < n) (hn : n < 2 ^ 31) (hi : i = nI k) : ax i n = some k := by
  subst hi
  have h1 : (nI k).toNatClampNeg = k := nI_clamp (by omega)
  unfold ax
  rw [if_neg (nI_in hk hn), h1]
theorem aI_of {S : Ws} {a t n k : Nat} {f : Nat → Int32} {i : Int32} (h : S.2 a = some (.inl (t, n, .inl f))) (hk : k < n) (hn : n < 2 ^ 31) (hi : i = nI k) : aI S a t i = some (f k) := by
  simp [aI, gA_of h, ax_of hk hn hi]
theorem aL_of {S : Ws} {a t n k : Nat} {f : Nat → Int64} {i : Int32} (h : S.2 a = some (.inl (t, n, .inr (.inl f)))) (hk : k < n) (hn : n < 2 ^ 31) (hi : i = nI k) : aL S a t i = some (f k) := by
  simp [aL, gA_of h, ax_of hk hn hi]
theorem aR_of {S : Ws} {a t n k : Nat} {f : Nat → Option Nat} {i : Int32} (h : S.2 a = some (.inl (t, n, .inr (.inr f)))) (hk : k < n) (hn : n < 2 ^ 31) (hi : i = nI k) : aR S a t i = some (f k) := by
  simp [aR, gA_of h, ax_of hk hn hi]
theorem aN_of {S : Ws} {a t n : Nat} {f : (Nat → Int32) ⊕ (Nat → Int64) ⊕ (Nat → Option Nat)} (h : S.2 a = some (.inl (t, n, f))) : aN S a t = some (nI n) := by
  simp [aN, gA_of h, nI]
theorem sI_of {S : Ws} {a t n k : Nat} {f : Nat → Int32} {i x : Int32} (h : S.2 a = some (.inl (t, n, .inl f))) (hk : k < n) (hn : n < 2 ^ 31) (hi : i = nI k) : sI S a t i x = some (S.up a (.inl (t, n, .inl (upd f k x)))) := by
  simp [sI, gA_of h, ax_of hk hn hi]
theorem sL_of {S : Ws} {a t n k : Nat} {f : Nat → Int64} {i : Int32} {x : Int64} (h : S.2 a = some (.inl (t, n, .inr (.inl f)))) (hk : k < n) (hn : n < 2 ^ 31) (hi : i = nI k) : sL S a t i x = some (S.up a (.inl (t, n, .inr (.inl (vp_updL f k x))))) := by
  simp [sL, gA_of h, ax_of hk hn hi]
theorem sR_of {S : Ws} {a t n k : Nat} {f : Nat → Option Nat} {i : Int32} {x : Option Nat} (h : S.2 a = some (.inl (t, n, .inr (.inr f)))) (hk : k < n) (hn : n < 2 ^ 31) (hi : i = nI k) : sR S a t i x = some (S.up a (.inl (t, n, .inr (.inr (va_up f k x))))) := by
  simp [sR, gA_of h, ax_of hk hn hi]
theorem up_self {S : Ws} {a : Nat} {x : Cel} : (S.up a x).2 a = some x := va_up_self _ _ _
theorem up_ne {S : Ws} {a a' : Nat} {x : Cel} (h : a' ≠ a) : (S.up a x).2 a' = S.2 a' := va_up_ne _ _ h
theorem add_self {S : Ws} {x : Cel} : (S.add x).2 S.1 = some x := va_up_self _ _ _
theorem add_ne {S : Ws} {a' : Nat} {x : Cel} (h : a' ≠ S.1) : (S.add x).2 a' = S.2 a' := va_up_ne _ _ h
theorem up_1 {S : Ws} {a : Nat} {x : Cel} : (S.up a x).1 = S.1 := rfl
theorem add_1 {S : Ws} {x : Cel} : (S.add x).1 = S.1 + 1 := rfl
theorem bz_0 : bz 0 = some 0 := rfl
theorem bz_1 : bz 1 = some 1 := rfl
