/-! The first world: what the two constructors leave. -/
def wL (b : Nat) (l : List Cel) : Ws := (b + l.length, fun a => if a < b then none else l[a - b]?)
section WL
variable {b : Nat}
theorem wL_add {l : List Cel} {c : Cel} : (wL b l).add c = wL b (l ++ [c]) := by
  refine Prod.ext (by show b + l.length + 1 = b + (l ++ [c]).length; rw [List.length_append]; rfl) ?_
  funext a
  show va_up (wL b l).2 (b + l.length) (some c) a = (if a < b then none else (l ++ [c])[a - b]?)
  by_cases ha : a = b + l.length
  · subst ha
    rw [va_up_self, if_neg (by omega), show b + l.length - b = l.length by omega, List.getElem?_append_right (Nat.le_refl _), Nat.sub_self]
    rfl
  · rw [va_up_ne _ _ ha]
    show (if a < b then none else l[a - b]?) = _
    by_cases h1 : a < b
    · rw [if_pos h1, if_pos h1]
    · rw [if_neg h1, if_neg h1]
      by_cases h2 : a - b < l.length
      · rw [List.getElem?_append_left h2]
      · rw [List.getElem?_eq_none (by omega), List.getElem?_eq_none (by rw [List.length_append, List.length_singleton]; omega)]
theorem wL_at {l : List Cel} {o : Nat} {x : Cel} (h : l[o]? = some x) : (wL b l).2 (b + o) = some x := by
  show (if b + o < b then none else l[b + o - b]?) = _
  rw [if_neg (by omega), show b + o - b = o by omega, h]
theorem wL_up {l : List Cel} {o : Nat} {x y : Cel} (h : l[o]? = some x) : (wL b l).up (b + o) y = wL b (l.set o y) := by
  have ho : o < l.length := by
    rcases Nat.lt_or_ge o l.length with h1 | h1
    · exact h1
    · rw [List.getElem?_eq_none h1] at h
      cases h
  refine Prod.ext (by show b + l.length = b + (l.set o y).length; rw [List.length_set]) ?_
  funext a
  show va_up (wL b l).2 (b + o) (some y) a = (if a < b then none else (l.set o y)[a - b]?)
  by_cases ha : a = b + o
  · subst ha
    rw [va_up_self, if_neg (by omega), show b + o - b = o by omega, List.getElem?_set_self ho]
  · rw [va_up_ne _ _ ha]
    show (if a < b then none else l[a - b]?) = _
    by_cases h1 : a < b
    · rw [if_pos h1, if_pos h1]
    · rw [if_neg h1, if_neg h1, List.getElem?_set_ne (by omega)]
theorem wL_1 {l : List Cel} : (wL b l).1 = b + l.length := rfl
theorem gx {pre post : List Cel} {x : Cel} : (pre ++ x :: post)[pre.length]? = some x := by
  rw [List.getElem?_append_right (Nat.le_refl _), Nat.sub_self]
  rfl
theorem sx2 {pre post : List Cel} {x y : Cel} : (pre ++ x :: post).set pre.length y = pre ++ y :: post := by
  rw [List.set_append_right _ _ (Nat.le_refl _), Nat.sub_self]
  rfl
theorem wL_pV {pre post : List Cel} {ci k : Nat} {fs : List Value} {cs : List Nat} {v : Value} (hc : ci ∈ cs) (hk : k < fs.length) : pV (wL b (pre ++ .inr (ci, fs) :: post)) (b + pre.length) cs k v = some (wL b (pre ++ .inr (ci, fs.set k v) :: post)) := by
  rw [pV_of (wL_at gx) hc hk, wL_up gx, sx2]
theorem wL_sI {pre : List Cel} {t N k : Nat} {f : Nat → Int32} {i x : Int32} (hk : k < N) (hN : N < 2 ^ 31) (hi : i = nI k) : sI (wL b (pre ++ [.inl (t, N, .inl f)])) (b + pre.length) t i x = some (wL b (pre ++ [.inl (t, N, .inl (upd f k x))])) := by
  rw [sI_of (wL_at gx) hk hN hi, wL_up gx, sx2]
/-- a new array, kept in a field of the last object -/
theorem wL_ap {pre post : List Cel} {ci k n : Nat} {fs : List Value} {cs : List Nat} {c : Cel} (hn : pre.length + 1 + post.length = n) (hc : ci ∈ cs) (hk : k < fs.length) : pV ((wL b (pre ++ .inr (ci, fs) :: post)).add c) (b + pre.length) cs k (.ref (wL b (pre ++ .inr (ci, fs) :: post)).1) = some (wL b (pre ++ .inr (ci, fs.set k (.ref (b + n))) :: (post ++ [c]))) := by
  have h1 : (wL b (pre ++ .inr (ci, fs) :: post)).1 = b + n := by
    show b + (pre ++ .inr (ci, fs) :: post).length = b + n
    rw [List.length_append, List.length_cons]
    omega
  rw [h1, wL_add, List.append_assoc, List.cons_append, wL_pV hc hk]
theorem wL_rf {pre post m : List Cel} {ci k n : Nat} {fs : List Value} {cs : List Nat} (hn : m.length = n) (hc : ci ∈ cs) (hk : k < fs.length) : pV (wL b (pre ++ .inr (ci, fs) :: post)) (b + pre.length) cs k (.ref (wL b m).1) = some (wL b (pre ++ .inr (ci, fs.set k (.ref (b + n))) :: post)) := by
  rw [show (wL b m).1 = b + n from congrArg (b + ·) hn, wL_pV hc hk]
def z16 : Cel := .inl (0, 16, .inl (fun _ => 0))
def z8 : Cel := .inl (0, 8, .inl (fun _ => 0))
def z41 : Cel := .inl (0, 41, .inl (fun _ => 0))
def z12 : Cel := .inl (0, 12, .inl (fun _ => 0))
def frC (b n : Nat) : List Cel := [.inr (0, [.ref (b + (n + 1)), .int 0]), z41]
def waC (b n : Nat) : List Cel := .inr (6, [.ref (b + (n + 1)), .int 0]) :: frC b (n + 1)
def liC (b n : Nat) (t : Int32) : List Cel := .inr (2, [.int t, .ref (b + (n + 1)), .ref (b + (n + 4)), .ref (b + (n + 7)), .int 0, .null, .int 0, .int 0, .int (-1)]) :: (waC b (n + 1) ++ (waC b (n + 4) ++ [.inl (7, 4, .inr (.inr (fun _ => none)))]))
def slC (b n : Nat) (x : Int32) : List Cel := [.inr (5, [.int x, .ref (b + (n + 1)), .ref (b + (n + 2)), .ref (b + (n + 3)), .ref (b + (n + 4)), .int (-1), .int 0, .int 1, .int 0]), z16, z16, z8, z8]
def hiC (b n : Nat) : List Cel := [.inr (1, [.ref (b + (n + 1)), .ref (b + (n + 2)), .ref (b + (n + 3)), .ref (b + (n + 4)), .int 0, .int 0]), z12, z12, z12, .inl (0, 4, .inl (upd (upd (upd (upd (fun _ => 0) 0 (-1)) 1 (-1)) 2 (-1)) 3 (-1)))]
theorem fr_st (pre : List Cel) (n : Nat) (hp : pre.length = n) : fFr_init (wL b pre).1 ((wL b pre).add (.inr (0, [.null, .int 0]))) = some (wL b (pre ++ frC b n)) := by
  subst hp
  unfold fFr_init
  rw [wL_add, wL_1]
  refine (bs (wL_ap (n := pre.length + 1) rfl (by decide) (Nat.le_of_ble_eq_true rfl))).trans ?_
  rfl
theorem wa_st (pre : List Cel) (n : Nat) (hp : pre.length = n) : fWa_init (wL b pre).1 ((wL b pre).add (.inr (6, [.null, .int 0]))) = some (wL b (pre ++ waC b n)) := by
  subst hp
  unfold fWa_init
  rw [wL_add, wL_1]
  have hl : (pre ++ [Sum.inr (6, [Value.null, Value.int 0])] : List Cel).length = pre.length + 1 := by rw [List.length_append]; rfl
  refine (bs (fr_st _ (pre.length + 1) hl)).trans ?_
  rw [List.append_assoc]
  refine (bs (wL_rf (n := pre.length + 1) hl (by decide) (Nat.le_of_ble_eq_true rfl))).trans ?_
  rfl
theorem li_st (pre : List Cel) (n : Nat) (t : Int32) (hp : pre.length = n) : fLi_init (wL b pre).1 t ((wL b pre).add (.inr (2, [.int 0, .null, .null, .null, .int 0, .null, .int 0, .int 0, .int 0]))) = some (wL b (pre ++ liC b n t)) := by
  subst hp
  unfold fLi_init
  rw [wL_add, wL_1]
  have hl : (pre ++ [Sum.inr (2, [Value.int 0, Value.null, Value.null, Value.null, Value.int 0, Value.null, Value.int 0, Value.int 0, Value.int 0])] : List Cel).length = pre.length + 1 := by rw [List.length_append]; rfl
  refine (bs (wa_st _ (pre.length + 1) hl)).trans ?_
  rw [List.append_assoc]
  refine (bs (wL_rf (n := pre.length + 1) hl (by decide) (Nat.le_of_ble_eq_true rfl))).trans ?_
  have hl2 : ∀ fs : List Value, (pre ++ Sum.inr (2, fs) :: ([] ++ waC b (pre.length + 1)) : List Cel).length = pre.length + 4 := fun fs => by rw [List.length_append]; rfl
  refine (bs (wa_st _ (pre.length + 4) (hl2 _))).trans ?_
  rw [List.append_assoc]
  refine (bs (wL_rf (n := pre.length + 4) (hl2 _) (by decide) (Nat.le_of_ble_eq_true rfl))).trans ?_
  refine (bs (wL_ap (n := pre.length + 7) rfl (by decide) (Nat.le_of_ble_eq_true rfl))).trans ?_
  refine (bs (wL_pV (by decide) (Nat.le_of_ble_eq_true rfl))).trans ?_
  refine (bs (wL_pV (by decide) (Nat.le_of_ble_eq_true rfl))).trans ?_
  rfl
theorem sl_st (pre : List Cel) (n : Nat) (x : Int32) (hp : pre.length = n) : fSl_init (wL b pre).1 x ((wL b pre).add (.inr (5, [.int 0, .null, .null, .null, .null, .int 0, .int 0, .int 0, .int 0]))) = some (wL b (pre ++ slC b n x)) := by
  subst hp
  unfold fSl_init
  rw [wL_add, wL_1]
  refine (bs (wL_ap (n := pre.length + 1) rfl (by decide) (Nat.le_of_ble_eq_true rfl))).trans ?_
  refine (bs (wL_ap (n := pre.length + 2) rfl (by decide) (Nat.le_of_ble_eq_true rfl))).trans ?_
  refine (bs (wL_ap (n := pre.length + 3) rfl (by decide) (Nat.le_of_ble_eq_true rfl))).trans ?_
  refine (bs (wL_ap (n := pre.length + 4) rfl (by decide) (Nat.le_of_ble_eq_true rfl))).trans ?_
  refine (bs (wL_pV (by decide) (Nat.le_of_ble_eq_true rfl))).trans ?_
  refine (bs bz_1).trans ?_
  refine (bs (wL_pV (by decide) (Nat.le_of_ble_eq_true rfl))).trans ?_
  refine (bs (wL_pV (by decide) (Nat.le_of_ble_eq_true rfl))).trans ?_
  rfl
theorem hi_st (pre : List Cel) (n : Nat) (hp : pre.length = n) : fHi_init (wL b pre).1 ((wL b pre).add (.inr (1, [.null, .null, .null, .null, .int 0, .int 0]))) = some (wL b (pre ++ hiC b n)) := by
  subst hp
  unfold fHi_init
  rw [wL_add, wL_1]
  refine (bs (wL_ap (n := pre.length + 1) rfl (by decide) (Nat.le_of_ble_eq_true rfl))).trans ?_
  refine (bs (wL_ap (n := pre.length + 2) rfl (by decide) (Nat.le_of_ble_eq_true rfl))).trans ?_
  refine (bs (wL_ap (n := pre.length + 3) rfl (by decide) (Nat.le_of_ble_eq_true rfl))).trans ?_
  rw [wL_add, wL_1]
  have hl : ∀ (fs : List Value) (x y z : Cel), (pre ++ Sum.inr (1, fs) :: ((([] ++ [x]) ++ [y]) ++ [z]) : List Cel).length = pre.length + 4 := fun fs x y z => by rw [List.length_append]; rfl
  refine (bs (wL_sI (k := 0) (by decide) (by decide) rfl)).trans ?_
  refine (bs (wL_sI (k := 1) (by decide) (by decide) rfl)).trans ?_
  refine (bs (wL_sI (k := 2) (by decide) (by decide) rfl)).trans ?_
  refine (bs (wL_sI (k := 3) (by decide) (by decide) rfl)).trans ?_
  rw [hl, List.append_assoc]
  refine (bs (wL_pV (by decide) (Nat.le_of_ble_eq_true rfl))).trans ?_
  rfl
theorem ck_st {l post : List Cel} {ci : Nat} {fs : List Value} : ck (wL b (l ++ .inr (ci, fs) :: post)) (some (wL b l).1) [ci] = some () := by
  show (gO (wL b (l ++ .inr (ci, fs) :: post)) (b + l.length) [ci]).bind _ = _
  rw [bs (gO_of (wL_at gx) (by simp))]
theorem sr_st {l l' : List Cel} {o t N k a n : Nat} {f : Nat → Option Nat} {i : Int32} {m : List Cel} (h : l[o]? = some (.inl (t, N, .inr (.inr f)))) (hk : k < N) (hN : N < 2 ^ 31) (hi : i = nI k) (ha : a = b + o) (hm : m.length = n) (hl : l.set o (.inl (t, N, .inr (.inr (va_up f k (some (b + n)))))) = l') : sR (wL b l) a t i (some (wL b m).1) = some (wL b l') := by
  subst ha hm
  rw [sR_of (wL_at h) hk hN hi, wL_up h, ← hl]
  rfl
theorem g0_st {l : List Cel} {fs : List Value} {k y : Nat} (h : fs[k]? = some (.ref y)) : gR (wL b (.inr (7, fs) :: l)) b [7] k = some (some y) := gR_of (wL_at (o := 0) rfl) (by decide) h
theorem p0_st {l l' : List Cel} {fs fs' : List Value} {k n : Nat} {c : Cel} (hn : l.length = n) (hk : k < fs.length) (hf : fs.set k (.ref (b + (n + 1))) = fs') (hl : l ++ [c] = l') : pV ((wL b (.inr (7, fs) :: l)).add c) b [7] k (.ref (wL b (.inr (7, fs) :: l)).1) = some (wL b (.inr (7, fs') :: l')) := by
  subst hf hl
  exact wL_ap (pre := []) (n := n + 1) (by show 0 + 1 + l.length = n + 1; omega) (by decide) hk
theorem p1_st {l m : List Cel} {fs fs' : List Value} {k n : Nat} (hn : m.length = n) (hk : k < fs.length) (hf : fs.set k (.ref (b + n)) = fs') : pV (wL b (.inr (7, fs) :: l)) b [7] k (.ref (wL b m).1) = some (wL b (.inr (7, fs') :: l)) := by
  subst hf
  exact wL_rf (pre := []) hn (by decide) hk
theorem m_st {pre l l' : List Cel} {fs fs' : List Value} {k n : Nat} {c : Cel} (hp : pre.length = 56) (hn : l.length = n) (hk : k < fs.length) (hf : fs.set k (.ref (b + (57 + n))) = fs') (hl : l ++ [c] = l') : pV ((wL b (pre ++ .inr (8, fs) :: l)).add c) (b + 56) [8] k (.ref (wL b (pre ++ .inr (8, fs) :: l)).1) = some (wL b (pre ++ .inr (8, fs') :: l')) := by
  subst hf hl
  have h := wL_ap (b := b) (pre := pre) (post := l) (ci := 8) (k := k) (n := 57 + n) (fs := fs) (cs := [8]) (c := c) (by omega) (by decide) hk
  rw [hp] at h
  exact h
end WL
def pF (b n : Nat) : List Value := [if 0 < n then .ref (b + 1) else .null, if 1 < n then .ref (b + 32) else .null, if 2 < n then .ref (b + 49) else .null, if 3 < n then .ref (b + 50) else .null, if 4 < n then .ref (b + 51) else .null, .int 0, .int 0, .int 0]
def saF (b : Nat) : Nat → Nat → Option Nat
  | 0 => fun _ => none
  | k + 1 => va_up (saF b k) k (some (b + (2 + 5 * k)))
def laF (b : Nat) : Nat → Nat → Option Nat
  | 0 => fun _ => none
  | k + 1 => va_up (laF b k) k (some (b + (33 + 8 * k)))
def sA (b k : Nat) : Cel := .inl (3, 6, .inr (.inr (saF b k)))
def lA (b k : Nat) : Cel := .inl (4, 2, .inr (.inr (laF b k)))
def sls (b : Nat) : Nat → List Cel
  | 0 => []
  | k + 1 => sls b k ++ slC b (2 + 5 * k) (nI k + 1)
def lis (b : Nat) : Nat → List Cel
  | 0 => []
  | k + 1 => lis b k ++ liC b (33 + 8 * k) (nI k)
def rA : Cel := .inl (5, 64, .inr (.inr (fun _ => none)))
def pA : Cel := .inl (6, 4, .inr (.inr (fun _ => none)))
def tl1 (b k : Nat) : List Cel := sA b k :: sls b k
def tl2 (b k : Nat) : List Cel := sA b 6 :: (sls b 6 ++ (lA b k :: lis b k))
def tl3 (b : Nat) : List Cel := sA b 6 :: (sls b 6 ++ (lA b 2 :: (lis b 2 ++ [rA])))
def tl4 (b : Nat) : List Cel := sA b 6 :: (sls b 6 ++ (lA b 2 :: (lis b 2 ++ [rA, pA])))
def tl5 (b : Nat) : List Cel := sA b 6 :: (sls b 6 ++ (lA b 2 :: (lis b 2 ++ (rA :: pA :: hiC b 51))))
set_option maxRecDepth 100000 in
set_option maxHeartbeats 4000000 in
theorem pl_init (b : Nat) : fPl_init b (wL b [.inr (7, pF b 0)]) = some (wL b (.inr (7, pF b 5) :: tl5 b)) := by
  unfold fPl_init
  refine (bs (p0_st (fs' := pF b 1) (l' := tl1 b 0) (n := 0) rfl (Nat.le_of_ble_eq_true rfl) rfl rfl)).trans ?_
  refine (bs (g0_st (y := b + 1) rfl)).trans ?_
  refine (bs (sl_st _ 2 _ rfl)).trans ?_
  refine (bs rfl).trans ?_
  refine (bs (ck_st (ci := 5))).trans ?_
  refine (bs (sr_st (l' := .inr (7, pF b 1) :: tl1 b 1) (o := 1) (n := 2) (k := 0) (f := saF b 0) rfl (by decide) (by decide) rfl rfl rfl rfl)).trans ?_
  refine (bs (g0_st (y := b + 1) rfl)).trans ?_
  refine (bs (sl_st _ 7 _ rfl)).trans ?_
  refine (bs rfl).trans ?_
  refine (bs (ck_st (ci := 5))).trans ?_
  refine (bs (sr_st (l' := .inr (7, pF b 1) :: tl1 b 2) (o := 1) (n := 7) (k := 1) (f := saF b 1) rfl (by decide) (by decide) rfl rfl rfl rfl)).trans ?_
  refine (bs (g0_st (y := b + 1) rfl)).trans ?_
  refine (bs (sl_st _ 12 _ rfl)).trans ?_
  refine (bs rfl).trans ?_
  refine (bs (ck_st (ci := 5))).trans ?_
  refine (bs (sr_st (l' := .inr (7, pF b 1) :: tl1 b 3) (o := 1) (n := 12) (k := 2) (f := saF b 2) rfl (by decide) (by decide) rfl rfl rfl rfl)).trans ?_
  refine (bs (g0_st (y := b + 1) rfl)).trans ?_
  refine (bs (sl_st _ 17 _ rfl)).trans ?_
  refine (bs rfl).trans ?_
  refine (bs (ck_st (ci := 5))).trans ?_
  refine (bs (sr_st (l' := .inr (7, pF b 1) :: tl1 b 4) (o := 1) (n := 17) (k := 3) (f := saF b 3) rfl (by decide) (by decide) rfl rfl rfl rfl)).trans ?_
  refine (bs (g0_st (y := b + 1) rfl)).trans ?_
  refine (bs (sl_st _ 22 _ rfl)).trans ?_
  refine (bs rfl).trans ?_
  refine (bs (ck_st (ci := 5))).trans ?_
  refine (bs (sr_st (l' := .inr (7, pF b 1) :: tl1 b 5) (o := 1) (n := 22) (k := 4) (f := saF b 4) rfl (by decide) (by decide) rfl rfl rfl rfl)).trans ?_
  refine (bs (g0_st (y := b + 1) rfl)).trans ?_
  refine (bs (sl_st _ 27 _ rfl)).trans ?_
  refine (bs rfl).trans ?_
  refine (bs (ck_st (ci := 5))).trans ?_
  refine (bs (sr_st (l' := .inr (7, pF b 1) :: tl1 b 6) (o := 1) (n := 27) (k := 5) (f := saF b 5) rfl (by decide) (by decide) rfl rfl rfl rfl)).trans ?_
  refine (bs (p0_st (fs' := pF b 2) (l' := tl2 b 0) (n := 31) rfl (Nat.le_of_ble_eq_true rfl) rfl rfl)).trans ?_
  refine (bs (g0_st (y := b + 32) rfl)).trans ?_
  refine (bs (li_st _ 33 _ rfl)).trans ?_
  refine (bs rfl).trans ?_
  refine (bs (ck_st (ci := 2))).trans ?_
  refine (bs (sr_st (l' := .inr (7, pF b 2) :: tl2 b 1) (o := 32) (n := 33) (k := 0) (f := laF b 0) rfl (by decide) (by decide) rfl rfl rfl rfl)).trans ?_
  refine (bs (g0_st (y := b + 32) rfl)).trans ?_
  refine (bs (li_st _ 41 _ rfl)).trans ?_
  refine (bs rfl).trans ?_
  refine (bs (ck_st (ci := 2))).trans ?_
  refine (bs (sr_st (l' := .inr (7, pF b 2) :: tl2 b 2) (o := 32) (n := 41) (k := 1) (f := laF b 1) rfl (by decide) (by decide) rfl rfl rfl rfl)).trans ?_
  refine (bs (p0_st (fs' := pF b 3) (l' := tl3 b) (n := 48) rfl (Nat.le_of_ble_eq_true rfl) rfl rfl)).trans ?_
  refine (bs (p0_st (fs' := pF b 4) (l' := tl4 b) (n := 49) rfl (Nat.le_of_ble_eq_true rfl) rfl rfl)).trans ?_
  refine (bs (hi_st _ 51 rfl)).trans ?_
  refine (bs (p1_st (fs' := pF b 5) (n := 51) rfl (Nat.le_of_ble_eq_true rfl) rfl)).trans ?_
  rfl
def mF (b n : Nat) : List Value := [.int 0, if 0 < n then .ref (b + 57) else .null, if 1 < n then .ref (b + 58) else .null, if 2 < n then .ref (b + 59) else .null, if 3 < n then .ref (b + 60) else .null, if 4 < n then .ref (b + 61) else .null, if 5 < n then .ref (b + 62) else .null, if 6 < n then .ref (b + 63) else .null, if 7 < n then .ref (b + 64) else .null, if 8 < n then .ref (b + 65) else .null, .int 0, if 9 < n then .ref (b + 66) else .null, if 10 < n then .ref (b + 67) else .null, if 11 < n then .ref (b + 68) else .null, if 12 < n then .ref (b + 69) else .null, if 13 < n then .ref (b + 70) else .null, if 14 < n then .ref (b + 71) else .null, if 15 < n then .ref (b + 72) else .null, if 16 < n then .ref (b + 73) else .null, .int 0, if 17 < n then .ref (b + 74) else .null, if 18 < n then .ref (b + 75) else .null, if 19 < n then .ref (b + 76) else .null, if 20 < n then .ref (b + 77) else .null, if 21 < n then .ref (b + 78) else .null, .int 0, if 22 < n then .ref (b + 79) else .null, if 23 < n then .ref (b + 80) else .null, if 24 < n then .ref (b + 81) else .null, if 25 < n then .ref (b + 82) else .null, if 26 < n then .ref (b + 83) else .null, if 27 < n then .ref (b + 84) else .null, if 28 < n then .ref (b + 85) else .null, if 29 < n then .ref (b + 86) else .null, if 30 < n then .ref (b + 87) else .null, if 31 < n then .ref (b + 88) else .null, if 32 < n then .ref (b + 89) else .null, if 33 < n then .ref (b + 90) else .null, if 34 < n then .ref (b + 91) else .null, .int 0, .long 0]
def mA : List Cel := [.inl (1, 7, .inl (fun _ => 0)), .inl (0, 7, .inl (fun _ => 0)), .inl (0, 7, .inl (fun _ => 0)), .inl (1, 7, .inl (fun _ => 0)), .inl (1, 7, .inl (fun _ => 0)), .inl (0, 112, .inl (fun _ => 0)), .inl (0, 112, .inl (fun _ => 0)), .inl (0, 56, .inl (fun _ => 0)), .inl (0, 56, .inl (fun _ => 0)), .inl (0, 64, .inl (fun _ => 0)), .inl (0, 64, .inl (fun _ => 0)), .inl (0, 64, .inl (fun _ => 0)), .inl (0, 64, .inl (fun _ => 0)), .inl (2, 64, .inr (.inl (fun _ => 0))), .inl (0, 64, .inl (fun _ => 0)), .inl (0, 64, .inl (fun _ => 0)), .inl (2, 64, .inr (.inl (fun _ => 0))), .inl (0, 4, .inl (fun _ => 0)), .inl (0, 4, .inl (fun _ => 0)), .inl (0, 4, .inl (fun _ => 0)), .inl (1, 4, .inl (fun _ => 0)), .inl (0, 4, .inl (fun _ => 0)), .inl (0, 36, .inl (fun _ => 0)), .inl (0, 8, .inl (fun _ => 0)), .inl (0, 2, .inl (fun _ => 0)), .inl (0, 2, .inl (fun _ => 0)), .inl (0, 2, .inl (fun _ => 0)), .inl (0, 2, .inl (fun _ => 0)), .inl (0, 2, .inl (fun _ => 0)), .inl (0, 2, .inl (fun _ => 0)), .inl (2, 2, .inr (.inl (fun _ => 0))), .inl (1, 2, .inl (fun _ => 0)), .inl (1, 2, .inl (fun _ => 0)), .inl (0, 192, .inl (fun _ => 0)), .inl (0, 4, .inl (fun _ => 0))]
set_option maxRecDepth 100000 in
set_option maxHeartbeats 4000000 in
theorem mo_init {b : Nat} {pre : List Cel} (hp : pre.length = 56) {R : Option Ws} (h : ((lp (fMo_init_L272 (b + 56)) 1000 ((0 : Int32), wL b (pre ++ .inr (8, mF b 35) :: mA))).bind fun S39 => some S39) = R) : fMo_init (b + 56) (wL b (pre ++ [.inr (8, mF b 0)])) = R := by
  unfold fMo_init
  refine (bs (m_st (l := mA.take 0) (l' := mA.take 1) (fs := mF b 0) (fs' := mF b 1) (n := 0) hp rfl (Nat.le_of_ble_eq_true rfl) rfl rfl)).trans ?_
  refine (bs (m_st (l := mA.take 1) (l' := mA.take 2) (fs := mF b 1) (fs' := mF b 2) (n := 1) hp rfl (Nat.le_of_ble_eq_true rfl) rfl rfl)).trans ?_
  refine (bs (m_st (l := mA.take 2) (l' := mA.take 3) (fs := mF b 2) (fs' := mF b 3) (n := 2) hp rfl (Nat.le_of_ble_eq_true rfl) rfl rfl)).trans ?_
  refine (bs (m_st (l := mA.take 3) (l' := mA.take 4) (fs := mF b 3) (fs' := mF b 4) (n := 3) hp rfl (Nat.le_of_ble_eq_true rfl) rfl rfl)).trans ?_
  refine (bs (m_st (l := mA.take 4) (l' := mA.take 5) (fs := mF b 4) (fs' := mF b 5) (n := 4) hp rfl (Nat.le_of_ble_eq_true rfl) rfl rfl)).trans ?_
  refine (bs (m_st (l := mA.take 5) (l' := mA.take 6) (fs := mF b 5) (fs' := mF b 6) (n := 5) hp rfl (Nat.le_of_ble_eq_true rfl) rfl rfl)).trans ?_
  refine (bs (m_st (l := mA.take 6) (l' := mA.take 7) (fs := mF b 6) (fs' := mF b 7) (n := 6) hp rfl (Nat.le_of_ble_eq_true rfl) rfl rfl)).trans ?_
  refine (bs (m_st (l := mA.take 7) (l' := mA.take 8) (fs := mF b 7) (fs' := mF b 8) (n := 7) hp rfl (Nat.le_of_ble_eq_true rfl) rfl rfl)).trans ?_
  refine (bs (m_st (l := mA.take 8) (l' := mA.take 9) (fs := mF b 8) (fs' := mF b 9) (n := 8) hp rfl (Nat.le_of_ble_eq_true rfl) rfl rfl)).trans ?_
  refine (bs (m_st (l := mA.take 9) (l' := mA.take 10) (fs := mF b 9) (fs' := mF b 10) (n := 9) hp rfl (Nat.le_of_ble_eq_true rfl) rfl rfl)).trans ?_
  refine (bs (m_st (l := mA.take 10) (l' := mA.take 11) (fs := mF b 10) (fs' := mF b 11) (n := 10) hp rfl (Nat.le_of_ble_eq_true rfl) rfl rfl)).trans ?_
  refine (bs (m_st (l := mA.take 11) (l' := mA.take 12) (fs := mF b 11) (fs' := mF b 12) (n := 11) hp rfl (Nat.le_of_ble_eq_true rfl) rfl rfl)).trans ?_
  refine (bs (m_st (l := mA.take 12) (l' := mA.take 13) (fs := mF b 12) (fs' := mF b 13) (n := 12) hp rfl (Nat.le_of_ble_eq_true rfl) rfl rfl)).trans ?_
  refine (bs (m_st (l := mA.take 13) (l' := mA.take 14) (fs := mF b 13) (fs' := mF b 14) (n := 13) hp rfl (Nat.le_of_ble_eq_true rfl) rfl rfl)).trans ?_
  refine (bs (m_st (l := mA.take 14) (l' := mA.take 15) (fs := mF b 14) (fs' := mF b 15) (n := 14) hp rfl (Nat.le_of_ble_eq_true rfl) rfl rfl)).trans ?_
  refine (bs (m_st (l := mA.take 15) (l' := mA.take 16) (fs := mF b 15) (fs' := mF b 16) (n := 15) hp rfl (Nat.le_of_ble_eq_true rfl) rfl rfl)).trans ?_
  refine (bs (m_st (l := mA.take 16) (l' := mA.take 17) (fs := mF b 16) (fs' := mF b 17) (n := 16) hp rfl (Nat.le_of_ble_eq_true rfl) rfl rfl)).trans ?_
  refine (bs (m_st (l := mA.take 17) (l' := mA.take 18) (fs := mF b 17) (fs' := mF b 18) (n := 17) hp rfl (Nat.le_of_ble_eq_true rfl) rfl rfl)).trans ?_
  refine (bs (m_st (l := mA.take 18) (l' := mA.take 19) (fs := mF b 18) (fs' := mF b 19) (n := 18) hp rfl (Nat.le_of_ble_eq_true rfl) rfl rfl)).trans ?_
  refine (bs (m_st (l := mA.take 19) (l' := mA.take 20) (fs := mF b 19) (fs' := mF b 20) (n := 19) hp rfl (Nat.le_of_ble_eq_true rfl) rfl rfl)).trans ?_
  refine (bs (m_st (l := mA.take 20) (l' := mA.take 21) (fs := mF b 20) (fs' := mF b 21) (n := 20) hp rfl (Nat.le_of_ble_eq_true rfl) rfl rfl)).trans ?_
  refine (bs (m_st (l := mA.take 21) (l' := mA.take 22) (fs := mF b 21) (fs' := mF b 22) (n := 21) hp rfl (Nat.le_of_ble_eq_true rfl) rfl rfl)).trans ?_
  refine (bs (m_st (l := mA.take 22) (l' := mA.take 23) (fs := mF b 22) (fs' := mF b 23) (n := 22) hp rfl (Nat.le_of_ble_eq_true rfl) rfl rfl)).trans ?_
  refine (bs (m_st (l := mA.take 23) (l' := mA.take 24) (fs := mF b 23) (fs' := mF b 24) (n := 23) hp rfl (Nat.le_of_ble_eq_true rfl) rfl rfl)).trans ?_
  refine (bs (m_st (l := mA.take 24) (l' := mA.take 25) (fs := mF b 24) (fs' := mF b 25) (n := 24) hp rfl (Nat.le_of_ble_eq_true rfl) rfl rfl)).trans ?_
  refine (bs (m_st (l := mA.take 25) (l' := mA.take 26) (fs := mF b 25) (fs' := mF b 26) (n := 25) hp rfl (Nat.le_of_ble_eq_true rfl) rfl rfl)).trans ?_
  refine (bs (m_st (l := mA.take 26) (l' := mA.take 27) (fs := mF b 26) (fs' := mF b 27) (n := 26) hp rfl (Nat.le_of_ble_eq_true rfl) rfl rfl)).trans ?_
  refine (bs (m_st (l := mA.take 27) (l' := mA.take 28) (fs := mF b 27) (fs' := mF b 28) (n := 27) hp rfl (Nat.le_of_ble_eq_true rfl) rfl rfl)).trans ?_
  refine (bs (m_st (l := mA.take 28) (l' := mA.take 29) (fs := mF b 28) (fs' := mF b 29) (n := 28) hp rfl (Nat.le_of_ble_eq_true rfl) rfl rfl)).trans ?_
  refine (bs (m_st (l := mA.take 29) (l' := mA.take 30) (fs := mF b 29) (fs' := mF b 30) (n := 29) hp rfl (Nat.le_of_ble_eq_true rfl) rfl rfl)).trans ?_
  refine (bs (m_st (l := mA.take 30) (l' := mA.take 31) (fs := mF b 30) (fs' := mF b 31) (n := 30) hp rfl (Nat.le_of_ble_eq_true rfl) rfl rfl)).trans ?_
  refine (bs (m_st (l := mA.take 31) (l' := mA.take 32) (fs := mF b 31) (fs' := mF b 32) (n := 31) hp rfl (Nat.le_of_ble_eq_true rfl) rfl rfl)).trans ?_
  refine (bs (m_st (l := mA.take 32) (l' := mA.take 33) (fs := mF b 32) (fs' := mF b 33) (n := 32) hp rfl (Nat.le_of_ble_eq_true rfl) rfl rfl)).trans ?_
  refine (bs (m_st (l := mA.take 33) (l' := mA.take 34) (fs := mF b 33) (fs' := mF b 34) (n := 33) hp rfl (Nat.le_of_ble_eq_true rfl) rfl rfl)).trans ?_
  refine (bs (m_st (l := mA.take 34) (l' := mA.take 35) (fs := mF b 34) (fs' := mF b 35) (n := 34) hp rfl (Nat.le_of_ble_eq_true rfl) rfl rfl)).trans ?_
  exact h
def sli (k : Nat) : Nat → Int32 := fun q => if q = 0 then nI k + 1 else if q = 5 then -1 else if q = 7 then 1 else 0
def lii (k : Nat) : Nat → Int32 := fun q => if q = 0 then nI k else if q = 8 then -1 else 0
def iI : Nat → Nat → Int32 := fun p => if p = 2 then sli 0 else if p = 7 then sli 1 else if p = 12 then sli 2 else if p = 17 then sli 3 else if p = 22 then sli 4 else if p = 27 then sli 5 else if p = 33 then lii 0 else if p = 41 then lii 1 else if p = 55 then upd (upd (upd (upd (fun _ => 0) 0 (-1)) 1 (-1)) 2 (-1)) 3 (-1) else fun _ => 0
def xI1 : Xs := (iI, fun _ _ => none, fun _ _ => 0, 0, fun _ => 0)
def xI0 : Xs := (((xI1.sI 82 0 (-1)).sI 85 0 (-1)).sI 82 1 (-1)).sI 85 1 (-1)
theorem wL_X {b : Nat} {X : Xs} {l : List Cel} (hn : X.n = 0) (h : l = (List.range 92).map (cel b X)) : wL b l = wX b X := by
  subst h
  unfold wL wX
  rw [hn]
  refine Prod.ext (by show b + ((List.range 92).map (cel b X)).length = b + (92 + 0); rw [List.length_map, List.length_range]) ?_
  funext a
  show (if a < b then none else ((List.range 92).map (cel b X))[a - b]?) = (if a < b then none else if a < b + (92 + 0) then some (cel b X (a - b)) else none)
  by_cases h1 : a < b
  · rw [if_pos h1, if_pos h1]
  · rw [if_neg h1, if_neg h1, List.getElem?_map]
    by_cases h2 : a - b < 92
    · rw [List.getElem?_range h2, if_pos (by omega)]
      rfl
    · rw [List.getElem?_eq_none (by rw [List.length_range]; omega), if_neg (by omega)]
      rfl
theorem sA6 {b : Nat} : sA b 6 = .inl (3, 6, .inr (.inr (fun k => if k < 6 then some (b + (2 + 5 * k)) else none))) := by
  have h : saF b 6 = fun k => if k < 6 then some (b + (2 + 5 * k)) else none := by
    funext k
    show va_up (va_up (va_up (va_up (va_up (va_up (fun _ => none) 0 (some (b + (2 + 5 * 0)))) 1 (some (b + (2 + 5 * 1)))) 2 (some (b + (2 + 5 * 2)))) 3 (some (b + (2 + 5 * 3)))) 4 (some (b + (2 + 5 * 4)))) 5 (some (b + (2 + 5 * 5))) k = _
    have hk : k = 0 ∨ k = 1 ∨ k = 2 ∨ k = 3 ∨ k = 4 ∨ k = 5 ∨ 6 ≤ k := by omega
    rcases hk with rfl | rfl | rfl | rfl | rfl | rfl | hk
    · rfl
    · rfl
    · rfl
    · rfl
    · rfl
    · rfl
    · rw [va_up_ne _ _ (by omega), va_up_ne _ _ (by omega), va_up_ne _ _ (by omega), va_up_ne _ _ (by omega), va_up_ne _ _ (by omega), va_up_ne _ _ (by omega), if_neg (by omega)]
  unfold sA
  rw [h]
theorem lA2 {b : Nat} : lA b 2 = .inl (4, 2, .inr (.inr (fun k => if k < 2 then some (b + (33 + 8 * k)) else none))) := by
  have h : laF b 2 = fun k => if k < 2 then some (b + (33 + 8 * k)) else none := by
    funext k
    show va_up (va_up (fun _ => none) 0 (some (b + (33 + 8 * 0)))) 1 (some (b + (33 + 8 * 1))) k = _
    have hk : k = 0 ∨ k = 1 ∨ 2 ≤ k := by omega
    rcases hk with rfl | rfl | hk
    · rfl
    · rfl
    · rw [va_up_ne _ _ (by omega), va_up_ne _ _ (by omega), if_neg (by omega)]
  unfold lA
  rw [h]
set_option maxRecDepth 100000 in
set_option maxHeartbeats 4000000 in
theorem first_eq {b : Nat} : (.inr (7, pF b 5) :: tl5 b) ++ .inr (8, mF b 35) :: mA = (List.range 92).map (cel b xI1) := by
  unfold tl5
  rw [sA6, lA2]
  rfl
theorem first_w {b : Nat} : wL b ((.inr (7, pF b 5) :: tl5 b) ++ .inr (8, mF b 35) :: mA) = wX b xI1 := wL_X rfl first_eq
theorem mo_loop {b : Nat} : lp (fMo_init_L272 (b + 56)) 1000 ((0 : Int32), wX b xI1) = some (wX b xI0) := by
  have st : ∀ (j : Nat) (X : Xs), j < 2 → fMo_init_L272 (b + 56) (nI j, wX b X) = some (.inl (nI (j + 1), wX b ((X.sI 82 j (-1)).sI 85 j (-1)))) := by
    intro j X hj
    have ej : ax (nI j) 2 = some j := ax_of hj (by decide) rfl
    unfold fMo_init_L272
    dsimp only
    rw [if_neg (by rw [ge_2 (by omega)]; omega), bs mo_r29, Option.bind_some, mo_s82, ej, Option.bind_some, Option.bind_some, bs mo_r32, Option.bind_some, mo_s85, ej, Option.bind_some, Option.bind_some, nI_1]
  have e2 : fMo_init_L272 (b + 56) (nI 2, wX b xI0) = some (.inr (wX b xI0)) := by
    unfold fMo_init_L272
    dsimp only
    rw [if_pos (by decide)]
  exact (lp_l (N := 999) (st 0 xI1 (by decide))).trans ((lp_l (N := 998) (st 1 _ (by decide))).trans (lp_r (N := 997) e2))
theorem inits (b : Nat) : ∃ S1, fPl_init b (Ws.add (b, fun _ => none) (.inr (7, [.null, .null, .null, .null, .null, .int 0, .int 0, .int 0]))) = some S1 ∧ S1.1 = b + 56 ∧ fMo_init S1.1 (S1.add (.inr (8, mF b 0))) = some (wX b xI0) := by
  have h0 : (b, fun _ => none) = wL b [] := by
    refine Prod.ext rfl ?_
    funext a
    show none = (if a < b then none else ([] : List Cel)[a - b]?)
    by_cases h : a < b
    · rw [if_pos h]
    · rw [if_neg h]; rfl
  have hp : (.inr (7, pF b 5) :: tl5 b : List Cel).length = 56 := rfl
  refine ⟨wL b (.inr (7, pF b 5) :: tl5 b), ?_, rfl, ?_⟩
  · rw [h0, wL_add]
    exact pl_init b
  · rw [wL_add]
    refine mo_init hp ?_
    rw [first_w, bs mo_loop]
theorem rel0 (b : Nat) : Rel b 0 xI0 xI0 := by
  refine Inv.rel (nr := 0) (np := 0) (E := fun _ _ => 0) (al := fun _ => 0) (ln := fun _ => 0) (d := fun _ => 0) (off := fun _ => 0) (ls := fun _ => 0) (tb := fun _ _ _ => 0) (cur := fun _ => none) (q := fun _ => []) ?_
  have nolive : ∀ i, ¬ liveJ 0 0 i := fun i h => by unfold liveJ at h; omega
  refine ⟨⟨by omega, by omega, by omega, rfl, rfl, rfl, rfl, rfl, rfl⟩, ⟨fun i hi => ⟨Nat.zero_lt_succ _, Nat.zero_lt_succ _, Nat.zero_lt_succ _, Nat.zero_lt_succ _, Nat.zero_lt_succ _, fun t k => ?_⟩, fun i hi => ?_, fun i hi => ?_⟩, ⟨fun i hi => absurd hi (nolive i), fun i hi => by omega, fun p hp => by omega, fun i k hi => absurd hi (nolive i), fun i h1 h2 => by omega, fun i h1 h2 => ⟨rfl, rfl, rfl⟩⟩, fun j hj => ?_, fun j hj => ?_, fun j hj => ?_, ⟨0, 0, by omega, by omega, rfl, rfl, rfl, fun k hk => by omega, fun p hp => Or.inl ⟨rfl, ?_⟩⟩⟩
  · show 0 < _
    split <;> decide
  · have tab : ∀ t, 1 ≤ t → t ≤ 4 → t = 1 ∨ t = 2 ∨ t = 3 ∨ t = 4 := fun t _ _ => by omega
    have hi' : i = 0 ∨ i = 1 ∨ i = 2 ∨ i = 3 ∨ i = 4 ∨ i = 5 := by omega
    rcases hi' with rfl | rfl | rfl | rfl | rfl | rfl
    all_goals
      refine ⟨rfl, rfl, rfl, rfl, rfl, fun t k h1 h4 _ => ?_⟩
      rcases tab t h1 h4 with rfl | rfl | rfl | rfl <;> rfl
  · refine ⟨rfl, rfl, rfl, rfl, rfl, fun t k h1 h4 _ => ?_⟩
    have ht : t = 1 ∨ t = 2 ∨ t = 3 ∨ t = 4 := by omega
    rcases ht with rfl | rfl | rfl | rfl <;> rfl
  · have hj' : j = 0 ∨ j = 1 := by omega
    rcases hj' with rfl | rfl
    all_goals exact ⟨⟨Nat.zero_le _, rfl, rfl, rfl⟩, fun k hk => absurd hk (Nat.not_lt_zero k), ⟨rfl, rfl⟩, List.nodup_nil, fun i hi => absurd hi List.not_mem_nil, fun _ => rfl, fun i hi => by cases hi⟩
  · have hj' : j = 0 ∨ j = 1 := by omega
    rcases hj' with rfl | rfl
    all_goals exact ⟨0, 0, by omega, by omega, rfl, rfl, rfl, rfl⟩
  · have hj' : j = 0 ∨ j = 1 := by omega
    rcases hj' with rfl | rfl
    all_goals exact ⟨[], [], ⟨rfl, Nat.zero_le _, fun k hk => absurd hk (Nat.not_lt_zero k)⟩, ⟨rfl, Nat.zero_le _, fun k hk => absurd hk (Nat.not_lt_zero k)⟩, ⟨rfl, Nat.zero_le _, fun k hk => absurd hk (Nat.not_lt_zero k)⟩, ⟨rfl, Nat.zero_le _, fun k hk => absurd hk (Nat.not_lt_zero k)⟩⟩
  · have hp' : p = 0 ∨ p = 1 ∨ p = 2 ∨ p = 3 := by omega
    rcases hp' with rfl | rfl | rfl | rfl <;> rfl
