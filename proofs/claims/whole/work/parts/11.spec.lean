section HNspec
/-- counted up: f over 0 .. n - 1 -/
def sp_up {α : Type} (f : Nat → α → α) (a : α) : Nat → α
  | 0 => a
  | n + 1 => f n (sp_up f a n)
/-- a loop that counts up: its head, from the last round to the first -/
theorem sp_ind (N : Nat) (P : Nat → Prop) (hN : P N) (hs : ∀ p, p < N → P (p + 1) → P p) : P 0 := by
  have h : ∀ m p, p + m = N → P p := by
    intro m
    induction m with
    | zero => intro p h; rw [show p = N by omega]; exact hN
    | succ m ih => intro p h; exact hs p (by omega) (ih (p + 1) (by omega))
  exact h N 0 (by omega)
theorem sp_indk (k N : Nat) (hk : k ≤ N) (P : Nat → Prop) (hN : P N) (hs : ∀ p, k ≤ p → p < N → P (p + 1) → P p) : P k := by
  have h : ∀ m p, k ≤ p → p + m = N → P p := by
    intro m
    induction m with
    | zero => intro p _ h; rw [show p = N by omega]; exact hN
    | succ m ih => intro p h1 h; exact hs p h1 (by omega) (ih (p + 1) (by omega) (by omega))
  exact h (N - k) k (Nat.le_refl _) (by omega)
theorem sp_up_congr {α : Type} {f g : Nat → α → α} {a : α} : ∀ {n : Nat}, (∀ i s, i < n → f i s = g i s) → sp_up f a n = sp_up g a n
  | 0, _ => rfl
  | n + 1, h => by
    simp only [sp_up]
    rw [sp_up_congr (fun i s hi => h i s (by omega)), h n _ (Nat.lt_succ_self n)]
/-! numbers -/
theorem hi_add {x y : Int32} (h1 : -2147483648 ≤ x.toInt + y.toInt) (h2 : x.toInt + y.toInt < 2147483648) : (x + y).toInt = x.toInt + y.toInt := by
  rw [Int32.toInt_add]
  exact Int.bmod_eq_of_le (by omega) (by omega)
theorem hi_sub {x y : Int32} (h1 : -2147483648 ≤ x.toInt - y.toInt) (h2 : x.toInt - y.toInt < 2147483648) : (x - y).toInt = x.toInt - y.toInt := by
  rw [Int32.toInt_sub]
  exact Int.bmod_eq_of_le (by omega) (by omega)
theorem hi_mul {x y : Int32} (h1 : -2147483648 ≤ x.toInt * y.toInt) (h2 : x.toInt * y.toInt < 2147483648) : (x * y).toInt = x.toInt * y.toInt := by
  rw [Int32.toInt_mul]
  exact Int.bmod_eq_of_le (by omega) (by omega)
theorem hi_l0 : (0 : Int32).toInt = ((0 : Nat) : Int) := rfl
theorem hi_l1 : (1 : Int32).toInt = ((1 : Nat) : Int) := rfl
theorem hi_l2 : (2 : Int32).toInt = ((2 : Nat) : Int) := rfl
theorem hi_l3 : (3 : Int32).toInt = ((3 : Nat) : Int) := rfl
theorem hi_l4 : (4 : Int32).toInt = ((4 : Nat) : Int) := rfl
theorem hi_l5 : (5 : Int32).toInt = ((5 : Nat) : Int) := rfl
theorem hi_l6 : (6 : Int32).toInt = ((6 : Nat) : Int) := rfl
theorem hi_eq {x y : Int32} (h : x.toInt = y.toInt) : x = y := Int32.toInt_inj.mp h
theorem hi_nI {x : Int32} {n : Nat} (h : x.toInt = (n : Int)) : x = nI n := by
  have h2 : x.toInt < 2147483648 := Int32.toInt_lt x
  exact hi_eq (by rw [h, nI_toInt (by omega)])
theorem hi_t1 : (1 : Int32).toInt = 1 := by decide
theorem hi_tm1 : (-1 : Int32).toInt = -1 := by decide
theorem hi_t0 : (0 : Int32).toInt = 0 := by decide
theorem hi_inc {x : Int32} {n : Int} (h : x.toInt = n) (h0 : -2147483648 ≤ n) (h1 : n < 2147483647) : (x + 1).toInt = n + 1 := by
  rw [hi_add (by rw [h, hi_t1]; omega) (by rw [h, hi_t1]; omega), h, hi_t1]
theorem hi_dec {x : Int32} {n : Int} (h : x.toInt = n) (h0 : -2147483648 < n) (h1 : n ≤ 2147483647) : (x + (-1)).toInt = n - 1 := by
  rw [hi_add (by rw [h, hi_tm1]; omega) (by rw [h, hi_tm1]; omega), h, hi_tm1]
  omega
theorem hi_subc {x c : Int32} {n k : Int} (h : x.toInt = n) (hc : c.toInt = k) (h0 : -2147483648 ≤ n - k) (h1 : n - k < 2147483648) : (x - c).toInt = n - k := by
  rw [hi_sub (by rw [h, hc]; omega) (by rw [h, hc]; omega), h, hc]
theorem hi_addc {x c : Int32} {n k : Int} (h : x.toInt = n) (hc : c.toInt = k) (h0 : -2147483648 ≤ n + k) (h1 : n + k < 2147483648) : (x + c).toInt = n + k := by
  rw [hi_add (by rw [h, hc]; omega) (by rw [h, hc]; omega), h, hc]
theorem hi_lt {x y : Int32} {n k : Int} (h : x.toInt = n) (hc : y.toInt = k) : x < y ↔ n < k := by rw [Int32.lt_iff_toInt_lt, h, hc]
theorem hi_le {x y : Int32} {n k : Int} (h : x.toInt = n) (hc : y.toInt = k) : x ≤ y ↔ n ≤ k := by rw [Int32.le_iff_toInt_le, h, hc]
theorem hi_max (a b : Int32) : (if a < b then b else a) = if b < a then a else b := by
  have h1 := hi_lt (x := a) (y := b) rfl rfl
  have h2 := hi_lt (x := b) (y := a) rfl rfl
  by_cases ha : a < b
  · rw [if_pos ha, if_neg (by rw [h2]; have := h1.mp ha; omega)]
  · rw [if_neg ha]
    by_cases hb : b < a
    · rw [if_pos hb]
    · rw [if_neg hb]
      exact hi_eq (by have := mt h1.mpr ha; have := mt h2.mpr hb; omega)
theorem if01 (F : Prop) [Decidable F] : (if F then (1 : Int32) else 0) = 0 ∨ (if F then (1 : Int32) else 0) = 1 := by
  by_cases h : F
  · rw [if_pos h]; exact Or.inr rfl
  · rw [if_neg h]; exact Or.inl rfl
theorem if01_z {F : Prop} [Decidable F] : (if F then (1 : Int32) else 0) = 0 ↔ ¬ F := by
  by_cases h : F
  · rw [if_pos h]; exact ⟨fun z => absurd z (by decide), fun z => absurd h z⟩
  · rw [if_neg h]; exact ⟨fun _ => h, fun _ => rfl⟩
theorem if01_n {F : Prop} [Decidable F] (h : ¬ (if F then (1 : Int32) else 0) = 0) : F := Decidable.byContradiction (fun z => h (if01_z.mpr z))
theorem hi_ne {x y : Int32} {n k : Int} (h : x.toInt = n) (hc : y.toInt = k) (hn : ¬ n = k) : ¬ x = y := fun e => hn (by rw [← h, ← hc, e])
/-- locals of which no more is known -/
def hn_le : List Value → List Value → Prop
  | [], _ => True
  | v :: t, w :: u => (v = .null ∨ v = w) ∧ hn_le t u
  | _ :: _, [] => False
theorem hn_le_get : ∀ {l u : List Value} {i : Nat} {v : Value}, hn_le l u → l[i]? = some v → v ≠ .null → u[i]? = some v
  | [], _, i, v, _, h, _ => by simp at h
  | a :: t, [], i, v, h, _, _ => h.elim
  | a :: t, b :: u, 0, v, h, h1, h2 => by
    simp only [List.getElem?_cons_zero, Option.some.injEq] at h1 ⊢
    subst h1
    rcases h.1 with h | h
    · exact absurd h h2
    · exact h.symm
  | a :: t, b :: u, i + 1, v, h, h1, h2 => by
    rw [List.getElem?_cons_succ] at h1 ⊢
    exact hn_le_get h.2 h1 h2
theorem le_0 {u : List Value} : hn_le [] u := trivial
theorem le_e {v : Value} {t u : List Value} (h : hn_le t u) : hn_le (v :: t) (v :: u) := ⟨Or.inr rfl, h⟩
theorem le_n {w : Value} {t u : List Value} (h : hn_le t u) : hn_le (.null :: t) (w :: u) := ⟨Or.inl rfl, h⟩
theorem le_q {v w : Value} {t u : List Value} (e : v = w) (h : hn_le t u) : hn_le (v :: t) (w :: u) := ⟨Or.inr e, h⟩
theorem b_lp {d : Nat} {M : hnM} {P : Option Value → hnD → Prop} {pc : Nat} {ls ls' st st' : List Value} {D D' : hnD} (h : hn_B d M P pc ls' st' D') (h1 : hn_le ls' ls) (h2 : st = st') (h3 : D = D') : hn_B d M P pc ls st D := by
  subst h2; subst h3
  intro g n hng p l e R s m args below meth cd dC dI ty ad b0 L xs Q C F H locs cells slots lsA hS hc hs hL
  exact h g n hng p l e R s m args below meth cd dC dI ty ad b0 L xs Q C F H locs cells slots lsA hS hc hs ⟨hL.1, hL.2.1, fun i v hi hv => hL.2.2 i v (hn_le_get h1 hi hv) hv⟩
/-- all cells but those of S are as they were, and all longs and references -/
def hs_fr (I : Nat → Nat → Int32) (J : Nat → Nat → Int64) (R : Nat → Nat → Option Nat) (D : hnD) (S : Nat → Prop) : Prop := D.2.1 = J ∧ D.2.2 = R ∧ ∀ b, ¬ S b → D.1 b = I b
theorem hs_fr.out {I : Nat → Nat → Int32} {J : Nat → Nat → Int64} {R : Nat → Nat → Option Nat} {D : hnD} {S : Nat → Prop} (h : hs_fr I J R D S) : ∃ I', D = (I', J, R) ∧ ∀ b, ¬ S b → I' b = I b := by
  obtain ⟨I', J', R'⟩ := D
  obtain ⟨h1, h2, h3⟩ := h
  simp only at h1 h2 h3
  exact ⟨I', by rw [h1, h2], h3⟩
/-- a State's cells -/
def hs_St (R : Nat → Nat → Option Nat) (a : Nat) : Prop :=
  (a = 15 ∨ a = 31 ∨ (44 ≤ a ∧ a ≤ 169)) ∧ hn_kind a = (0, 5) ∧ hn_kind (a + 1) = (1, 8) ∧ hn_kind (a + 2) = (1, 4) ∧ hn_kind (a + 3) = (1, 4) ∧ hn_kind (a + 4) = (1, 4) ∧ R a 0 = some (a + 1) ∧ R a 1 = some (a + 2) ∧ R a 2 = some (a + 3) ∧ R a 3 = some (a + 4)
/-- a Net's cells, its law's -/
def hs_Net (R : Nat → Nat → Option Nat) (t : Nat) : Prop :=
  (t = 4 ∨ t = 20) ∧ hn_kind t = (0, 3) ∧ hn_kind (t + 1) = (2, 8) ∧ hn_kind (t + 2) = (1, 8) ∧ hn_kind (t + 3) = (1, 8) ∧ hn_kind (t + 4) = (1, 8) ∧ hn_kind (t + 5) = (2, 4) ∧ hn_kind (t + 6) = (0, 9) ∧ hn_kind (t + 7) = (1, 1000) ∧ hn_kind (t + 8) = (1, 64) ∧ hn_kind (t + 9) = (1, 64) ∧ hn_kind (t + 10) = (1, 4) ∧
  R t 1 = some (t + 1) ∧ R t 2 = some (t + 2) ∧ R t 3 = some (t + 3) ∧ R t 4 = some (t + 4) ∧ R t 5 = some (t + 5) ∧ R t 7 = some (t + 6) ∧ R t 8 = some (t + 11) ∧ R (t + 6) 0 = some (t + 7) ∧ R (t + 6) 2 = some (t + 8) ∧ R (t + 6) 6 = some (t + 9) ∧ R (t + 6) 7 = some (t + 10)
/-! what the questions say -/
/-- who lies at k, as bits -/
def sp_lyingAt (pl : Nat → Int32) (k : Int32) (np : Nat) : Int32 := sp_up (fun p s => if pl p = k then s ||| ((1 : Int32) <<< (nI p &&& 31)) else s) 0 np
abbrev sp_awk (w pl : Nat → Int32) (p : Nat) : Prop := ¬ pl p = -1 ∧ 0 < w p
def sp_awake (w pl : Nat → Int32) (np : Nat) : Int32 := sp_up (fun p s => if sp_awk w pl p then s ||| ((1 : Int32) <<< (nI p &&& 31)) else s) 0 np
def sp_wills (w : Nat → Int32) (np : Nat) : Int32 := sp_up (fun p s => s + w p) 0 np
def sp_lying (pl : Nat → Int32) (np : Nat) : Int32 := (((1 : Int32) <<< (nI np &&& 31)) - 1) &&& (sp_lyingAt pl (-1) np ^^^ -1)
/-- a bit of a set -/
abbrev sp_bit (s : Int32) (k : Nat) : Prop := ¬ (s >>> (nI k &&& 31)) &&& 1 = 0
def sp_kind (kd : Nat → Int32) (fm : Int32) (k : Nat) : Int32 := if sp_bit fm k then 1 else kd k
def sp_clamp (v : Int32) : Int32 := if v < 0 then 0 else if 9 < v then 9 else v
/-- the will behind a shift -/
def sp_will (kd hd : Nat → Int32) (lf : Int32 → Int32 → Int32 → Int32 → Int32) (fm : Int32) (k : Nat) (will many others : Int32) : Int32 :=
  let v := sp_clamp (lf (hd k) will many others)
  let left := will - (if sp_kind kd fm k = 3 then 2 * v else v)
  let least : Int32 := if sp_kind kd fm k = 1 then 1 else 0
  if least < left then left else least
abbrev sp_fall (kd hd : Nat → Int32) (fm : Int32) (k : Nat) (will : Int32) : Prop := sp_kind kd fm k = 2 ∧ hd k < will
def sp_enc : Option Nat → Int32
  | none => -1
  | some k => nI k
/-- of a set the knot that holds the most (the least), of equal ones the first -/
def sp_pick (hd : Nat → Int32) (s : Int32) (least : Prop) [Decidable least] (n : Nat) : Option Nat := sp_up (fun k b => if sp_bit s k then (match b with | none => some k | some j => if (if least then hd k < hd j else hd j < hd k) then some k else some j) else b) none n
/-- the law's code on a pile -/
def ev_join (c x y : Int32) : Int32 := if c = 10005 then (if ¬ x = 0 ∧ ¬ y = 0 then 1 else 0) else if c = 10006 then (if ¬ x = 0 ∨ ¬ y = 0 then 1 else 0) else if c = 10007 then (if x < y then 1 else 0) else if c = 10008 then (if x = y then 1 else 0) else if c = 10009 then x + y else if c = 10010 then x - y else x * y
def ev_fact (h m y o c : Int32) : Int32 := if c = 10000 then h else if c = 10001 then m else if c = 10002 then y else o
def ev_step (h m y o c : Int32) (st : List Int32) : List Int32 :=
  if c < 10004 then (if c < 10000 then c else ev_fact h m y o c) :: st
  else if c = 10004 then (match st with | [] => [] | x :: t => (if x = 0 then 1 else 0) :: t)
  else (match st with | b :: a :: t => ev_join c a b :: t | st => st)
def ev (h m y o : Int32) (cs : Nat → Int32) : Nat → List Int32 := sp_up (fun i st => ev_step h m y o (cs i) st) []
def ev_val (h m y o : Int32) (cs : Nat → Int32) (sz : Nat) : Int32 := match ev h m y o cs sz with
  | [] => 1
  | x :: _ => x
def ev_ln (cs : Nat → Int32) : Nat → Nat := sp_up (fun i n => if cs i < 10004 then n + 1 else if cs i = 10004 then n else if 2 ≤ n then n - 1 else n) 0
theorem ev_len (h m y o : Int32) (cs : Nat → Int32) : ∀ i, (ev h m y o cs i).length = ev_ln cs i
  | 0 => rfl
  | i + 1 => by
    have ih := ev_len h m y o cs i
    have e1 : ev h m y o cs (i + 1) = ev_step h m y o (cs i) (ev h m y o cs i) := rfl
    have e2 : ev_ln cs (i + 1) = if cs i < 10004 then ev_ln cs i + 1 else if cs i = 10004 then ev_ln cs i else if 2 ≤ ev_ln cs i then ev_ln cs i - 1 else ev_ln cs i := rfl
    rw [e1, e2]
    generalize ev h m y o cs i = st at ih ⊢
    unfold ev_step
    split
    · simp [ih]
    · split
      · cases st <;> simp_all
      · rcases st with - | ⟨b, - | ⟨a, t⟩⟩
        · simp at ih; rw [← ih]; rfl
        · simp at ih; rw [← ih]; rfl
        · simp at ih; rw [← ih]; simp
end HNspec
