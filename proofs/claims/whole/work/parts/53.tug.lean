section HNtug
variable {I I' : Nat → Nat → Int32} {J J' : Nat → Nat → Int64} {R : Nat → Nat → Option Nat} {t : Nat} {N : sp_N} {Q Q' S : sp_Q} {U : sp_U} {V : sp_V}
/-! a tug: of each knot the round in which it is settled; even: lost, odd: won -/
def oc : Option Nat → Nat
  | none => 2
  | some x => x % 2
def tg_c (s : Nat → Int32) (r : Nat) (f : Nat → Option Nat) (k : Nat) : Prop := if r % 2 = 0 then ∀ o, o < 8 → sp_bit (s k) o → oc (f o) = 1 else ∃ o, o < 8 ∧ sp_bit (s k) o ∧ oc (f o) = 0
def tg_s (s : Nat → Int32) (n r : Nat) (f : Nat → Option Nat) (k : Nat) : Prop := k < n ∧ f k = none ∧ tg_c s r f k
noncomputable def tg_1 (s : Nat → Int32) (n r : Nat) (f : Nat → Option Nat) : Nat → Option Nat := fun k => @ite _ (tg_s s n r f k) (Classical.propDecidable _) (some r) (f k)
noncomputable def tg (s : Nat → Int32) (n : Nat) : Nat → Nat → Option Nat := sp_up (fun r f => tg_1 s n r f) (fun _ => none)
theorem tg_1_pos {s : Nat → Int32} {n r k : Nat} {f : Nat → Option Nat} (h : tg_s s n r f k) : tg_1 s n r f k = some r := by unfold tg_1; rw [if_pos h]
theorem tg_1_neg {s : Nat → Int32} {n r k : Nat} {f : Nat → Option Nat} (h : ¬ tg_s s n r f k) : tg_1 s n r f k = f k := by unfold tg_1; rw [if_neg h]
theorem oc_lt (x : Option Nat) : oc x < 3 := by cases x with
  | none => decide
  | some x => show x % 2 < 3; omega
theorem oc_none {x : Option Nat} : oc x = 2 ↔ x = none := by
  cases x with
  | none => simp [oc]
  | some x => simp only [oc, reduceCtorEq, iff_false]; omega
/-- a round of one kind doesn't touch those of the other -/
theorem tg_1_won {s : Nat → Int32} {n r : Nat} {f : Nat → Option Nat} (hr : r % 2 = 0) (k : Nat) : oc (tg_1 s n r f k) = 1 ↔ oc (f k) = 1 := by
  by_cases h : tg_s s n r f k
  · rw [tg_1_pos h, h.2.1]; simp [oc, hr]
  · rw [tg_1_neg h]
theorem tg_1_lost {s : Nat → Int32} {n r : Nat} {f : Nat → Option Nat} (hr : ¬ r % 2 = 0) (k : Nat) : oc (tg_1 s n r f k) = 0 ↔ oc (f k) = 0 := by
  by_cases h : tg_s s n r f k
  · rw [tg_1_pos h, h.2.1]; simp [oc, hr]
  · rw [tg_1_neg h]
theorem tg_succ (s : Nat → Int32) (n r : Nat) : tg s n (r + 1) = tg_1 s n r (tg s n r) := rfl
theorem tg_keep {s : Nat → Int32} {n r k x : Nat} (h : tg s n r k = some x) : tg s n (r + 1) k = some x := by
  rw [tg_succ, tg_1_neg (fun z => by rw [z.2.1] at h; cases h)]; exact h
theorem tg_keeps {s : Nat → Int32} {n r k x : Nat} (h : tg s n r k = some x) : ∀ m, tg s n (r + m) k = some x
  | 0 => h
  | m + 1 => tg_keep (tg_keeps h m)
/-- settled in round x: unsettled ahead of it -/
theorem tg_when {s : Nat → Int32} {n k x : Nat} : ∀ r, tg s n r k = some x → x < r ∧ tg s n x k = none ∧ k < n ∧ tg_c s x (tg s n x) k ∧ tg s n (x + 1) k = some x
  | 0, h => by cases h
  | r + 1, h => by
    by_cases hs : tg_s s n r (tg s n r) k
    · have e := h
      rw [tg_succ, tg_1_pos hs] at e
      cases e
      exact ⟨by omega, hs.2.1, hs.1, hs.2.2, h⟩
    · rw [tg_succ, tg_1_neg hs] at h
      obtain ⟨h1, h2⟩ := tg_when r h
      exact ⟨by omega, h2⟩
theorem tg_none {s : Nat → Int32} {n k r m : Nat} (h : tg s n (r + m) k = none) : tg s n r k = none := by
  cases e : tg s n r k with
  | none => rfl
  | some x => rw [tg_keeps e m] at h; cases h
theorem tg_out {s : Nat → Int32} {n k : Nat} (hk : n ≤ k) : ∀ r, tg s n r k = none
  | 0 => rfl
  | r + 1 => by rw [tg_succ, tg_1_neg (fun z => absurd z.1 (by omega))]; exact tg_out hk r
/-- ahead of an even round who is unsettled leads to none that is lost -/
theorem tg_A {s : Nat → Int32} {n k o : Nat} : ∀ r, r % 2 = 0 → k < n → tg s n r k = none → o < 8 → sp_bit (s k) o → ¬ oc (tg s n r o) = 0
  | 0, _, _, _, _, _ => by show ¬ oc none = 0; decide
  | r + 1, hr, hk, h, ho, hb => by
    rw [tg_succ, tg_1_lost (by omega)]
    intro e
    have hs : tg_s s n r (tg s n r) k := ⟨hk, tg_none (m := 1) h, by unfold tg_c; rw [if_neg (by omega)]; exact ⟨o, ho, hb, e⟩⟩
    rw [tg_succ, tg_1_pos hs] at h
    cases h
/-- ahead of an odd round who is unsettled leads not to won ones alone -/
theorem tg_B {s : Nat → Int32} {n k : Nat} : ∀ r, ¬ r % 2 = 0 → k < n → tg s n r k = none → ¬ ∀ o, o < 8 → sp_bit (s k) o → oc (tg s n r o) = 1
  | 0, hr, _, _ => by omega
  | r + 1, hr, hk, h => by
    intro e
    have hs : tg_s s n r (tg s n r) k := ⟨hk, tg_none (m := 1) h, by
      unfold tg_c; rw [if_pos (by omega)]
      intro o ho hb
      have := e o ho hb
      rw [tg_succ, tg_1_won (by omega)] at this
      exact this⟩
    rw [tg_succ, tg_1_pos hs] at h
    cases h
theorem tg_stop {s : Nat → Int32} {n r : Nat} (h : tg s n (r + 1) = tg s n r) : tg s n (r + 2) = tg s n (r + 1) := by
  funext k
  rw [tg_succ s n (r + 1)]
  refine tg_1_neg (fun hs => ?_)
  obtain ⟨hk, hn, hc⟩ := hs
  unfold tg_c at hc
  by_cases hr : r % 2 = 0
  · rw [if_neg (by omega)] at hc
    obtain ⟨o, ho, hb, e⟩ := hc
    rw [h] at e hn
    exact tg_A r hr hk hn ho hb e
  · rw [if_pos (by omega)] at hc
    rw [h] at hc hn
    exact tg_B r hr hk hn hc
theorem tg_stops {s : Nat → Int32} {n r : Nat} (h : tg s n (r + 1) = tg s n r) : ∀ m, tg s n (r + m) = tg s n r ∧ tg s n (r + m + 1) = tg s n (r + m)
  | 0 => ⟨rfl, h⟩
  | m + 1 => by
    have ih := tg_stops h m
    exact ⟨ih.2.trans ih.1, tg_stop ih.2⟩
/-- how many are settled -/
def tg_k (f : Nat → Option Nat) : Nat → Nat := sp_up (fun k a => if f k = none then a else a + 1) 0
theorem tg_k_le (f : Nat → Option Nat) : ∀ m, tg_k f m ≤ m
  | 0 => Nat.le_refl _
  | m + 1 => by
    have ih := tg_k_le f m
    show (if f m = none then tg_k f m else tg_k f m + 1) ≤ m + 1
    split <;> omega
theorem tg_k_mono {f g : Nat → Option Nat} (h : ∀ k, f k ≠ none → g k ≠ none) : ∀ m, tg_k f m ≤ tg_k g m ∧ ((∃ k, k < m ∧ f k = none ∧ g k ≠ none) → tg_k f m < tg_k g m)
  | 0 => ⟨Nat.le_refl _, fun ⟨k, hk, _⟩ => absurd hk (by omega)⟩
  | m + 1 => by
    obtain ⟨ih1, ih2⟩ := tg_k_mono h m
    show (if f m = none then tg_k f m else tg_k f m + 1) ≤ (if g m = none then tg_k g m else tg_k g m + 1) ∧ (_ → (if f m = none then tg_k f m else tg_k f m + 1) < (if g m = none then tg_k g m else tg_k g m + 1))
    by_cases e1 : f m = none
    · rw [if_pos e1]
      by_cases e2 : g m = none
      · rw [if_pos e2]
        refine ⟨ih1, fun ⟨k, hk, a, b⟩ => ih2 ⟨k, ?_, a, b⟩⟩
        by_cases e : k = m
        · subst e; exact absurd e2 b
        · omega
      · rw [if_neg e2]; exact ⟨by omega, fun _ => by omega⟩
    · rw [if_neg e1, if_neg (h m e1)]
      refine ⟨by omega, fun ⟨k, hk, a, b⟩ => ?_⟩
      have := ih2 ⟨k, by by_cases e : k = m; subst e; exact absurd a e1; omega, a, b⟩
      omega
theorem tg_grow {s : Nat → Int32} {n r : Nat} (hn : n ≤ 8) (h : tg s n (r + 1) ≠ tg s n r) : tg_k (tg s n r) 8 < tg_k (tg s n (r + 1)) 8 := by
  refine (tg_k_mono (fun k hk => ?_) 8).2 ?_
  · cases e : tg s n r k with
    | none => exact absurd e hk
    | some x => rw [tg_keep e]; exact fun z => by cases z
  · refine Classical.byContradiction (fun hno => h ?_)
    funext k
    rw [tg_succ]
    refine tg_1_neg (fun hs => hno ⟨k, by have := hs.1; omega, hs.2.1, ?_⟩)
    rw [tg_succ, tg_1_pos hs]
    exact fun z => by cases z
theorem tg_run {s : Nat → Int32} {n : Nat} (hn : n ≤ 8) : ∀ r, (∃ q, q < r ∧ tg s n (q + 1) = tg s n q) ∨ r ≤ tg_k (tg s n r) 8
  | 0 => Or.inr (Nat.zero_le _)
  | r + 1 => by
    rcases tg_run hn r with ⟨q, h1, h2⟩ | h
    · exact Or.inl ⟨q, by omega, h2⟩
    · by_cases e : tg s n (r + 1) = tg s n r
      · exact Or.inl ⟨r, by omega, e⟩
      · have := tg_grow hn e
        exact Or.inr (by omega)
/-- after nine rounds nothing changes any more -/
theorem tg_9 {s : Nat → Int32} {n : Nat} (hn : n ≤ 8) (m : Nat) : tg s n (9 + m) = tg s n 9 := by
  rcases tg_run (s := s) hn 9 with ⟨q, h1, h2⟩ | h
  · have a := (tg_stops h2 (9 - q)).1
    have b := (tg_stops h2 (9 - q + m)).1
    rw [show q + (9 - q) = 9 by omega] at a
    rw [show q + (9 - q + m) = 9 + m by omega] at b
    rw [a, b]
  · have := tg_k_le (tg s n 9) 8
    omega
theorem tg_x {s : Nat → Int32} {n k x : Nat} (hn : n ≤ 8) (h : tg s n 9 k = some x) : x ≤ 8 := by
  have := (tg_when 9 h).1
  omega
/-! the rows of it -/
def hs_Tg (I : Nat → Nat → Int32) (a b : Nat) (f : Nat → Option Nat) : Prop := ∀ k, k < 8 → I a k = nI (oc (f k)) ∧ I b k = sp_enc (f k)
theorem q_Ways_kw {o : Nat} {f : Nat → Option Nat} (hR : hs_refs R) (ho : o < 3) (hT : hs_Tg I 179 180 f) : hn_F 0 hm_Ways_knotsWith [.ref 178, .int (nI o)] (I, J, R) (fun r D' => D' = (I, J, R) ∧ r = some (.int (sp_set (fun k => oc (f k) = o) 8))) := by
  obtain ⟨r0, r1, r2, r3⟩ := hs_Ways_of hR
  refine hn_F_of _ hk_Ways_knotsWith rfl (Nat.le_of_ble_eq_true rfl) ?_
  refine b_iconst rfl ?_
  refine b_istore_n rfl (Nat.le_of_ble_eq_true rfl) ?_
  refine b_iconst rfl ?_
  refine b_istore_n rfl (Nat.le_of_ble_eq_true rfl) ?_
  refine b_lp (sp_ind 8 (fun k => hn_B 0 hm_Ways_knotsWith _ 4 [.ref 178, .int (nI o), .int (sp_set (fun k => oc (f k) = o) k), .int (nI k)] [] (I, J, R)) ?_ ?_) (le_e (le_e (le_q (by rfl) (le_q (by rw [nI_0]) le_0)))) rfl rfl
  · refine b_iload_n rfl rfl ?_
    refine b_bipush rfl ?_
    refine b_icmp_ge rfl (fun c_7 => ?_) (fun c_7 => ?_)
    · refine b_iload_n rfl rfl ?_
      exact b_ireturn rfl trivial (⟨rfl, rfl⟩)
    · exact absurd hi_88 c_7
  · intro k hk ih
    have e := (hT k hk).1
    have hl := oc_lt (f k)
    have hs : sp_set (fun k => oc (f k) = o) (k + 1) = if oc (f k) = o then sp_set (fun k => oc (f k) = o) k ||| ((1 : Int32) <<< (nI k &&& 31)) else sp_set (fun k => oc (f k) = o) k := rfl
    rw [hs] at ih
    by_cases hc : oc (f k) = o
    · rw [if_pos hc] at ih
      refine b_iload_n rfl rfl ?_
      refine b_bipush rfl ?_
      refine b_icmp_ge rfl (fun c_7 => ?_) (fun c_7 => ?_)
      · exact absurd c_7 (hi_ge8 hk)
      · refine b_aload_n rfl rfl ?_
        refine b_getR rfl (by first | rfl | assumption) rfl (by assumption) ?_
        refine b_iload_n rfl rfl ?_
        refine b_iaload rfl (by first | rfl | assumption) (by first | assumption | exact nI_toInt (by omega) | exact hi_l0 | exact hi_l1 | exact hi_l2 | exact hi_l3 | exact hi_l4 | exact hi_l5 | exact hi_l6) (by omega) ?_
        rw [e]
        refine b_iload_n rfl rfl ?_
        refine b_icmp_ne rfl (fun c_17 => ?_) (fun c_17 => ?_)
        · exact absurd (congrArg nI hc) c_17
        · refine b_iload_n rfl rfl ?_
          refine b_iconst rfl ?_
          refine b_iload_n rfl rfl ?_
          refine b_ishl rfl ?_
          refine b_ior rfl ?_
          refine b_istore_n rfl (Nat.le_of_ble_eq_true rfl) ?_
          refine b_iinc rfl rfl (Nat.le_of_ble_eq_true rfl) ?_
          refine b_goto rfl ?_
          exact b_lp ih (le_e (le_e (le_e (le_q (by rw [nI_succ]) le_0)))) rfl rfl
    · rw [if_neg hc] at ih
      refine b_iload_n rfl rfl ?_
      refine b_bipush rfl ?_
      refine b_icmp_ge rfl (fun c_7 => ?_) (fun c_7 => ?_)
      · exact absurd c_7 (hi_ge8 hk)
      · refine b_aload_n rfl rfl ?_
        refine b_getR rfl (by first | rfl | assumption) rfl (by assumption) ?_
        refine b_iload_n rfl rfl ?_
        refine b_iaload rfl (by first | rfl | assumption) (by first | assumption | exact nI_toInt (by omega) | exact hi_l0 | exact hi_l1 | exact hi_l2 | exact hi_l3 | exact hi_l4 | exact hi_l5 | exact hi_l6) (by omega) ?_
        rw [e]
        refine b_iload_n rfl rfl ?_
        refine b_icmp_ne rfl (fun c_17 => ?_) (fun c_17 => ?_)
        · refine b_iinc rfl rfl (Nat.le_of_ble_eq_true rfl) ?_
          refine b_goto rfl ?_
          exact b_lp ih (le_e (le_e (le_e (le_q (by rw [nI_succ]) le_0)))) rfl rfl
        · exact absurd ((hi_nIe (by omega) (by omega)).mp c_17) hc
theorem q_Ways_isSettled {r k : Nat} {s : Nat → Int32} {f : Nat → Option Nat} (hR : hs_refs R) (hT : hs_Tg I 179 180 f) (hs : sp_lt 8 (s k)) : hn_F 1 hm_Ways_isSettled [.ref 178, .int (s k), .int (nI (r % 2))] (I, J, R) (fun r' D' => D' = (I, J, R) ∧ ((tg_c s r f k ∧ r' = some (.int 1)) ∨ (¬ tg_c s r f k ∧ r' = some (.int 0)))) := by
  refine hn_F_of _ hk_Ways_isSettled rfl (Nat.le_of_ble_eq_true rfl) ?_
  have lo : sp_lt 8 (sp_set (fun k => oc (f k) = 0) 8) := sp_set_lt _ 8 8 (by omega) (by omega)
  have hlost : (s k &&& sp_set (fun k => oc (f k) = 0) 8 = 0) ↔ ¬ ∃ o, o < 8 ∧ sp_bit (s k) o ∧ oc (f o) = 0 := by
    rw [sp_zero (sp_lt_all _ hs (by omega)) (by omega)]
    constructor
    · rintro h ⟨o, ho, hb, e⟩
      exact h o ho ((sp_bit_and (by omega)).mpr ⟨hb, (sp_set_bit _ (by omega) 8 (by omega)).mpr ⟨ho, e⟩⟩)
    · intro h o ho hb
      have := (sp_bit_and (by omega)).mp hb
      exact h ⟨o, ho, this.1, ((sp_set_bit _ (by omega) 8 (by omega)).mp this.2).2⟩
  have hwon : (s k &&& (sp_set (fun k => oc (f k) = 1) 8 ^^^ -1) = 0) ↔ ∀ o, o < 8 → sp_bit (s k) o → oc (f o) = 1 := by
    rw [sp_andn hs (by omega)]
    constructor
    · intro h o ho hb
      exact ((sp_set_bit _ (by omega) 8 (by omega)).mp (h o ho hb)).2
    · intro h o ho hb
      exact (sp_set_bit _ (by omega) 8 (by omega)).mpr ⟨ho, h o ho hb⟩
  by_cases hr : r % 2 = 0
  · have hc : tg_c s r f k ↔ ∀ o, o < 8 → sp_bit (s k) o → oc (f o) = 1 := by unfold tg_c; rw [if_pos hr]
    rw [hc, ← hwon, hr]
    refine b_aload_n rfl rfl ?_
    refine b_iconst rfl ?_
    refine b_callV rfl rfl hk_Ways_knotsWith rfl rfl rfl (by first | rfl | assumption) rfl (Nat.le_of_ble_eq_true rfl) (q_Ways_kw (o := 0) hR (by omega) hT) (Nat.le_of_ble_eq_true rfl) (fun r_2 D_2 q_2 => ?_)
    obtain ⟨rfl, rfl⟩ := q_2
    refine b_istore_n rfl (Nat.le_of_ble_eq_true rfl) ?_
    refine b_aload_n rfl rfl ?_
    refine b_iconst rfl ?_
    refine b_callV rfl rfl hk_Ways_knotsWith rfl rfl rfl (by first | rfl | assumption) rfl (Nat.le_of_ble_eq_true rfl) (q_Ways_kw (o := 1) hR (by omega) hT) (Nat.le_of_ble_eq_true rfl) (fun r_8 D_8 q_8 => ?_)
    obtain ⟨rfl, rfl⟩ := q_8
    refine b_istore rfl (Nat.le_of_ble_eq_true rfl) ?_
    refine b_iload_n rfl rfl ?_
    refine b_iconst rfl ?_
    refine b_icmp_ne rfl (fun c_15 => ?_) (fun c_15 => ?_)
    · refine b_iload_n rfl rfl ?_
      refine b_iload rfl rfl ?_
      refine b_iconst rfl ?_
      refine b_ixor rfl ?_
      refine b_iand rfl ?_
      refine b_if_ne rfl (fun c_38 => ?_) (fun c_38 => ?_)
      · refine b_iconst rfl ?_
        exact b_ireturn rfl (by first | exact Or.inl rfl | exact Or.inr rfl | exact trivial) ((by first | exact ⟨rfl, Or.inl ⟨c_38, rfl⟩⟩ | exact ⟨rfl, Or.inr ⟨c_38, rfl⟩⟩))
      · refine b_iconst rfl ?_
        refine b_goto rfl ?_
        exact b_ireturn rfl (by first | exact Or.inl rfl | exact Or.inr rfl | exact trivial) ((by first | exact ⟨rfl, Or.inl ⟨c_38, rfl⟩⟩ | exact ⟨rfl, Or.inr ⟨c_38, rfl⟩⟩))
    · exact absurd c_15 (by decide)
  · have hc : tg_c s r f k ↔ ∃ o, o < 8 ∧ sp_bit (s k) o ∧ oc (f o) = 0 := by unfold tg_c; rw [if_neg hr]
    rw [show r % 2 = 1 by omega]
    refine b_aload_n rfl rfl ?_
    refine b_iconst rfl ?_
    refine b_callV rfl rfl hk_Ways_knotsWith rfl rfl rfl (by first | rfl | assumption) rfl (Nat.le_of_ble_eq_true rfl) (q_Ways_kw (o := 0) hR (by omega) hT) (Nat.le_of_ble_eq_true rfl) (fun r_2 D_2 q_2 => ?_)
    obtain ⟨rfl, rfl⟩ := q_2
    refine b_istore_n rfl (Nat.le_of_ble_eq_true rfl) ?_
    refine b_aload_n rfl rfl ?_
    refine b_iconst rfl ?_
    refine b_callV rfl rfl hk_Ways_knotsWith rfl rfl rfl (by first | rfl | assumption) rfl (Nat.le_of_ble_eq_true rfl) (q_Ways_kw (o := 1) hR (by omega) hT) (Nat.le_of_ble_eq_true rfl) (fun r_8 D_8 q_8 => ?_)
    obtain ⟨rfl, rfl⟩ := q_8
    refine b_istore rfl (Nat.le_of_ble_eq_true rfl) ?_
    refine b_iload_n rfl rfl ?_
    refine b_iconst rfl ?_
    refine b_icmp_ne rfl (fun c_15 => ?_) (fun c_15 => ?_)
    · exact absurd rfl c_15
    · refine b_iload_n rfl rfl ?_
      refine b_iload_n rfl rfl ?_
      refine b_iand rfl ?_
      refine b_if_eq rfl (fun c_21 => ?_) (fun c_21 => ?_)
      · refine b_iconst rfl ?_
        refine b_goto rfl ?_
        exact b_ireturn rfl (by first | exact Or.inl rfl | exact Or.inr rfl | exact trivial) ((by first | exact ⟨rfl, Or.inr ⟨fun z => (hlost.mp c_21) (hc.mp z), rfl⟩⟩ | exact ⟨rfl, Or.inl ⟨hc.mpr (Classical.byContradiction (fun z => c_21 (hlost.mpr z))), rfl⟩⟩))
      · refine b_iconst rfl ?_
        refine b_goto rfl ?_
        exact b_ireturn rfl (by first | exact Or.inl rfl | exact Or.inr rfl | exact trivial) ((by first | exact ⟨rfl, Or.inr ⟨fun z => (hlost.mp c_21) (hc.mp z), rfl⟩⟩ | exact ⟨rfl, Or.inl ⟨hc.mpr (Classical.byContradiction (fun z => c_21 (hlost.mpr z))), rfl⟩⟩))
/-- within a round: those below k are through it -/
noncomputable def tg_m (s : Nat → Int32) (n r : Nat) (f : Nat → Option Nat) (k : Nat) : Nat → Option Nat := fun j => if j < k then tg_1 s n r f j else f j
theorem tg_m_c {s : Nat → Int32} {n r k j : Nat} {f : Nat → Option Nat} : tg_c s r (tg_m s n r f k) j ↔ tg_c s r f j := by
  unfold tg_c
  by_cases hr : r % 2 = 0
  · rw [if_pos hr, if_pos hr]
    have e : ∀ o, oc (tg_m s n r f k o) = 1 ↔ oc (f o) = 1 := fun o => by
      unfold tg_m
      split
      · exact tg_1_won hr o
      · exact Iff.rfl
    exact ⟨fun h o ho hb => (e o).mp (h o ho hb), fun h o ho hb => (e o).mpr (h o ho hb)⟩
  · rw [if_neg hr, if_neg hr]
    have e : ∀ o, oc (tg_m s n r f k o) = 0 ↔ oc (f o) = 0 := fun o => by
      unfold tg_m
      split
      · exact tg_1_lost hr o
      · exact Iff.rfl
    exact ⟨fun ⟨o, ho, hb, h⟩ => ⟨o, ho, hb, (e o).mp h⟩, fun ⟨o, ho, hb, h⟩ => ⟨o, ho, hb, (e o).mpr h⟩⟩
theorem tg_m_0 {s : Nat → Int32} {n r : Nat} {f : Nat → Option Nat} : tg_m s n r f 0 = f := by funext j; unfold tg_m; rw [if_neg (by omega)]
theorem tg_m_n {s : Nat → Int32} {n r : Nat} {f : Nat → Option Nat} : tg_m s n r f n = tg_1 s n r f := by
  funext j
  unfold tg_m
  by_cases h : j < n
  · rw [if_pos h]
  · rw [if_neg h, tg_1_neg (fun z => h z.1)]
theorem tg_m_k {s : Nat → Int32} {n r k : Nat} {f : Nat → Option Nat} : tg_m s n r f k k = f k := by unfold tg_m; rw [if_neg (by omega)]
theorem tg_m_up {s : Nat → Int32} {n r k : Nat} {f : Nat → Option Nat} (j : Nat) : tg_m s n r f (k + 1) j = if j = k then tg_1 s n r f k else tg_m s n r f k j := by
  unfold tg_m
  by_cases e : j = k
  · rw [if_pos e, if_pos (by omega), e]
  · rw [if_neg e]
    by_cases h : j < k
    · rw [if_pos h, if_pos (by omega)]
    · rw [if_neg h, if_neg (by omega)]
theorem hs_Tg_same {a b : Nat} {s : Nat → Int32} {n r k : Nat} {f : Nat → Option Nat} (hT : hs_Tg I a b (tg_m s n r f k)) (h : ¬ tg_s s n r f k) : hs_Tg I a b (tg_m s n r f (k + 1)) := by
  intro j hj
  rw [tg_m_up]
  by_cases e : j = k
  · rw [if_pos e, tg_1_neg h, e]
    have := hT k (by omega)
    rw [tg_m_k] at this
    exact this
  · rw [if_neg e]; exact hT j hj
theorem hs_Tg_new {a b : Nat} {v w : Int32} {s : Nat → Int32} {n r k : Nat} {f : Nat → Option Nat} (hab : a ≠ b) (hT : hs_Tg I a b (tg_m s n r f k)) (h : tg_s s n r f k) (hv : v = nI (r % 2)) (hw : w = nI r) : hs_Tg (hn_u (hn_u I a k v) b k w) a b (tg_m s n r f (k + 1)) := by
  intro j hj
  rw [tg_m_up, hn_u_ne _ _ _ hab, hn_u_eq, hn_u_eq, hn_u_ne _ _ _ (fun z => hab z.symm)]
  unfold va_up
  by_cases e : j = k
  · rw [if_pos e, if_pos e, if_pos e, tg_1_pos h]; exact ⟨hv, hw⟩
  · rw [if_neg e, if_neg e, if_neg e]; exact hT j hj
theorem irem2 {r : Nat} (h : r ≤ 8) : nI r - nI r / 2 * 2 = nI (r % 2) := by
  have key : ∀ r : Fin 9, nI r.val - nI r.val / 2 * 2 = nI (r.val % 2) := by decide +kernel
  exact key ⟨r, by omega⟩
theorem q_Ways_judgeTugs {q n : Nat} (hR : hs_refs R) (hq : hn_kind q = (1, 8)) (hq1 : q < 179) (hs : ∀ k, k < 8 → sp_lt 8 (I q k)) (hn : n ≤ 8) : hn_F 2 hm_Ways_judgeTugs [.ref 178, .ref q, .int (nI n)] (I, J, R) (fun r D' => r = none ∧ ∃ I2, D' = (I2, J, R) ∧ (∀ b, b ≠ 179 → b ≠ 180 → I2 b = I b) ∧ hs_Tg I2 179 180 (tg (I q) n 9)) := by
  obtain ⟨r0, r1, r2, r3⟩ := hs_Ways_of hR
  refine hn_F_of _ hk_Ways_judgeTugs rfl (Nat.le_of_ble_eq_true rfl) ?_
  obtain ⟨P, hPd⟩ : ∃ P : Option Value → hnD → Prop, P = (fun r D' => r = none ∧ ∃ I2, D' = (I2, J, R) ∧ (∀ b, b ≠ 179 → b ≠ 180 → I2 b = I b) ∧ hs_Tg I2 179 180 (tg (I q) n 9)) := ⟨_, rfl⟩
  rw [← hPd]
  obtain ⟨s, hsd⟩ : ∃ s, s = I q := ⟨_, rfl⟩
  rw [← hsd] at hs hPd
  have lr : ∀ I', (∀ b, b ≠ 179 → b ≠ 180 → I' b = I b) → hs_Tg I' 179 180 (tg s n 0) → hn_B 2 hm_Ways_judgeTugs P 30 [.ref 178, .ref q, .int (nI n), .int (nI 0), .null, .null] [] (I', J, R) := by
    refine sp_ind 9 (fun r => ∀ I', (∀ b, b ≠ 179 → b ≠ 180 → I' b = I b) → hs_Tg I' 179 180 (tg s n r) → hn_B 2 hm_Ways_judgeTugs P 30 [.ref 178, .ref q, .int (nI n), .int (nI r), .null, .null] [] (I', J, R)) ?_ ?_
    · intro I' hf hT
      refine b_iload_n rfl rfl ?_
      refine b_bipush rfl ?_
      refine b_icmp_gt rfl (fun c_33 => ?_) (fun c_33 => ?_)
      · exact b_return_ rfl trivial ((by rw [hPd]; exact ⟨rfl, I', rfl, hf, hT⟩))
      · exact absurd (show (8 : Int32) < nI 9 by decide) c_33
    · intro r hr ih I' hf hT
      have c33 : ¬ (8 : Int32) < nI r := fun z => by
        have := (hi_lt (show (8 : Int32).toInt = 8 from rfl) (nI_toInt (n := r) (by omega))).mp z
        omega
      have lk : ∀ I', (∀ b, b ≠ 179 → b ≠ 180 → I' b = I b) → hs_Tg I' 179 180 (tg_m s n r (tg s n r) 0) → hn_B 2 hm_Ways_judgeTugs P 52 [.ref 178, .ref q, .int (nI n), .int (nI r), .int (nI (r % 2)), .int (nI 0)] [] (I', J, R) := by
        refine sp_ind n (fun k => ∀ I', (∀ b, b ≠ 179 → b ≠ 180 → I' b = I b) → hs_Tg I' 179 180 (tg_m s n r (tg s n r) k) → hn_B 2 hm_Ways_judgeTugs P 52 [.ref 178, .ref q, .int (nI n), .int (nI r), .int (nI (r % 2)), .int (nI k)] [] (I', J, R)) ?_ ?_
        · intro I' hf hT
          rw [tg_m_n, ← tg_succ] at hT
          refine b_iload rfl rfl ?_
          refine b_iload_n rfl rfl ?_
          refine b_icmp_ge rfl (fun c_55 => ?_) (fun c_55 => ?_)
          · refine b_iinc rfl rfl (Nat.le_of_ble_eq_true rfl) ?_
            refine b_goto rfl ?_
            exact b_lp (ih I' hf hT) (le_e (le_e (le_e (le_q (by rw [nI_succ]) (le_n (le_n le_0)))))) rfl rfl
          · exact absurd (nI_le (Nat.le_refl _) (by omega)) c_55
        · intro k hk ih2 I' hf hT
          have e179 : I' 179 k = nI (oc (tg s n r k)) := by have := (hT k (by omega)).1; rw [tg_m_k] at this; exact this
          have eq9 : I' q k = s k := by rw [hf q (by omega) (by omega), hsd]
          by_cases hu : tg s n r k = none
          · rw [hu] at e179
            have hcall := q_Ways_isSettled (I := I') (J := J) (R := R) (r := r) (k := k) (s := s) hR hT (hs k (by omega))
            rw [tg_m_c] at hcall
            by_cases hc : tg_c s r (tg s n r) k
            · have hS : tg_s s n r (tg s n r) k := ⟨hk, hu, hc⟩
              refine b_iload rfl rfl ?_
              refine b_iload_n rfl rfl ?_
              refine b_icmp_ge rfl (fun c_55 => ?_) (fun c_55 => ?_)
              · exact absurd c_55 (nI_ge hk (by omega))
              · refine b_aload_n rfl rfl ?_
                refine b_getR rfl (by first | rfl | assumption) rfl (by assumption) ?_
                refine b_iload rfl rfl ?_
                refine b_iaload rfl (by first | rfl | assumption) (by first | assumption | exact nI_toInt (by omega) | exact hi_l0 | exact hi_l1 | exact hi_l2 | exact hi_l3 | exact hi_l4 | exact hi_l5 | exact hi_l6) (by omega) ?_
                rw [e179]
                refine b_iconst rfl ?_
                refine b_icmp_ne rfl (fun c_66 => ?_) (fun c_66 => ?_)
                · exact absurd (show nI (oc none) = 2 by decide) c_66
                · refine b_aload_n rfl rfl ?_
                  refine b_aload_n rfl rfl ?_
                  refine b_iload rfl rfl ?_
                  refine b_iaload rfl (by first | rfl | assumption) (by first | assumption | exact nI_toInt (by omega) | exact hi_l0 | exact hi_l1 | exact hi_l2 | exact hi_l3 | exact hi_l4 | exact hi_l5 | exact hi_l6) (by omega) ?_
                  rw [eq9]
                  refine b_iload rfl rfl ?_
                  refine b_callV rfl rfl hk_Ways_isSettled rfl rfl rfl (by first | rfl | assumption) rfl (Nat.le_of_ble_eq_true rfl) (hcall) (Nat.le_of_ble_eq_true rfl) (fun r_76 D_76 q_76 => ?_)
                  obtain ⟨rfl, hq9⟩ := q_76
                  have hq9 := (hq9.resolve_right (fun z => z.1 hc)).2
                  subst hq9
                  refine b_if_eq rfl (fun c_79 => ?_) (fun c_79 => ?_)
                  · exact absurd c_79 (by decide)
                  · refine b_aload_n rfl rfl ?_
                    refine b_getR rfl (by first | rfl | assumption) rfl (by assumption) ?_
                    refine b_iload rfl rfl ?_
                    refine b_iload rfl rfl ?_
                    refine b_iastore rfl (by first | rfl | assumption) (by first | assumption | exact nI_toInt (by omega) | exact hi_l0 | exact hi_l1 | exact hi_l2 | exact hi_l3 | exact hi_l4 | exact hi_l5 | exact hi_l6) (by omega) ?_
                    refine b_aload_n rfl rfl ?_
                    refine b_getR rfl (by first | rfl | assumption) rfl (by assumption) ?_
                    refine b_iload rfl rfl ?_
                    refine b_iload_n rfl rfl ?_
                    refine b_iastore rfl (by first | rfl | assumption) (by first | assumption | exact nI_toInt (by omega) | exact hi_l0 | exact hi_l1 | exact hi_l2 | exact hi_l3 | exact hi_l4 | exact hi_l5 | exact hi_l6) (by omega) ?_
                    refine b_iinc rfl rfl (Nat.le_of_ble_eq_true rfl) ?_
                    refine b_goto rfl ?_
                    exact b_lp (ih2 _ (fun b h1 h2 => by rw [hn_u_ne _ _ _ h2, hn_u_ne _ _ _ h1]; exact hf b h1 h2) (hs_Tg_new (by omega) hT hS rfl rfl)) (le_e (le_e (le_e (le_e (le_e (le_q (by rw [nI_succ]) le_0)))))) rfl rfl
            · have hS : ¬ tg_s s n r (tg s n r) k := fun z => hc z.2.2
              refine b_iload rfl rfl ?_
              refine b_iload_n rfl rfl ?_
              refine b_icmp_ge rfl (fun c_55 => ?_) (fun c_55 => ?_)
              · exact absurd c_55 (nI_ge hk (by omega))
              · refine b_aload_n rfl rfl ?_
                refine b_getR rfl (by first | rfl | assumption) rfl (by assumption) ?_
                refine b_iload rfl rfl ?_
                refine b_iaload rfl (by first | rfl | assumption) (by first | assumption | exact nI_toInt (by omega) | exact hi_l0 | exact hi_l1 | exact hi_l2 | exact hi_l3 | exact hi_l4 | exact hi_l5 | exact hi_l6) (by omega) ?_
                rw [e179]
                refine b_iconst rfl ?_
                refine b_icmp_ne rfl (fun c_66 => ?_) (fun c_66 => ?_)
                · exact absurd (show nI (oc none) = 2 by decide) c_66
                · refine b_aload_n rfl rfl ?_
                  refine b_aload_n rfl rfl ?_
                  refine b_iload rfl rfl ?_
                  refine b_iaload rfl (by first | rfl | assumption) (by first | assumption | exact nI_toInt (by omega) | exact hi_l0 | exact hi_l1 | exact hi_l2 | exact hi_l3 | exact hi_l4 | exact hi_l5 | exact hi_l6) (by omega) ?_
                  rw [eq9]
                  refine b_iload rfl rfl ?_
                  refine b_callV rfl rfl hk_Ways_isSettled rfl rfl rfl (by first | rfl | assumption) rfl (Nat.le_of_ble_eq_true rfl) (hcall) (Nat.le_of_ble_eq_true rfl) (fun r_76 D_76 q_76 => ?_)
                  obtain ⟨rfl, hq9⟩ := q_76
                  have hq9 := (hq9.resolve_left (fun z => hc z.1)).2
                  subst hq9
                  refine b_if_eq rfl (fun c_79 => ?_) (fun c_79 => ?_)
                  · refine b_iinc rfl rfl (Nat.le_of_ble_eq_true rfl) ?_
                    refine b_goto rfl ?_
                    exact b_lp (ih2 I' hf (hs_Tg_same hT hS)) (le_e (le_e (le_e (le_e (le_e (le_q (by rw [nI_succ]) le_0)))))) rfl rfl
                  · exact absurd rfl c_79
          · have hS : ¬ tg_s s n r (tg s n r) k := fun z => hu z.2.1
            have h2 : ¬ oc (tg s n r k) = 2 := fun z => hu (oc_none.mp z)
            have hl := oc_lt (tg s n r k)
            refine b_iload rfl rfl ?_
            refine b_iload_n rfl rfl ?_
            refine b_icmp_ge rfl (fun c_55 => ?_) (fun c_55 => ?_)
            · exact absurd c_55 (nI_ge hk (by omega))
            · refine b_aload_n rfl rfl ?_
              refine b_getR rfl (by first | rfl | assumption) rfl (by assumption) ?_
              refine b_iload rfl rfl ?_
              refine b_iaload rfl (by first | rfl | assumption) (by first | assumption | exact nI_toInt (by omega) | exact hi_l0 | exact hi_l1 | exact hi_l2 | exact hi_l3 | exact hi_l4 | exact hi_l5 | exact hi_l6) (by omega) ?_
              rw [e179]
              refine b_iconst rfl ?_
              refine b_icmp_ne rfl (fun c_66 => ?_) (fun c_66 => ?_)
              · refine b_iinc rfl rfl (Nat.le_of_ble_eq_true rfl) ?_
                refine b_goto rfl ?_
                exact b_lp (ih2 I' hf (hs_Tg_same hT hS)) (le_e (le_e (le_e (le_e (le_e (le_q (by rw [nI_succ]) le_0)))))) rfl rfl
              · exact absurd ((hi_nIe (k := 2) (by omega) (by omega)).mp c_66) h2
      rw [← tg_m_0 (s := s) (n := n) (r := r) (f := tg s n r)] at hT
      by_cases hr2 : r % 2 = 0
      · rw [hr2] at lk
        refine b_iload_n rfl rfl ?_
        refine b_bipush rfl ?_
        refine b_icmp_gt rfl (fun c_33 => ?_) (fun c_33 => ?_)
        · exact absurd c_33 c33
        · refine b_iload_n rfl rfl ?_
          refine b_iconst rfl ?_
          refine b_irem rfl (by decide) ?_
          rw [irem2 (by omega), hr2]
          refine b_if_ne rfl (fun c_39 => ?_) (fun c_39 => ?_)
          · exact absurd rfl c_39
          · refine b_iconst rfl ?_
            refine b_goto rfl ?_
            refine b_istore rfl (Nat.le_of_ble_eq_true rfl) ?_
            refine b_iconst rfl ?_
            refine b_istore rfl (Nat.le_of_ble_eq_true rfl) ?_
            exact b_lp (lk I' hf hT) (le_e (le_e (le_e (le_e (le_q (by rfl) (le_q (by rfl) le_0)))))) rfl rfl
      · rw [show r % 2 = 1 by omega] at lk
        refine b_iload_n rfl rfl ?_
        refine b_bipush rfl ?_
        refine b_icmp_gt rfl (fun c_33 => ?_) (fun c_33 => ?_)
        · exact absurd c_33 c33
        · refine b_iload_n rfl rfl ?_
          refine b_iconst rfl ?_
          refine b_irem rfl (by decide) ?_
          rw [irem2 (by omega), show r % 2 = 1 by omega]
          refine b_if_ne rfl (fun c_39 => ?_) (fun c_39 => ?_)
          · refine b_iconst rfl ?_
            refine b_istore rfl (Nat.le_of_ble_eq_true rfl) ?_
            refine b_iconst rfl ?_
            refine b_istore rfl (Nat.le_of_ble_eq_true rfl) ?_
            exact b_lp (lk I' hf hT) (le_e (le_e (le_e (le_e (le_q (by rfl) (le_q (by rfl) le_0)))))) rfl rfl
          · exact absurd c_39 (by decide)
  have l0 : ∀ I', (∀ b, b ≠ 179 → b ≠ 180 → I' b = I b) → (∀ k, k < 0 → I' 179 k = 2 ∧ I' 180 k = -1) → hn_B 2 hm_Ways_judgeTugs P 2 [.ref 178, .ref q, .int (nI n), .int (nI 0), .null, .null] [] (I', J, R) := by
    refine sp_ind 8 (fun k => ∀ I', (∀ b, b ≠ 179 → b ≠ 180 → I' b = I b) → (∀ j, j < k → I' 179 j = 2 ∧ I' 180 j = -1) → hn_B 2 hm_Ways_judgeTugs P 2 [.ref 178, .ref q, .int (nI n), .int (nI k), .null, .null] [] (I', J, R)) ?_ ?_
    · intro I' hf hT
      refine b_iload_n rfl rfl ?_
      refine b_bipush rfl ?_
      refine b_icmp_ge rfl (fun c_5 => ?_) (fun c_5 => ?_)
      · refine b_iconst rfl ?_
        refine b_istore_n rfl (Nat.le_of_ble_eq_true rfl) ?_
        exact b_lp (lr I' hf (fun k hk => ⟨(hT k hk).1, (hT k hk).2⟩)) (le_e (le_e (le_e (le_q (by rfl) (le_n (le_n le_0)))))) rfl rfl
      · exact absurd hi_88 c_5
    · intro k hk ih I' hf hT
      have hst : ∀ j, j < k + 1 → hn_u (hn_u I' 179 k 2) 180 k (-1) 179 j = 2 ∧ hn_u (hn_u I' 179 k 2) 180 k (-1) 180 j = -1 := by
        intro j hj
        rw [hn_u_ne _ _ _ (show 179 ≠ 180 by omega), hn_u_eq, hn_u_eq, hn_u_ne _ _ _ (show 180 ≠ 179 by omega)]
        unfold va_up
        by_cases e : j = k
        · rw [if_pos e, if_pos e]; exact ⟨rfl, rfl⟩
        · rw [if_neg e, if_neg e]; exact hT j (by omega)
      refine b_iload_n rfl rfl ?_
      refine b_bipush rfl ?_
      refine b_icmp_ge rfl (fun c_5 => ?_) (fun c_5 => ?_)
      · exact absurd c_5 (hi_ge8 hk)
      · refine b_aload_n rfl rfl ?_
        refine b_getR rfl (by first | rfl | assumption) rfl (by assumption) ?_
        refine b_iload_n rfl rfl ?_
        refine b_iconst rfl ?_
        refine b_iastore rfl (by first | rfl | assumption) (by first | assumption | exact nI_toInt (by omega) | exact hi_l0 | exact hi_l1 | exact hi_l2 | exact hi_l3 | exact hi_l4 | exact hi_l5 | exact hi_l6) (by omega) ?_
        refine b_aload_n rfl rfl ?_
        refine b_getR rfl (by first | rfl | assumption) rfl (by assumption) ?_
        refine b_iload_n rfl rfl ?_
        refine b_iconst rfl ?_
        refine b_iastore rfl (by first | rfl | assumption) (by first | assumption | exact nI_toInt (by omega) | exact hi_l0 | exact hi_l1 | exact hi_l2 | exact hi_l3 | exact hi_l4 | exact hi_l5 | exact hi_l6) (by omega) ?_
        refine b_iinc rfl rfl (Nat.le_of_ble_eq_true rfl) ?_
        refine b_goto rfl ?_
        exact b_lp (ih _ (fun b h1 h2 => by rw [hn_u_ne _ _ _ h2, hn_u_ne _ _ _ h1]; exact hf b h1 h2) hst) (le_e (le_e (le_e (le_q (by rw [nI_succ]) (le_n (le_n le_0)))))) rfl rfl
  refine b_iconst rfl ?_
  refine b_istore_n rfl (Nat.le_of_ble_eq_true rfl) ?_
  exact b_lp (l0 I (fun _ _ _ => rfl) (fun k hk => absurd hk (by omega))) (le_e (le_e (le_e (le_q (by rw [nI_0]) (le_n (le_n le_0)))))) rfl rfl
end HNtug
