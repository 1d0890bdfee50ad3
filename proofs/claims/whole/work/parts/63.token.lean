section HNtoken
variable {I I' : Nat → Nat → Int32} {J J' : Nat → Nat → Int64} {R R' : Nat → Nat → Option Nat}
/-! runs of signs -/
def run (c : Nat → Prop) [DecidablePred c] (f : Nat → Nat) : Nat → Nat → Nat
  | 0, p => p
  | m + 1, p => if c (f p) then run c f m (p + 1) else p
theorem run_le (c : Nat → Prop) [DecidablePred c] (f : Nat → Nat) : ∀ m p, p ≤ run c f m p ∧ run c f m p ≤ p + m
  | 0, p => ⟨Nat.le_refl _, Nat.le_refl _⟩
  | m + 1, p => by
    have ih := run_le c f m (p + 1)
    show p ≤ (if c (f p) then run c f m (p + 1) else p) ∧ (if c (f p) then run c f m (p + 1) else p) ≤ p + (m + 1)
    split <;> omega
theorem run_at (c : Nat → Prop) [DecidablePred c] (f : Nat → Nat) : ∀ m p, run c f m p < p + m → ¬ c (f (run c f m p))
  | 0, p, h => by
    have e : run c f 0 p = p := rfl
    omega
  | m + 1, p, h => by
    have e : run c f (m + 1) p = if c (f p) then run c f m (p + 1) else p := rfl
    rw [e] at h ⊢
    by_cases hc : c (f p)
    · rw [if_pos hc] at h ⊢; exact run_at c f m (p + 1) (by omega)
    · rw [if_neg hc]; exact hc
theorem run_y {c : Nat → Prop} [DecidablePred c] {f : Nat → Nat} {n p : Nat} (hp : p < n) (hc : c (f p)) : run c f (n - p) p = run c f (n - (p + 1)) (p + 1) := by
  rw [show n - p = n - (p + 1) + 1 by omega]
  show (if c (f p) then run c f (n - (p + 1)) (p + 1) else p) = _
  rw [if_pos hc]
theorem run_n {c : Nat → Prop} [DecidablePred c] {f : Nat → Nat} {n p : Nat} (h : p < n → ¬ c (f p)) : run c f (n - p) p = p := by
  by_cases hp : p < n
  · rw [show n - p = n - (p + 1) + 1 by omega]
    show (if c (f p) then run c f (n - (p + 1)) (p + 1) else p) = _
    rw [if_neg (h hp)]
  · rw [show n - p = 0 by omega]; rfl
theorem run_first {c : Nat → Prop} [DecidablePred c] {f : Nat → Nat} {n p : Nat} (hp : p < n) (hc : c (f p)) : p < run c f (n - p) p := by
  rw [run_y hp hc]
  have := (run_le c f (n - (p + 1)) (p + 1)).1
  omega
abbrev isB (x : Nat) : Prop := x = 32 ∨ x = 10
abbrev isL (x : Nat) : Prop := 97 ≤ x ∧ x ≤ 122
abbrev isD (x : Nat) : Prop := 48 ≤ x ∧ x ≤ 57
abbrev isS (x : Nat) : Prop := x = 40 ∨ x = 41 ∨ x = 60 ∨ x = 61 ∨ x = 43 ∨ x = 45 ∨ x = 42 ∨ x = 59
/-! a word's number, a number's -/
def w27 (f : Nat → Nat) (q : Nat) : Nat → Nat := sp_up (fun i x => x * 27 + (f (q + i) - 96)) 0
def num (f : Nat → Nat) (q : Nat) : Nat → Nat := sp_up (fun i x => x * 10 + (f (q + i) - 48)) 0
/-- a token: kind (0 end, 1 word, 2 number, 3 sign, 4 none), place, where it ends, value -/
abbrev tk : Type := Nat × Nat × Nat × Nat
def tok (f : Nat → Nat) (n p : Nat) : tk :=
  let q := run isB f (n - p) p
  if n ≤ q then (0, q, q, 0)
  else if isL (f q) then (if 8 < run isL f (n - q) q - q then 4 else 1, q, run isL f (n - q) q, w27 f q (run isL f (n - q) q - q))
  else if isD (f q) then (if 4 < run isD f (n - q) q - q then 4 else 2, q, run isD f (n - q) q, num f q (run isD f (n - q) q - q))
  else (if isS (f q) then 3 else 4, q, q + 1, f q)
def wlN : List Nat := [0, 0, 227144, 4555648, 283619293, 488582165, 232608281, 459606, 47, 6799726, 168984, 10261586, 9877010, 8996, 14828, 8740238, 125158, 382984, 82775, 10631, 1111, 423, 168727, 262822, 257011, 226024039]
theorem wlN_of {i : Nat} (h : i < 26) : hn_wlet.getD i 0 = nJ (wlN.getD i 0) ∧ wlN.getD i 0 < 1000000000 := by
  have key : ∀ i : Fin 26, hn_wlet.getD i.val 0 = nJ (wlN.getD i.val 0) ∧ wlN.getD i.val 0 < 1000000000 := by decide +kernel
  exact key ⟨i, h⟩
def wi (v : Nat) : Nat → Nat := sp_up (fun i a => if wlN.getD i 0 = v then i else a) 1
theorem wi_lt (v : Nat) : ∀ m, m ≤ 26 → wi v m < 26
  | 0, _ => by show 1 < 26; omega
  | m + 1, h => by
    have ih := wi_lt v m (by omega)
    show (if wlN.getD m 0 = v then m else wi v m) < 26
    split <;> omega
abbrev wx (x : tk) : Nat := if x.1 = 1 then wi x.2.2.2 26 else 0
theorem wx_lt (x : tk) : wx x < 26 := by
  unfold wx
  split
  · exact wi_lt _ 26 (by omega)
  · omega
def hs_Tk (I : Nat → Nat → Int32) (J : Nat → Nat → Int64) (R : Nat → Nat → Option Nat) (n : Nat) (x : tk) : Prop := I 1 1 = nI n ∧ I 1 2 = nI x.2.1 ∧ I 1 3 = nI x.2.2.1 ∧ I 1 4 = nI x.1 ∧ R 1 5 = some (5000 + wx x) ∧ (x.1 = 1 → J 1 6 = nJ x.2.2.2) ∧ (x.1 = 2 → I 1 7 = nI x.2.2.2) ∧ (x.1 = 3 → I 1 8 = nI x.2.2.2)
/-- what the tape's reading may change -/
def hs_tf (I : Nat → Nat → Int32) (J : Nat → Nat → Int64) (R : Nat → Nat → Option Nat) (I' : Nat → Nat → Int32) (J' : Nat → Nat → Int64) (R' : Nat → Nat → Option Nat) : Prop := (∀ b, b ≠ 1 → I' b = I b) ∧ (∀ b, b ≠ 1 → J' b = J b) ∧ (∀ b, b ≠ 1 → R' b = R b) ∧ ∀ i, i ≠ 5 → R' 1 i = R 1 i
theorem hs_tf_r : hs_tf I J R I J R := ⟨fun _ _ => rfl, fun _ _ => rfl, fun _ _ => rfl, fun _ _ => rfl⟩
theorem hs_tf_t {I2 : Nat → Nat → Int32} {J2 : Nat → Nat → Int64} {R2 : Nat → Nat → Option Nat} (h : hs_tf I J R I' J' R') (g : hs_tf I' J' R' I2 J2 R2) : hs_tf I J R I2 J2 R2 :=
  ⟨fun b hb => (g.1 b hb).trans (h.1 b hb), fun b hb => (g.2.1 b hb).trans (h.2.1 b hb), fun b hb => (g.2.2.1 b hb).trans (h.2.2.1 b hb), fun i hi => (g.2.2.2 i hi).trans (h.2.2.2 i hi)⟩
/-- the signs on the tape -/
def hs_Sg (I : Nat → Nat → Int32) (f : Nat → Nat) (n : Nat) : Prop := n ≤ 1000 ∧ ∀ i, i < n → I 2 i = nI (f i) ∧ f i < 128
theorem nJ_s (x d : Nat) : nJ (x * 27 + d) = nJ x * 27 + nJ d := by rw [nJ_ad, nJ_ml]; rfl
theorem nI_sd (x d : Nat) : nI (x * 10 + d) = nI x * 10 + nI d := by rw [nI_ad, nI_ml]; rfl
theorem ch_l {c : Nat} (h : isL c) : (nI c - 97 + 1).toInt64 = nJ (c - 96) := by
  have key : ∀ d : Fin 26, (nI (97 + d.val) - 97 + 1).toInt64 = nJ (97 + d.val - 96) := by decide +kernel
  have := key ⟨c - 97, by omega⟩
  rwa [show 97 + (c - 97) = c by omega] at this
theorem ch_d {c : Nat} (h : isD c) : nI c - 48 = nI (c - 48) := by
  have key : ∀ d : Fin 10, nI (48 + d.val) - 48 = nI (48 + d.val - 48) := by decide +kernel
  have := key ⟨c - 48, by omega⟩
  rwa [show 48 + (c - 48) = c by omega] at this
theorem nI_lt_c {c k : Nat} (hc : c < 2147483648) (hk : k < 2147483648) : nI c < nI k ↔ c < k := by
  rw [hi_lt (nI_toInt (n := c) (by omega)) (nI_toInt (n := k) (by omega))]; omega
theorem nI_le_c {c k : Nat} (hc : c < 2147483648) (hk : k < 2147483648) : nI c ≤ nI k ↔ c ≤ k := by
  rw [hi_le (nI_toInt (n := c) (by omega)) (nI_toInt (n := k) (by omega))]; omega
theorem nI_sb {a b : Nat} (h : b ≤ a) : nI a - nI b = nI (a - b) := by
  rw [show nI a = nI (a - b) + nI b by rw [← nI_ad]; congr 1; omega, Int32.add_sub_cancel]
theorem w27_b {f : Nat → Nat} {q : Nat} (h : ∀ i, f (q + i) < 128) : ∀ m, w27 f q m + 1 ≤ 33 ^ m
  | 0 => Nat.le_refl _
  | m + 1 => by
    have ih := w27_b h m
    have h1 := h m
    show w27 f q m * 27 + (f (q + m) - 96) + 1 ≤ 33 ^ (m + 1)
    rw [Nat.pow_succ]
    have h2 : 1 ≤ 33 ^ m := Nat.pow_pos (by omega)
    generalize 33 ^ m = z at ih h2 ⊢
    omega
theorem w27_c {f g : Nat → Nat} {q m : Nat} (h : ∀ i, i < m → f (q + i) = g (q + i)) : w27 f q m = w27 g q m :=
  sp_up_congr (fun i s hi => by rw [h i hi])
theorem q_Tape_readWord {f : Nat → Nat} {n q : Nat} (hr : R 1 0 = some 2) (hS : hs_Sg I f n) (h1 : I 1 1 = nI n) (h2 : I 1 2 = nI q) (h3 : I 1 3 = nI q) (hq : q < n) (hl : isL (f q)) (hw0 : R 1 5 = some 5000) : hn_F 0 hm_Tape_readWord [.ref 1] (I, J, R) (fun r D' => r = none ∧ ∃ I2 J2 R2, D' = (I2, J2, R2) ∧ hs_tf I J R I2 J2 R2 ∧ hs_Tk I2 J2 R2 n (if 8 < run isL f (n - q) q - q then 4 else 1, q, run isL f (n - q) q, w27 f q (run isL f (n - q) q - q))) := by
  have k2 : hn_kind 2 = (4, 1000) := rfl
  have k1 : hn_kind 1 = (0, 1) := rfl
  obtain ⟨hn, hSg⟩ := hS
  refine hn_F_of _ hk_Tape_readWord rfl (Nat.le_of_ble_eq_true rfl) ?_
  obtain ⟨e, he⟩ : ∃ e, e = run isL f (n - q) q := ⟨_, rfl⟩
  obtain ⟨P, hPd⟩ : ∃ P : Option Value → hnD → Prop, P = (fun r D' => r = none ∧ ∃ I2 J2 R2, D' = (I2, J2, R2) ∧ hs_tf I J R I2 J2 R2 ∧ hs_Tk I2 J2 R2 n (if 8 < run isL f (n - q) q - q then 4 else 1, q, run isL f (n - q) q, w27 f q (run isL f (n - q) q - q))) := ⟨_, rfl⟩
  rw [← hPd]
  rw [← he] at hPd
  have hle := run_le isL f (n - q) q
  rw [← he] at hle
  have S85 : ∀ I' J', hs_tf I J R I' J' R → I' 1 1 = nI n → I' 1 2 = nI q → I' 1 3 = nI e → J' 1 6 = nJ (w27 f q (e - q)) → hn_B 0 hm_Tape_readWord P 85 [.ref 1, .null, .null, .null, .null] [] (I', J', R) := by
    intro I' J' ht a1 a2 a3 a6
    by_cases h8 : 8 < e - q
    · rw [if_pos h8] at hPd
      refine b_aload_n rfl rfl ?_
      refine b_getI rfl (by first | rfl | assumption) rfl ?_
      rw [a3]
      refine b_aload_n rfl rfl ?_
      refine b_getI rfl (by first | rfl | assumption) rfl ?_
      rw [a2]
      refine b_isub rfl ?_
      rw [nI_sb hle.1]
      refine b_bipush rfl ?_
      refine b_icmp_le rfl (fun c_96 => ?_) (fun c_96 => ?_)
      · exact absurd ((nI_le_c (k := 8) (by omega) (by omega)).mp c_96) (by omega)
      · refine b_aload_n rfl rfl ?_
        refine b_iconst rfl ?_
        refine b_putI rfl (by first | rfl | assumption) rfl rfl ⟨rfl, rfl⟩ ?_
        exact b_return_ rfl trivial ((by rw [hPd]; exact ⟨rfl, _, _, _, rfl, ⟨fun b hb => by rw [hn_u_ne _ _ _ hb]; exact ht.1 b hb, ht.2.1, ht.2.2.1, ht.2.2.2⟩, by rw [hn_u_eq, va_up, if_neg (by omega)]; exact a1, by rw [hn_u_eq, va_up, if_neg (by omega)]; exact a2, by rw [hn_u_eq, va_up, if_neg (by omega)]; exact a3, by rw [hn_u_eq, va_up, if_pos rfl]; rfl, hw0, fun z => absurd (show (4 : Nat) = 1 from z) (by decide), fun z => absurd (show (4 : Nat) = 2 from z) (by decide), fun z => absurd (show (4 : Nat) = 3 from z) (by decide)⟩))
    · rw [if_neg h8] at hPd
      obtain ⟨v, hv⟩ : ∃ v, v = w27 f q (e - q) := ⟨_, rfl⟩
      rw [← hv] at a6 hPd
      have hv9 : v < 2000000000000 := by
        rw [hv]
        have h9 := w27_b (f := fun i => if i < n then f i else 0) (q := q) (fun i => by split; exact (hSg _ (by assumption)).2; omega) (e - q)
        rw [w27_c (fun i hi => if_pos (by omega))] at h9
        have h10 : 33 ^ (e - q) ≤ 33 ^ 8 := Nat.pow_le_pow_right (by omega) (by omega)
        have h11 : 33 ^ 8 = 1406408618241 := by decide
        omega
      obtain ⟨I2, hI2⟩ : ∃ z, z = hn_u I' 1 4 1 := ⟨_, rfl⟩
      have fin : ∀ R2, (∀ b, b ≠ 1 → R2 b = R b) → (∀ i, i ≠ 5 → R2 1 i = R 1 i) → R2 1 5 = some (5000 + wi v 26) → P none (I2, J', R2) := by
        intro R2 r1 r2 r3
        rw [hPd]
        exact ⟨rfl, _, _, _, rfl, ⟨fun b hb => by rw [hI2, hn_u_ne _ _ _ hb]; exact ht.1 b hb, ht.2.1, r1, r2⟩, by rw [hI2, hn_u_eq, va_up, if_neg (by omega)]; exact a1, by rw [hI2, hn_u_eq, va_up, if_neg (by omega)]; exact a2, by rw [hI2, hn_u_eq, va_up, if_neg (by omega)]; exact a3, by rw [hI2, hn_u_eq, va_up, if_pos rfl]; rfl, r3, fun _ => a6, fun z => absurd (show (1 : Nat) = 2 from z) (by decide), fun z => absurd (show (1 : Nat) = 3 from z) (by decide)⟩
      have lp : ∀ R2, (∀ b, b ≠ 1 → R2 b = R b) → (∀ i, i ≠ 5 → R2 1 i = R 1 i) → R2 1 5 = some (5000 + wi v 0) → hn_B 0 hm_Tape_readWord P 126 [.ref 1, .ref 5100, .int 26, .int (nI 0), .null] [] (I2, J', R2) := by
        refine sp_ind 26 (fun i => ∀ R2, (∀ b, b ≠ 1 → R2 b = R b) → (∀ i, i ≠ 5 → R2 1 i = R 1 i) → R2 1 5 = some (5000 + wi v i) → hn_B 0 hm_Tape_readWord P 126 [.ref 1, .ref 5100, .int 26, .int (nI i), .null] [] (I2, J', R2)) ?_ ?_
        · intro R2 r1 r2 r3
          refine b_iload_n rfl rfl ?_
          refine b_iload_n rfl rfl ?_
          refine b_icmp_ge rfl (fun c_128 => ?_) (fun c_128 => ?_)
          · exact b_return_ rfl trivial ((fin R2 r1 r2 r3))
          · exact absurd (show (26 : Int32) ≤ nI 26 by decide) c_128
        · intro i hi ih R2 r1 r2 r3
          obtain ⟨w1, w2⟩ := wlN_of hi
          have hs : wi v (i + 1) = if wlN.getD i 0 = v then i else wi v i := rfl
          rw [hs] at ih
          have heq : nJ (wlN.getD i 0) = nJ v ↔ wlN.getD i 0 = v := ⟨fun z => by have h1 := nJ_toInt (n := wlN.getD i 0) (by omega); rw [z, nJ_toInt (by omega)] at h1; omega, fun z => by rw [z]⟩
          have w1' : hn_wlet.getD (5000 + i - 5000) 0 = nJ (wlN.getD i 0) := by rw [show 5000 + i - 5000 = i by omega]; exact w1
          by_cases hc : wlN.getD i 0 = v
          · rw [if_pos hc] at ih
            refine b_iload_n rfl rfl ?_
            refine b_iload_n rfl rfl ?_
            refine b_icmp_ge rfl (fun c_128 => ?_) (fun c_128 => ?_)
            · exact absurd c_128 (nI_ge (b := 26) hi (by omega))
            · refine b_aload_n rfl rfl ?_
              refine b_iload_n rfl rfl ?_
              refine b_wload rfl (nI_toInt (n := i) (by omega)) (by omega) ?_
              refine b_astore rfl (Nat.le_of_ble_eq_true rfl) ?_
              refine b_aload rfl rfl ?_
              refine b_getWL rfl (by omega) ?_
              rw [w1']
              refine b_aload_n rfl rfl ?_
              refine b_getL rfl (by first | rfl | assumption) rfl ?_
              rw [a6]
              refine b_lcmp rfl ?_
              refine b_if_ne rfl (fun c_146 => ?_) (fun c_146 => ?_)
              · exact absurd ((lg_cmp_eq _ _).mpr (heq.mpr hc)) c_146
              · refine b_aload_n rfl rfl ?_
                refine b_aload rfl rfl ?_
                refine b_putR rfl (by first | rfl | assumption) rfl rfl (fun _ => ⟨rfl, rfl⟩) ?_
                refine b_iinc rfl rfl (Nat.le_of_ble_eq_true rfl) ?_
                refine b_goto rfl ?_
                exact b_lp (ih (hn_u R2 1 5 (some (5000 + i))) (fun b hb => by rw [hn_u_ne _ _ _ hb]; exact r1 b hb) (fun k hk => by rw [hn_u_eq, va_up, if_neg hk]; exact r2 k hk) (by rw [hn_u_eq, va_up, if_pos rfl])) (le_e (le_e (le_e (le_q (by rw [nI_succ]) (le_n le_0))))) rfl rfl
          · rw [if_neg hc] at ih
            refine b_iload_n rfl rfl ?_
            refine b_iload_n rfl rfl ?_
            refine b_icmp_ge rfl (fun c_128 => ?_) (fun c_128 => ?_)
            · exact absurd c_128 (nI_ge (b := 26) hi (by omega))
            · refine b_aload_n rfl rfl ?_
              refine b_iload_n rfl rfl ?_
              refine b_wload rfl (nI_toInt (n := i) (by omega)) (by omega) ?_
              refine b_astore rfl (Nat.le_of_ble_eq_true rfl) ?_
              refine b_aload rfl rfl ?_
              refine b_getWL rfl (by omega) ?_
              rw [w1']
              refine b_aload_n rfl rfl ?_
              refine b_getL rfl (by first | rfl | assumption) rfl ?_
              rw [a6]
              refine b_lcmp rfl ?_
              refine b_if_ne rfl (fun c_146 => ?_) (fun c_146 => ?_)
              · refine b_iinc rfl rfl (Nat.le_of_ble_eq_true rfl) ?_
                refine b_goto rfl ?_
                exact b_lp (ih R2 r1 r2 r3) (le_e (le_e (le_e (le_q (by rw [nI_succ]) (le_n le_0))))) rfl rfl
              · exact absurd ((lg_cmp_eq _ _).mp c_146) (fun z => hc (heq.mp z))
      refine b_aload_n rfl rfl ?_
      refine b_getI rfl (by first | rfl | assumption) rfl ?_
      rw [a3]
      refine b_aload_n rfl rfl ?_
      refine b_getI rfl (by first | rfl | assumption) rfl ?_
      rw [a2]
      refine b_isub rfl ?_
      rw [nI_sb hle.1]
      refine b_bipush rfl ?_
      refine b_icmp_le rfl (fun c_96 => ?_) (fun c_96 => ?_)
      · refine b_aload_n rfl rfl ?_
        refine b_iconst rfl ?_
        refine b_putI rfl (by first | rfl | assumption) rfl rfl ⟨rfl, rfl⟩ ?_
        rw [← hI2]
        refine b_aload_n rfl rfl ?_
        refine b_getsW rfl ?_
        refine b_putR rfl (by first | rfl | assumption) rfl rfl (fun _ => ⟨rfl, rfl⟩) ?_
        refine b_getsA rfl ?_
        refine b_astore_n rfl (Nat.le_of_ble_eq_true rfl) ?_
        refine b_aload_n rfl rfl ?_
        refine b_wlen rfl ?_
        refine b_istore_n rfl (Nat.le_of_ble_eq_true rfl) ?_
        refine b_iconst rfl ?_
        refine b_istore_n rfl (Nat.le_of_ble_eq_true rfl) ?_
        exact b_lp (lp (hn_u R 1 5 (some 5001)) (fun b hb => hn_u_ne _ _ _ hb) (fun k hk => by rw [hn_u_eq, va_up, if_neg hk]) (by rw [hn_u_eq, va_up, if_pos rfl]; rfl)) (le_e (le_e (le_e (le_q (by rfl) (le_n le_0))))) rfl rfl
      · exact absurd ((nI_le_c (k := 8) (by omega) (by omega)).mpr (by omega)) c_96
  have lr : ∀ p, q ≤ p → p ≤ n → ∀ I' J', run isL f (n - p) p = e → hs_tf I J R I' J' R → I' 1 1 = nI n → I' 1 2 = nI q → I' 1 3 = nI p → J' 1 6 = nJ (w27 f q (p - q)) → hn_B 0 hm_Tape_readWord P 5 [.ref 1, .null, .null, .null, .null] [] (I', J', R) := by
    intro p hqp hpn
    refine sp_indk p n hpn (fun p => q ≤ p → ∀ I' J', run isL f (n - p) p = e → hs_tf I J R I' J' R → I' 1 1 = nI n → I' 1 2 = nI q → I' 1 3 = nI p → J' 1 6 = nJ (w27 f q (p - q)) → hn_B 0 hm_Tape_readWord P 5 [.ref 1, .null, .null, .null, .null] [] (I', J', R)) ?_ ?_ hqp
    · intro _ I' J' hrun ht a1 a2 a3 a6
      have hen : n = e := by rw [← hrun, Nat.sub_self]; rfl
      rw [hen] at a3 a6
      refine b_aload_n rfl rfl ?_
      refine b_getI rfl (by first | rfl | assumption) rfl ?_
      rw [a3]
      refine b_aload_n rfl rfl ?_
      refine b_getI rfl (by first | rfl | assumption) rfl ?_
      rw [a1, hen]
      refine b_icmp_ge rfl (fun c_13 => ?_) (fun c_13 => ?_)
      · exact S85 I' J' ht a1 a2 a3 a6
      · exact absurd (nI_le (Nat.le_refl _) (by omega)) c_13
    · intro p hp0 hp ih hqp I' J' hrun ht a1 a2 a3 a6
      obtain ⟨ec, hc⟩ := hSg p hp
      have e2 : I' 2 p = nI (f p) := by rw [ht.1 2 (by omega)]; exact ec
      have i97 : nI (f p) < 97 ↔ f p < 97 := nI_lt_c (k := 97) (by omega) (by omega)
      have i122 : 122 < nI (f p) ↔ 122 < f p := nI_lt_c (c := 122) (by omega) (by omega)
      by_cases hlp : isL (f p)
      · rw [run_y hp hlp] at hrun
        have hw : w27 f q (p + 1 - q) = w27 f q (p - q) * 27 + (f p - 96) := by
          rw [show p + 1 - q = p - q + 1 by omega]
          show w27 f q (p - q) * 27 + (f (q + (p - q)) - 96) = _
          rw [show q + (p - q) = p by omega]
        refine b_aload_n rfl rfl ?_
        refine b_getI rfl (by first | rfl | assumption) rfl ?_
        rw [a3]
        refine b_aload_n rfl rfl ?_
        refine b_getI rfl (by first | rfl | assumption) rfl ?_
        rw [a1]
        refine b_icmp_ge rfl (fun c_13 => ?_) (fun c_13 => ?_)
        · exact absurd c_13 (nI_ge hp (by omega))
        · refine b_aload_n rfl rfl ?_
          refine b_getR rfl (by first | rfl | assumption) rfl (by assumption) ?_
          refine b_aload_n rfl rfl ?_
          refine b_getI rfl (by first | rfl | assumption) rfl ?_
          rw [a3]
          refine b_caload rfl (by first | rfl | assumption) (by first | assumption | exact nI_toInt (by omega) | exact hi_l0 | exact hi_l1 | exact hi_l2 | exact hi_l3 | exact hi_l4 | exact hi_l5 | exact hi_l6) (by omega) ?_
          rw [e2]
          refine b_bipush rfl ?_
          refine b_icmp_lt rfl (fun c_27 => ?_) (fun c_27 => ?_)
          · exact absurd (i97.mp c_27) (by omega)
          · refine b_aload_n rfl rfl ?_
            refine b_getR rfl (by first | rfl | assumption) rfl (by assumption) ?_
            refine b_aload_n rfl rfl ?_
            refine b_getI rfl (by first | rfl | assumption) rfl ?_
            rw [a3]
            refine b_caload rfl (by first | rfl | assumption) (by first | assumption | exact nI_toInt (by omega) | exact hi_l0 | exact hi_l1 | exact hi_l2 | exact hi_l3 | exact hi_l4 | exact hi_l5 | exact hi_l6) (by omega) ?_
            rw [e2]
            refine b_bipush rfl ?_
            refine b_icmp_gt rfl (fun c_41 => ?_) (fun c_41 => ?_)
            · exact absurd (i122.mp c_41) (by omega)
            · refine b_aload_n rfl rfl ?_
              refine b_aload_n rfl rfl ?_
              refine b_getL rfl (by first | rfl | assumption) rfl ?_
              rw [a6]
              refine b_ldc2_w rfl ?_
              refine b_lmul rfl ?_
              refine b_aload_n rfl rfl ?_
              refine b_getR rfl (by first | rfl | assumption) rfl (by assumption) ?_
              refine b_aload_n rfl rfl ?_
              refine b_getI rfl (by first | rfl | assumption) rfl ?_
              rw [a3]
              refine b_caload rfl (by first | rfl | assumption) (by first | assumption | exact nI_toInt (by omega) | exact hi_l0 | exact hi_l1 | exact hi_l2 | exact hi_l3 | exact hi_l4 | exact hi_l5 | exact hi_l6) (by omega) ?_
              rw [e2]
              refine b_bipush rfl ?_
              refine b_isub rfl ?_
              refine b_iconst rfl ?_
              refine b_iadd rfl ?_
              refine b_i2l rfl ?_
              rw [ch_l hlp]
              refine b_ladd rfl ?_
              rw [← nJ_s, ← hw]
              refine b_putL rfl (by first | rfl | assumption) rfl rfl (fun _ => ⟨rfl, rfl⟩) ?_
              refine b_aload_n rfl rfl ?_
              refine b_dup rfl rfl ?_
              refine b_getI rfl (by first | rfl | assumption) rfl ?_
              rw [a3]
              refine b_iconst rfl ?_
              refine b_iadd rfl ?_
              rw [← nI_succ]
              refine b_putI rfl (by first | rfl | assumption) rfl rfl ⟨rfl, rfl⟩ ?_
              refine b_goto rfl ?_
              exact ih (by omega) _ _ hrun ⟨fun b hb => by rw [hn_u_ne _ _ _ hb]; exact ht.1 b hb, fun b hb => by rw [hn_u_ne _ _ _ hb]; exact ht.2.1 b hb, ht.2.2.1, ht.2.2.2⟩ (by rw [hn_u_eq, va_up, if_neg (by omega)]; exact a1) (by rw [hn_u_eq, va_up, if_neg (by omega)]; exact a2) (by rw [hn_u_eq, va_up, if_pos rfl]) (by rw [hn_u_eq, va_up, if_pos rfl])
      · have hen : p = e := by rw [← hrun, run_n (fun _ => hlp)]
        by_cases h97 : f p < 97
        · refine b_aload_n rfl rfl ?_
          refine b_getI rfl (by first | rfl | assumption) rfl ?_
          rw [a3]
          refine b_aload_n rfl rfl ?_
          refine b_getI rfl (by first | rfl | assumption) rfl ?_
          rw [a1]
          refine b_icmp_ge rfl (fun c_13 => ?_) (fun c_13 => ?_)
          · exact absurd c_13 (nI_ge hp (by omega))
          · refine b_aload_n rfl rfl ?_
            refine b_getR rfl (by first | rfl | assumption) rfl (by assumption) ?_
            refine b_aload_n rfl rfl ?_
            refine b_getI rfl (by first | rfl | assumption) rfl ?_
            rw [a3]
            refine b_caload rfl (by first | rfl | assumption) (by first | assumption | exact nI_toInt (by omega) | exact hi_l0 | exact hi_l1 | exact hi_l2 | exact hi_l3 | exact hi_l4 | exact hi_l5 | exact hi_l6) (by omega) ?_
            rw [e2]
            refine b_bipush rfl ?_
            refine b_icmp_lt rfl (fun c_27 => ?_) (fun c_27 => ?_)
            · exact S85 I' J' ht a1 a2 (by rw [← hen]; exact a3) (by rw [← hen]; exact a6)
            · exact absurd (i97.mpr h97) c_27
        · refine b_aload_n rfl rfl ?_
          refine b_getI rfl (by first | rfl | assumption) rfl ?_
          rw [a3]
          refine b_aload_n rfl rfl ?_
          refine b_getI rfl (by first | rfl | assumption) rfl ?_
          rw [a1]
          refine b_icmp_ge rfl (fun c_13 => ?_) (fun c_13 => ?_)
          · exact absurd c_13 (nI_ge hp (by omega))
          · refine b_aload_n rfl rfl ?_
            refine b_getR rfl (by first | rfl | assumption) rfl (by assumption) ?_
            refine b_aload_n rfl rfl ?_
            refine b_getI rfl (by first | rfl | assumption) rfl ?_
            rw [a3]
            refine b_caload rfl (by first | rfl | assumption) (by first | assumption | exact nI_toInt (by omega) | exact hi_l0 | exact hi_l1 | exact hi_l2 | exact hi_l3 | exact hi_l4 | exact hi_l5 | exact hi_l6) (by omega) ?_
            rw [e2]
            refine b_bipush rfl ?_
            refine b_icmp_lt rfl (fun c_27 => ?_) (fun c_27 => ?_)
            · exact absurd (i97.mp c_27) h97
            · refine b_aload_n rfl rfl ?_
              refine b_getR rfl (by first | rfl | assumption) rfl (by assumption) ?_
              refine b_aload_n rfl rfl ?_
              refine b_getI rfl (by first | rfl | assumption) rfl ?_
              rw [a3]
              refine b_caload rfl (by first | rfl | assumption) (by first | assumption | exact nI_toInt (by omega) | exact hi_l0 | exact hi_l1 | exact hi_l2 | exact hi_l3 | exact hi_l4 | exact hi_l5 | exact hi_l6) (by omega) ?_
              rw [e2]
              refine b_bipush rfl ?_
              refine b_icmp_gt rfl (fun c_41 => ?_) (fun c_41 => ?_)
              · exact S85 I' J' ht a1 a2 (by rw [← hen]; exact a3) (by rw [← hen]; exact a6)
              · exact absurd (i122.mpr (by omega)) c_41
  refine b_aload_n rfl rfl ?_
  refine b_lconst rfl ?_
  refine b_putL rfl (by first | rfl | assumption) rfl rfl (fun _ => ⟨rfl, rfl⟩) ?_
  exact lr q (Nat.le_refl _) (by omega) I _ he.symm ⟨fun _ _ => rfl, fun b hb => hn_u_ne _ _ _ hb, fun _ _ => rfl, fun _ _ => rfl⟩ h1 h2 h3 (by rw [hn_u_eq, va_up, if_pos rfl, Nat.sub_self]; rfl)
end HNtoken
