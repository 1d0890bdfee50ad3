section HNmodel
variable {I : Nat → Nat → Int32} {J : Nat → Nat → Int64} {R : Nat → Nat → Option Nat}
/-- the reference's cells -/
def hs_M (R : Nat → Nat → Option Nat) : Prop :=
  R 188 1 = some 189 ∧ R 188 4 = some 190 ∧ R 188 5 = some 191 ∧ R 188 6 = some 192 ∧ R 188 9 = some 193 ∧ R 188 10 = some 194 ∧ R 188 11 = some 195 ∧ R 188 12 = some 196 ∧ R 188 14 = some 197 ∧ R 188 15 = some 198 ∧ R 188 16 = some 199 ∧ R 188 17 = some 200 ∧ R 188 20 = some 201 ∧ R 188 21 = some 202 ∧ R 188 22 = some 203 ∧ R 188 23 = some 204 ∧ R 188 25 = some 205 ∧ R 188 27 = some 206 ∧ R 188 28 = some 207 ∧ R 188 29 = some 208 ∧ R 188 30 = some 209 ∧ R 188 31 = some 210 ∧ R 188 32 = some 211
theorem nI_ad (a b : Nat) : nI (a + b) = nI a + nI b := Int32.ofNat_add a b
theorem nI_ml (a b : Nat) : nI (a * b) = nI a * nI b := Int32.ofNat_mul a b
theorem hi_ix {x : Int32} (j : Nat) (e : x = nI j) (h : j < 2147483648) : x.toInt = (j : Int) := by rw [e]; exact nI_toInt (by omega)
/-- a state of the reference, from the place b on, is this one -/
def hs_V (I : Nat → Nat → Int32) (b : Nat) (s w pl sh : Nat → Int32) : Prop :=
  b ≤ 1034 ∧ (∀ k, k < 8 → I 204 (b + 1 + k) = s k) ∧ (∀ p, p < 4 → I 204 (b + 9 + p) = w p) ∧ (∀ p, p < 4 → I 204 (b + 13 + p) = pl p) ∧ ∀ p, p < 4 → I 204 (b + 17 + p) = sh p
/-- the reference's net is this one -/
def hs_MN (I : Nat → Nat → Int32) (n np : Nat) (kd hd ag : Nat → Int32) : Prop :=
  I 194 0 = nI n ∧ n ≤ 8 ∧ I 194 3 = nI np ∧ np ≤ 4 ∧ ∀ k, k < n → I 194 (5 + 4 * k) = kd k ∧ I 194 (6 + 4 * k) = hd k ∧ I 194 (8 + 4 * k) = ag k
/-- a number within -/
abbrev sp_in (x : Int32) (n : Nat) : Prop := 0 ≤ x.toInt ∧ x.toInt < (n : Int)
theorem q_M_knots {n : Nat} (hM : hs_M R) (hn : I 194 0 = nI n) : hn_F 0 hm_M_knots [.ref 188] (I, J, R) (fun r D' => D' = (I, J, R) ∧ r = some (.int (nI n))) := by
  obtain ⟨m1, m4, m5, m6, m9, m10, m11, m12, m14, m15, m16, m17, m20, m21, m22, m23, m25, m27, m28, m29, m30, m31, m32⟩ := hM
  refine hn_F_of _ hk_M_knots rfl (Nat.le_of_ble_eq_true rfl) ?_
  refine b_aload_n rfl rfl ?_
  refine b_getR rfl (by first | rfl | assumption) rfl (by assumption) ?_
  refine b_iconst rfl ?_
  refine b_iaload rfl (by first | rfl | assumption) (by first | assumption | exact nI_toInt (by omega) | exact hi_l0 | exact hi_l1 | exact hi_l2 | exact hi_l3 | exact hi_l4 | exact hi_l5 | exact hi_l6) (by omega) ?_
  exact b_ireturn rfl trivial (⟨rfl, by rw [hn]⟩)
theorem q_M_persons {np : Nat} (hM : hs_M R) (hn : I 194 3 = nI np) : hn_F 0 hm_M_persons [.ref 188] (I, J, R) (fun r D' => D' = (I, J, R) ∧ r = some (.int (nI np))) := by
  obtain ⟨m1, m4, m5, m6, m9, m10, m11, m12, m14, m15, m16, m17, m20, m21, m22, m23, m25, m27, m28, m29, m30, m31, m32⟩ := hM
  refine hn_F_of _ hk_M_persons rfl (Nat.le_of_ble_eq_true rfl) ?_
  refine b_aload_n rfl rfl ?_
  refine b_getR rfl (by first | rfl | assumption) rfl (by assumption) ?_
  refine b_iconst rfl ?_
  refine b_iaload rfl (by first | rfl | assumption) (by first | assumption | exact nI_toInt (by omega) | exact hi_l0 | exact hi_l1 | exact hi_l2 | exact hi_l3 | exact hi_l4 | exact hi_l5 | exact hi_l6) (by omega) ?_
  exact b_ireturn rfl trivial (⟨rfl, by rw [hn]⟩)
theorem q_M_knotOf {k w : Nat} {x : Int32} (hM : hs_M R) (hk : k < 8) (hx : x = nI w) (hw : w < 4) : hn_F 0 hm_M_knotOf [.ref 188, .int (nI k), .int x] (I, J, R) (fun r D' => D' = (I, J, R) ∧ r = some (.int (I 194 (5 + 4 * k + w)))) := by
  obtain ⟨m1, m4, m5, m6, m9, m10, m11, m12, m14, m15, m16, m17, m20, m21, m22, m23, m25, m27, m28, m29, m30, m31, m32⟩ := hM
  refine hn_F_of _ hk_M_knotOf rfl (Nat.le_of_ble_eq_true rfl) ?_
  refine b_aload_n rfl rfl ?_
  refine b_getR rfl (by first | rfl | assumption) rfl (by assumption) ?_
  refine b_iconst rfl ?_
  refine b_iconst rfl ?_
  refine b_iload_n rfl rfl ?_
  refine b_imul rfl ?_
  refine b_iadd rfl ?_
  refine b_iload_n rfl rfl ?_
  refine b_iadd rfl ?_
  refine b_iaload rfl (by first | rfl | assumption) (hi_ix (5 + 4 * k + w) (by rw [nI_ad, nI_ad, nI_ml, hx]; rfl) (by omega)) (by omega) ?_
  exact b_ireturn rfl trivial (⟨rfl, rfl⟩)
theorem q_M_isKnot {n : Nat} {x : Int32} (hM : hs_M R) (hn : I 194 0 = nI n) (hn8 : n ≤ 8) : hn_F 1 hm_M_isKnot [.ref 188, .int x] (I, J, R) (fun r D' => D' = (I, J, R) ∧ r = some (.int (if sp_in x n then 1 else 0))) := by
  have e1 := hi_lt (x := x) (y := 0) rfl hi_t0
  have e2 := hi_le (x := nI n) (y := x) (nI_toInt (by omega)) rfl
  refine hn_F_of _ hk_M_isKnot rfl (Nat.le_of_ble_eq_true rfl) ?_
  refine b_iload_n rfl rfl ?_
  refine b_if_lt rfl (fun c_1 => ?_) (fun c_1 => ?_)
  · refine b_iconst rfl ?_
    exact b_ireturn rfl (by first | exact Or.inl rfl | exact Or.inr rfl | exact trivial) (⟨rfl, by first | rw [if_neg (fun z => by have := e1.mp c_1; omega)] | rw [if_neg (fun z => by have := e2.mp c_9; omega)] | rw [if_pos ⟨by have := mt e1.mpr c_1; omega, by have := mt e2.mpr c_9; omega⟩]⟩)
  · refine b_iload_n rfl rfl ?_
    refine b_aload_n rfl rfl ?_
    refine b_callV rfl rfl hk_M_knots rfl rfl rfl (by first | rfl | assumption) rfl (Nat.le_of_ble_eq_true rfl) (q_M_knots hM hn) (Nat.le_of_ble_eq_true rfl) (fun r_6 D_6 q_6 => ?_)
    obtain ⟨rfl, rfl⟩ := q_6
    refine b_icmp_ge rfl (fun c_9 => ?_) (fun c_9 => ?_)
    · refine b_iconst rfl ?_
      exact b_ireturn rfl (by first | exact Or.inl rfl | exact Or.inr rfl | exact trivial) (⟨rfl, by first | rw [if_neg (fun z => by have := e1.mp c_1; omega)] | rw [if_neg (fun z => by have := e2.mp c_9; omega)] | rw [if_pos ⟨by have := mt e1.mpr c_1; omega, by have := mt e2.mpr c_9; omega⟩]⟩)
    · refine b_iconst rfl ?_
      refine b_goto rfl ?_
      exact b_ireturn rfl (by first | exact Or.inl rfl | exact Or.inr rfl | exact trivial) (⟨rfl, by first | rw [if_neg (fun z => by have := e1.mp c_1; omega)] | rw [if_neg (fun z => by have := e2.mp c_9; omega)] | rw [if_pos ⟨by have := mt e1.mpr c_1; omega, by have := mt e2.mpr c_9; omega⟩]⟩)
theorem q_M_isPerson {n : Nat} {x : Int32} (hM : hs_M R) (hn : I 194 3 = nI n) (hn8 : n ≤ 4) : hn_F 1 hm_M_isPerson [.ref 188, .int x] (I, J, R) (fun r D' => D' = (I, J, R) ∧ r = some (.int (if sp_in x n then 1 else 0))) := by
  have e1 := hi_lt (x := x) (y := 0) rfl hi_t0
  have e2 := hi_le (x := nI n) (y := x) (nI_toInt (by omega)) rfl
  refine hn_F_of _ hk_M_isPerson rfl (Nat.le_of_ble_eq_true rfl) ?_
  refine b_iload_n rfl rfl ?_
  refine b_if_lt rfl (fun c_1 => ?_) (fun c_1 => ?_)
  · refine b_iconst rfl ?_
    exact b_ireturn rfl (by first | exact Or.inl rfl | exact Or.inr rfl | exact trivial) (⟨rfl, by first | rw [if_neg (fun z => by have := e1.mp c_1; omega)] | rw [if_neg (fun z => by have := e2.mp c_9; omega)] | rw [if_pos ⟨by have := mt e1.mpr c_1; omega, by have := mt e2.mpr c_9; omega⟩]⟩)
  · refine b_iload_n rfl rfl ?_
    refine b_aload_n rfl rfl ?_
    refine b_callV rfl rfl hk_M_persons rfl rfl rfl (by first | rfl | assumption) rfl (Nat.le_of_ble_eq_true rfl) (q_M_persons hM hn) (Nat.le_of_ble_eq_true rfl) (fun r_6 D_6 q_6 => ?_)
    obtain ⟨rfl, rfl⟩ := q_6
    refine b_icmp_ge rfl (fun c_9 => ?_) (fun c_9 => ?_)
    · refine b_iconst rfl ?_
      exact b_ireturn rfl (by first | exact Or.inl rfl | exact Or.inr rfl | exact trivial) (⟨rfl, by first | rw [if_neg (fun z => by have := e1.mp c_1; omega)] | rw [if_neg (fun z => by have := e2.mp c_9; omega)] | rw [if_pos ⟨by have := mt e1.mpr c_1; omega, by have := mt e2.mpr c_9; omega⟩]⟩)
    · refine b_iconst rfl ?_
      refine b_goto rfl ?_
      exact b_ireturn rfl (by first | exact Or.inl rfl | exact Or.inr rfl | exact trivial) (⟨rfl, by first | rw [if_neg (fun z => by have := e1.mp c_1; omega)] | rw [if_neg (fun z => by have := e2.mp c_9; omega)] | rw [if_pos ⟨by have := mt e1.mpr c_1; omega, by have := mt e2.mpr c_9; omega⟩]⟩)
theorem q_M_within {x lo hi : Int32} : hn_F 0 hm_M_within [.int x, .int lo, .int hi] (I, J, R) (fun r D' => D' = (I, J, R) ∧ r = some (.int (if lo.toInt ≤ x.toInt ∧ x.toInt ≤ hi.toInt then 1 else 0))) := by
  have e1 := hi_lt (x := x) (y := lo) rfl rfl
  have e2 := hi_lt (x := hi) (y := x) rfl rfl
  refine hn_F_of _ hk_M_within rfl (Nat.le_of_ble_eq_true rfl) ?_
  refine b_iload_n rfl rfl ?_
  refine b_iload_n rfl rfl ?_
  refine b_icmp_lt rfl (fun c_2 => ?_) (fun c_2 => ?_)
  · refine b_iconst rfl ?_
    exact b_ireturn rfl (by first | exact Or.inl rfl | exact Or.inr rfl | exact trivial) (⟨rfl, by first | rw [if_neg (fun z => by have := e1.mp c_2; omega)] | rw [if_neg (fun z => by have := e2.mp c_7; omega)] | rw [if_pos ⟨by have := mt e1.mpr c_2; omega, by have := mt e2.mpr c_7; omega⟩]⟩)
  · refine b_iload_n rfl rfl ?_
    refine b_iload_n rfl rfl ?_
    refine b_icmp_gt rfl (fun c_7 => ?_) (fun c_7 => ?_)
    · refine b_iconst rfl ?_
      exact b_ireturn rfl (by first | exact Or.inl rfl | exact Or.inr rfl | exact trivial) (⟨rfl, by first | rw [if_neg (fun z => by have := e1.mp c_2; omega)] | rw [if_neg (fun z => by have := e2.mp c_7; omega)] | rw [if_pos ⟨by have := mt e1.mpr c_2; omega, by have := mt e2.mpr c_7; omega⟩]⟩)
    · refine b_iconst rfl ?_
      refine b_goto rfl ?_
      exact b_ireturn rfl (by first | exact Or.inl rfl | exact Or.inr rfl | exact trivial) (⟨rfl, by first | rw [if_neg (fun z => by have := e1.mp c_2; omega)] | rw [if_neg (fun z => by have := e2.mp c_7; omega)] | rw [if_pos ⟨by have := mt e1.mpr c_2; omega, by have := mt e2.mpr c_7; omega⟩]⟩)
theorem nI_30 : nI 30 = 30 := by decide
theorem q_M_bits {x : Int32} : hn_F 0 hm_M_bits [.int x] (I, J, R) (fun r D' => D' = (I, J, R) ∧ r = some (.int (sp_pop x))) := by
  refine hn_F_of _ hk_M_bits rfl (Nat.le_of_ble_eq_true rfl) ?_
  refine b_iconst rfl ?_
  refine b_istore_n rfl (Nat.le_of_ble_eq_true rfl) ?_
  refine b_iconst rfl ?_
  refine b_istore_n rfl (Nat.le_of_ble_eq_true rfl) ?_
  refine b_eq (sp_ind 30 (fun k => hn_B 0 hm_M_bits _ 4 [.int x, .int (sp_up (fun i n => n + ((x >>> (nI i &&& 31)) &&& 1)) 0 k), .int (nI k)] [] (I, J, R)) ?_ ?_) (by rw [nI_0]; rfl) rfl rfl
  · refine b_iload_n rfl rfl ?_
    refine b_bipush rfl ?_
    refine b_icmp_ge rfl (fun c_7 => ?_) (fun c_7 => ?_)
    · refine b_iload_n rfl rfl ?_
      exact b_ireturn rfl trivial (⟨rfl, rfl⟩)
    · exact absurd (by rw [← nI_30]; exact nI_le (Nat.le_refl _) (by omega)) c_7
  · intro p hp ih
    refine b_iload_n rfl rfl ?_
    refine b_bipush rfl ?_
    refine b_icmp_ge rfl (fun c_7 => ?_) (fun c_7 => ?_)
    · exact absurd (by rw [nI_30]; exact c_7) (nI_ge hp (by omega))
    · refine b_iload_n rfl rfl ?_
      refine b_iload_n rfl rfl ?_
      refine b_iload_n rfl rfl ?_
      refine b_ishr rfl ?_
      refine b_iconst rfl ?_
      refine b_iand rfl ?_
      refine b_iadd rfl ?_
      refine b_istore_n rfl (Nat.le_of_ble_eq_true rfl) ?_
      refine b_iinc rfl rfl (Nat.le_of_ble_eq_true rfl) ?_
      refine b_goto rfl ?_
      exact b_eq ih (by simp only [nI_succ, sp_up]; rfl) rfl rfl
theorem hs_lie {n : Nat} {x : Int32} (hn8 : n ≤ 8) (h : x = -1 ∨ ∃ q, q < n ∧ x = nI q) : x < 0 ↔ x = -1 := by
  rcases h with rfl | ⟨q, hq, rfl⟩
  · exact ⟨fun _ => rfl, fun _ => by decide⟩
  · constructor
    · intro z; have := (hi_lt (nI_toInt (by omega)) hi_t0).mp z; omega
    · intro z; exact absurd z (hi_ne (nI_toInt (by omega)) hi_tm1 (by omega))
theorem q_M_doesLie {b n p : Nat} {x : Int32} {s w pl sh : Nat → Int32} (hM : hs_M R) (hV : hs_V I b s w pl sh) (hn8 : n ≤ 8) (hpl : hs_pl n pl) (hp : p < 4) (hx : x = nI b) : hn_F 0 hm_M_doesLie [.ref 188, .int x, .int (nI p)] (I, J, R) (fun r D' => D' = (I, J, R) ∧ r = some (.int (if pl p = -1 then 0 else 1))) := by
  obtain ⟨m1, m4, m5, m6, m9, m10, m11, m12, m14, m15, m16, m17, m20, m21, m22, m23, m25, m27, m28, m29, m30, m31, m32⟩ := hM
  obtain ⟨hb, hVs, hVw, hVp, hVh⟩ := hV
  have hl := hs_lie hn8 (hpl p hp)
  refine hn_F_of _ hk_M_doesLie rfl (Nat.le_of_ble_eq_true rfl) ?_
  refine b_aload_n rfl rfl ?_
  refine b_getR rfl (by first | rfl | assumption) rfl (by assumption) ?_
  refine b_iload_n rfl rfl ?_
  refine b_bipush rfl ?_
  refine b_iadd rfl ?_
  refine b_iload_n rfl rfl ?_
  refine b_iadd rfl ?_
  refine b_iaload rfl (by first | rfl | assumption) (hi_ix (b + 13 + p) (by rw [nI_ad, nI_ad, hx]; rfl) (by omega)) (by omega) ?_
  rw [hVp p hp]
  refine b_if_lt rfl (fun c_11 => ?_) (fun c_11 => ?_)
  · refine b_iconst rfl ?_
    exact b_ireturn rfl (by first | exact Or.inl rfl | exact Or.inr rfl | exact trivial) (⟨rfl, by first | rw [if_pos (hl.mp c_11)] | rw [if_neg (fun z => c_11 (hl.mpr z))]⟩)
  · refine b_iconst rfl ?_
    refine b_goto rfl ?_
    exact b_ireturn rfl (by first | exact Or.inl rfl | exact Or.inr rfl | exact trivial) (⟨rfl, by first | rw [if_pos (hl.mp c_11)] | rw [if_neg (fun z => c_11 (hl.mpr z))]⟩)
theorem q_M_isAwake {b n p : Nat} {x : Int32} {s w pl sh : Nat → Int32} (hM : hs_M R) (hV : hs_V I b s w pl sh) (hn8 : n ≤ 8) (hpl : hs_pl n pl) (hp : p < 4) (hx : x = nI b) : hn_F 1 hm_M_isAwake [.ref 188, .int x, .int (nI p)] (I, J, R) (fun r D' => D' = (I, J, R) ∧ r = some (.int (if sp_awk w pl p then 1 else 0))) := by
  have hM0 := hM
  have hV0 := hV
  obtain ⟨m1, m4, m5, m6, m9, m10, m11, m12, m14, m15, m16, m17, m20, m21, m22, m23, m25, m27, m28, m29, m30, m31, m32⟩ := hM
  obtain ⟨hb, hVs, hVw, hVp, hVh⟩ := hV
  refine hn_F_of _ hk_M_isAwake rfl (Nat.le_of_ble_eq_true rfl) ?_
  by_cases h1 : pl p = -1
  · refine b_aload_n rfl rfl ?_
    refine b_iload_n rfl rfl ?_
    refine b_iload_n rfl rfl ?_
    refine b_callV rfl rfl hk_M_doesLie rfl rfl rfl (by first | rfl | assumption) rfl (Nat.le_of_ble_eq_true rfl) (q_M_doesLie hM0 hV0 hn8 hpl hp hx) (Nat.le_of_ble_eq_true rfl) (fun r_3 D_3 q_3 => ?_)
    obtain ⟨rfl, hq⟩ := q_3
    rw [if_pos h1] at hq
    subst hq
    refine b_if_eq rfl (fun c_6 => ?_) (fun c_6 => ?_)
    · refine b_iconst rfl ?_
      exact b_ireturn rfl (by first | exact Or.inl rfl | exact Or.inr rfl | exact trivial) (⟨rfl, by rw [if_neg (fun z => z.1 h1)]⟩)
    · exact absurd rfl c_6
  · refine b_aload_n rfl rfl ?_
    refine b_iload_n rfl rfl ?_
    refine b_iload_n rfl rfl ?_
    refine b_callV rfl rfl hk_M_doesLie rfl rfl rfl (by first | rfl | assumption) rfl (Nat.le_of_ble_eq_true rfl) (q_M_doesLie hM0 hV0 hn8 hpl hp hx) (Nat.le_of_ble_eq_true rfl) (fun r_3 D_3 q_3 => ?_)
    obtain ⟨rfl, hq⟩ := q_3
    rw [if_neg h1] at hq
    subst hq
    refine b_if_eq rfl (fun c_6 => ?_) (fun c_6 => ?_)
    · exact absurd c_6 (by decide)
    · refine b_aload_n rfl rfl ?_
      refine b_getR rfl (by first | rfl | assumption) rfl (by assumption) ?_
      refine b_iload_n rfl rfl ?_
      refine b_bipush rfl ?_
      refine b_iadd rfl ?_
      refine b_iload_n rfl rfl ?_
      refine b_iadd rfl ?_
      refine b_iaload rfl (by first | rfl | assumption) (hi_ix (b + 9 + p) (by rw [nI_ad, nI_ad, hx]; rfl) (by omega)) (by omega) ?_
      rw [hVw p hp]
      refine b_if_le rfl (fun c_20 => ?_) (fun c_20 => ?_)
      · refine b_iconst rfl ?_
        exact b_ireturn rfl (by first | exact Or.inl rfl | exact Or.inr rfl | exact trivial) (⟨rfl, by first | rw [if_neg (fun z => Int32.not_lt.mpr c_20 z.2)] | rw [if_pos ⟨h1, Int32.not_le.mp c_20⟩]⟩)
      · refine b_iconst rfl ?_
        refine b_goto rfl ?_
        exact b_ireturn rfl (by first | exact Or.inl rfl | exact Or.inr rfl | exact trivial) (⟨rfl, by first | rw [if_neg (fun z => Int32.not_lt.mpr c_20 z.2)] | rw [if_pos ⟨h1, Int32.not_le.mp c_20⟩]⟩)
theorem q_M_lyingAt {b np : Nat} {x k : Int32} {s w pl sh : Nat → Int32} (hM : hs_M R) (hV : hs_V I b s w pl sh) (hnp : I 194 3 = nI np) (hn4 : np ≤ 4) (hx : x = nI b) : hn_F 1 hm_M_lyingAt [.ref 188, .int x, .int k] (I, J, R) (fun r D' => D' = (I, J, R) ∧ r = some (.int (sp_lyingAt pl k np))) := by
  have hM0 := hM
  have hV0 := hV
  obtain ⟨m1, m4, m5, m6, m9, m10, m11, m12, m14, m15, m16, m17, m20, m21, m22, m23, m25, m27, m28, m29, m30, m31, m32⟩ := hM
  obtain ⟨hb, hVs, hVw, hVp, hVh⟩ := hV
  refine hn_F_of _ hk_M_lyingAt rfl (Nat.le_of_ble_eq_true rfl) ?_
  refine b_iconst rfl ?_
  refine b_istore_n rfl (Nat.le_of_ble_eq_true rfl) ?_
  refine b_iconst rfl ?_
  refine b_istore rfl (Nat.le_of_ble_eq_true rfl) ?_
  refine b_eq (sp_ind np (fun p => hn_B 1 hm_M_lyingAt _ 5 [.ref 188, .int x, .int k, .int (sp_lyingAt pl k p), .int (nI p)] [] (I, J, R)) ?_ ?_) (by rw [nI_0]; rfl) rfl rfl
  · refine b_iload rfl rfl ?_
    refine b_aload_n rfl rfl ?_
    refine b_callV rfl rfl hk_M_persons rfl rfl rfl (by first | rfl | assumption) rfl (Nat.le_of_ble_eq_true rfl) (q_M_persons hM0 hnp) (Nat.le_of_ble_eq_true rfl) (fun r_8 D_8 q_8 => ?_)
    obtain ⟨rfl, rfl⟩ := q_8
    refine b_icmp_ge rfl (fun c_11 => ?_) (fun c_11 => ?_)
    · refine b_iload_n rfl rfl ?_
      exact b_ireturn rfl trivial (⟨rfl, rfl⟩)
    · exact absurd (nI_le (Nat.le_refl _) (by omega)) c_11
  · intro p hp ih
    refine b_iload rfl rfl ?_
    refine b_aload_n rfl rfl ?_
    refine b_callV rfl rfl hk_M_persons rfl rfl rfl (by first | rfl | assumption) rfl (Nat.le_of_ble_eq_true rfl) (q_M_persons hM0 hnp) (Nat.le_of_ble_eq_true rfl) (fun r_8 D_8 q_8 => ?_)
    obtain ⟨rfl, rfl⟩ := q_8
    refine b_icmp_ge rfl (fun c_11 => ?_) (fun c_11 => ?_)
    · exact absurd c_11 (nI_ge hp (by omega))
    · refine b_iload_n rfl rfl ?_
      refine b_aload_n rfl rfl ?_
      refine b_getR rfl (by first | rfl | assumption) rfl (by assumption) ?_
      refine b_iload_n rfl rfl ?_
      refine b_bipush rfl ?_
      refine b_iadd rfl ?_
      refine b_iload rfl rfl ?_
      refine b_iadd rfl ?_
      refine b_iaload rfl (by first | rfl | assumption) (hi_ix (b + 13 + p) (by rw [nI_ad, nI_ad, hx]; rfl) (by omega)) (by omega) ?_
      rw [hVp p (by omega)]
      refine b_iload_n rfl rfl ?_
      refine b_icmp_ne rfl (fun c_28 => ?_) (fun c_28 => ?_)
      · refine b_iconst rfl ?_
        refine b_ior rfl ?_
        refine b_istore_n rfl (Nat.le_of_ble_eq_true rfl) ?_
        refine b_iinc rfl rfl (Nat.le_of_ble_eq_true rfl) ?_
        refine b_goto rfl ?_
        exact b_eq ih (by simp only [nI_succ, sp_lyingAt, sp_up, c_28, if_true, if_false, Int32.or_zero]; rfl) rfl rfl
      · refine b_iconst rfl ?_
        refine b_iload rfl rfl ?_
        refine b_ishl rfl ?_
        refine b_goto rfl ?_
        refine b_ior rfl ?_
        refine b_istore_n rfl (Nat.le_of_ble_eq_true rfl) ?_
        refine b_iinc rfl rfl (Nat.le_of_ble_eq_true rfl) ?_
        refine b_goto rfl ?_
        exact b_eq ih (by simp only [nI_succ, sp_lyingAt, sp_up, c_28, if_true, if_false, Int32.or_zero]; rfl) rfl rfl
theorem q_M_awake {b n np : Nat} {x : Int32} {s w pl sh : Nat → Int32} (hM : hs_M R) (hV : hs_V I b s w pl sh) (hn8 : n ≤ 8) (hpl : hs_pl n pl) (hnp : I 194 3 = nI np) (hn4 : np ≤ 4) (hx : x = nI b) : hn_F 2 hm_M_awake [.ref 188, .int x] (I, J, R) (fun r D' => D' = (I, J, R) ∧ r = some (.int (sp_awake w pl np))) := by
  refine hn_F_of _ hk_M_awake rfl (Nat.le_of_ble_eq_true rfl) ?_
  refine b_iconst rfl ?_
  refine b_istore_n rfl (Nat.le_of_ble_eq_true rfl) ?_
  refine b_iconst rfl ?_
  refine b_istore_n rfl (Nat.le_of_ble_eq_true rfl) ?_
  refine b_eq (sp_ind np (fun p => hn_B 2 hm_M_awake _ 4 [.ref 188, .int x, .int (sp_awake w pl p), .int (nI p)] [] (I, J, R)) ?_ ?_) (by rw [nI_0]; rfl) rfl rfl
  · refine b_iload_n rfl rfl ?_
    refine b_aload_n rfl rfl ?_
    refine b_callV rfl rfl hk_M_persons rfl rfl rfl (by first | rfl | assumption) rfl (Nat.le_of_ble_eq_true rfl) (q_M_persons hM hnp) (Nat.le_of_ble_eq_true rfl) (fun r_6 D_6 q_6 => ?_)
    obtain ⟨rfl, rfl⟩ := q_6
    refine b_icmp_ge rfl (fun c_9 => ?_) (fun c_9 => ?_)
    · refine b_iload_n rfl rfl ?_
      exact b_ireturn rfl trivial (⟨rfl, rfl⟩)
    · exact absurd (nI_le (Nat.le_refl _) (by omega)) c_9
  · intro p hp ih
    refine b_iload_n rfl rfl ?_
    refine b_aload_n rfl rfl ?_
    refine b_callV rfl rfl hk_M_persons rfl rfl rfl (by first | rfl | assumption) rfl (Nat.le_of_ble_eq_true rfl) (q_M_persons hM hnp) (Nat.le_of_ble_eq_true rfl) (fun r_6 D_6 q_6 => ?_)
    obtain ⟨rfl, rfl⟩ := q_6
    refine b_icmp_ge rfl (fun c_9 => ?_) (fun c_9 => ?_)
    · exact absurd c_9 (nI_ge hp (by omega))
    · refine b_iload_n rfl rfl ?_
      refine b_aload_n rfl rfl ?_
      refine b_iload_n rfl rfl ?_
      refine b_iload_n rfl rfl ?_
      refine b_callV rfl rfl hk_M_isAwake rfl rfl rfl (by first | rfl | assumption) rfl (Nat.le_of_ble_eq_true rfl) (q_M_isAwake hM hV hn8 hpl (show p < 4 by omega) hx) (Nat.le_of_ble_eq_true rfl) (fun r_16 D_16 q_16 => ?_)
      obtain ⟨rfl, rfl⟩ := q_16
      refine b_if_eq rfl (fun c_19 => ?_) (fun c_19 => ?_)
      · refine b_iconst rfl ?_
        refine b_ior rfl ?_
        refine b_istore_n rfl (Nat.le_of_ble_eq_true rfl) ?_
        refine b_iinc rfl rfl (Nat.le_of_ble_eq_true rfl) ?_
        refine b_goto rfl ?_
        exact b_eq ih (by have h1 := c_19; rw [if01_z] at h1; first | (simp only [nI_succ, sp_awake, sp_up, if_neg h1, Int32.or_zero]; rfl) | (simp only [nI_succ, sp_awake, sp_up, if_pos (Decidable.not_not.mp h1)]; rfl)) rfl rfl
      · refine b_iconst rfl ?_
        refine b_iload_n rfl rfl ?_
        refine b_ishl rfl ?_
        refine b_goto rfl ?_
        refine b_ior rfl ?_
        refine b_istore_n rfl (Nat.le_of_ble_eq_true rfl) ?_
        refine b_iinc rfl rfl (Nat.le_of_ble_eq_true rfl) ?_
        refine b_goto rfl ?_
        exact b_eq ih (by have h1 := c_19; rw [if01_z] at h1; first | (simp only [nI_succ, sp_awake, sp_up, if_neg h1, Int32.or_zero]; rfl) | (simp only [nI_succ, sp_awake, sp_up, if_pos (Decidable.not_not.mp h1)]; rfl)) rfl rfl
theorem q_M_willOfAll {b np : Nat} {x : Int32} {s w pl sh : Nat → Int32} (hM : hs_M R) (hV : hs_V I b s w pl sh) (hnp : I 194 3 = nI np) (hn4 : np ≤ 4) (hx : x = nI b) : hn_F 1 hm_M_willOfAll [.ref 188, .int x] (I, J, R) (fun r D' => D' = (I, J, R) ∧ r = some (.int (sp_wills w np))) := by
  have hM0 := hM
  obtain ⟨m1, m4, m5, m6, m9, m10, m11, m12, m14, m15, m16, m17, m20, m21, m22, m23, m25, m27, m28, m29, m30, m31, m32⟩ := hM
  obtain ⟨hb, hVs, hVw, hVp, hVh⟩ := hV
  refine hn_F_of _ hk_M_willOfAll rfl (Nat.le_of_ble_eq_true rfl) ?_
  refine b_iconst rfl ?_
  refine b_istore_n rfl (Nat.le_of_ble_eq_true rfl) ?_
  refine b_iconst rfl ?_
  refine b_istore_n rfl (Nat.le_of_ble_eq_true rfl) ?_
  refine b_eq (sp_ind np (fun p => hn_B 1 hm_M_willOfAll _ 4 [.ref 188, .int x, .int (sp_wills w p), .int (nI p)] [] (I, J, R)) ?_ ?_) (by rw [nI_0]; rfl) rfl rfl
  · refine b_iload_n rfl rfl ?_
    refine b_aload_n rfl rfl ?_
    refine b_callV rfl rfl hk_M_persons rfl rfl rfl (by first | rfl | assumption) rfl (Nat.le_of_ble_eq_true rfl) (q_M_persons hM0 hnp) (Nat.le_of_ble_eq_true rfl) (fun r_6 D_6 q_6 => ?_)
    obtain ⟨rfl, rfl⟩ := q_6
    refine b_icmp_ge rfl (fun c_9 => ?_) (fun c_9 => ?_)
    · refine b_iload_n rfl rfl ?_
      exact b_ireturn rfl trivial (⟨rfl, rfl⟩)
    · exact absurd (nI_le (Nat.le_refl _) (by omega)) c_9
  · intro p hp ih
    refine b_iload_n rfl rfl ?_
    refine b_aload_n rfl rfl ?_
    refine b_callV rfl rfl hk_M_persons rfl rfl rfl (by first | rfl | assumption) rfl (Nat.le_of_ble_eq_true rfl) (q_M_persons hM0 hnp) (Nat.le_of_ble_eq_true rfl) (fun r_6 D_6 q_6 => ?_)
    obtain ⟨rfl, rfl⟩ := q_6
    refine b_icmp_ge rfl (fun c_9 => ?_) (fun c_9 => ?_)
    · exact absurd c_9 (nI_ge hp (by omega))
    · refine b_iload_n rfl rfl ?_
      refine b_aload_n rfl rfl ?_
      refine b_getR rfl (by first | rfl | assumption) rfl (by assumption) ?_
      refine b_iload_n rfl rfl ?_
      refine b_bipush rfl ?_
      refine b_iadd rfl ?_
      refine b_iload_n rfl rfl ?_
      refine b_iadd rfl ?_
      refine b_iaload rfl (by first | rfl | assumption) (hi_ix (b + 9 + p) (by rw [nI_ad, nI_ad, hx]; rfl) (by omega)) (by omega) ?_
      rw [hVw p (by omega)]
      refine b_iadd rfl ?_
      refine b_istore_n rfl (Nat.le_of_ble_eq_true rfl) ?_
      refine b_iinc rfl rfl (Nat.le_of_ble_eq_true rfl) ?_
      refine b_goto rfl ?_
      exact b_eq ih (by simp only [nI_succ, sp_wills, sp_up]; rfl) rfl rfl
/-- who lies somewhere, both ways -/
def sp_lyingM (pl : Nat → Int32) (np : Nat) : Int32 := sp_up (fun p s => if pl p = -1 then s else s ||| ((1 : Int32) <<< (nI p &&& 31))) 0 np
theorem sp_lying_eq (pl : Nat → Int32) (np : Nat) (h : np ≤ 4) : sp_lyingM pl np = sp_lying pl np := by
  have key : ∀ b0 b1 b2 b3 : Bool, ∀ n : Fin 5, sp_up (fun p s => if (if p = 0 then b0 else if p = 1 then b1 else if p = 2 then b2 else b3) = true then s else s ||| ((1 : Int32) <<< (nI p &&& 31))) (0 : Int32) n = (((1 : Int32) <<< (nI n &&& 31)) - 1) &&& (sp_up (fun p s => if (if p = 0 then b0 else if p = 1 then b1 else if p = 2 then b2 else b3) = true then s ||| ((1 : Int32) <<< (nI p &&& 31)) else s) (0 : Int32) n ^^^ -1) := by decide +kernel
  have h2 := key (decide (pl 0 = -1)) (decide (pl 1 = -1)) (decide (pl 2 = -1)) (decide (pl 3 = -1)) ⟨np, by omega⟩
  have e1 : sp_lyingM pl np = sp_up (fun p s => if (if p = 0 then decide (pl 0 = -1) else if p = 1 then decide (pl 1 = -1) else if p = 2 then decide (pl 2 = -1) else decide (pl 3 = -1)) = true then s else s ||| ((1 : Int32) <<< (nI p &&& 31))) (0 : Int32) np := by
    unfold sp_lyingM
    refine sp_up_congr (fun p s hp => ?_)
    rcases (show p = 0 ∨ p = 1 ∨ p = 2 ∨ p = 3 by omega) with rfl | rfl | rfl | rfl <;> simp
  have e2 : sp_lyingAt pl (-1) np = sp_up (fun p s => if (if p = 0 then decide (pl 0 = -1) else if p = 1 then decide (pl 1 = -1) else if p = 2 then decide (pl 2 = -1) else decide (pl 3 = -1)) = true then s ||| ((1 : Int32) <<< (nI p &&& 31)) else s) (0 : Int32) np := by
    unfold sp_lyingAt
    refine sp_up_congr (fun p s hp => ?_)
    rcases (show p = 0 ∨ p = 1 ∨ p = 2 ∨ p = 3 by omega) with rfl | rfl | rfl | rfl <;> simp
  rw [e1, h2, sp_lying, e2]
theorem q_M_lying {b n np : Nat} {x : Int32} {s w pl sh : Nat → Int32} (hM : hs_M R) (hV : hs_V I b s w pl sh) (hn8 : n ≤ 8) (hpl : hs_pl n pl) (hnp : I 194 3 = nI np) (hn4 : np ≤ 4) (hx : x = nI b) : hn_F 2 hm_M_lying [.ref 188, .int x] (I, J, R) (fun r D' => D' = (I, J, R) ∧ r = some (.int (sp_lying pl np))) := by
  refine hn_F_of _ hk_M_lying rfl (Nat.le_of_ble_eq_true rfl) ?_
  rw [← sp_lying_eq pl np hn4]
  refine b_iconst rfl ?_
  refine b_istore_n rfl (Nat.le_of_ble_eq_true rfl) ?_
  refine b_iconst rfl ?_
  refine b_istore_n rfl (Nat.le_of_ble_eq_true rfl) ?_
  refine b_eq (sp_ind np (fun p => hn_B 2 hm_M_lying _ 4 [.ref 188, .int x, .int (sp_lyingM pl p), .int (nI p)] [] (I, J, R)) ?_ ?_) (by rw [nI_0]; rfl) rfl rfl
  · refine b_iload_n rfl rfl ?_
    refine b_aload_n rfl rfl ?_
    refine b_callV rfl rfl hk_M_persons rfl rfl rfl (by first | rfl | assumption) rfl (Nat.le_of_ble_eq_true rfl) (q_M_persons hM hnp) (Nat.le_of_ble_eq_true rfl) (fun r_6 D_6 q_6 => ?_)
    obtain ⟨rfl, rfl⟩ := q_6
    refine b_icmp_ge rfl (fun c_9 => ?_) (fun c_9 => ?_)
    · refine b_iload_n rfl rfl ?_
      exact b_ireturn rfl trivial (⟨rfl, rfl⟩)
    · exact absurd (nI_le (Nat.le_refl _) (by omega)) c_9
  · intro p hp ih
    by_cases h1 : pl p = -1
    · refine b_iload_n rfl rfl ?_
      refine b_aload_n rfl rfl ?_
      refine b_callV rfl rfl hk_M_persons rfl rfl rfl (by first | rfl | assumption) rfl (Nat.le_of_ble_eq_true rfl) (q_M_persons hM hnp) (Nat.le_of_ble_eq_true rfl) (fun r_6 D_6 q_6 => ?_)
      obtain ⟨rfl, rfl⟩ := q_6
      refine b_icmp_ge rfl (fun c_9 => ?_) (fun c_9 => ?_)
      · exact absurd c_9 (nI_ge hp (by omega))
      · refine b_iload_n rfl rfl ?_
        refine b_aload_n rfl rfl ?_
        refine b_iload_n rfl rfl ?_
        refine b_iload_n rfl rfl ?_
        refine b_callV rfl rfl hk_M_doesLie rfl rfl rfl (by first | rfl | assumption) rfl (Nat.le_of_ble_eq_true rfl) (q_M_doesLie hM hV hn8 hpl (show p < 4 by omega) hx) (Nat.le_of_ble_eq_true rfl) (fun r_16 D_16 q_16 => ?_)
        obtain ⟨rfl, hq⟩ := q_16
        rw [if_pos h1] at hq
        subst hq
        refine b_if_eq rfl (fun c_19 => ?_) (fun c_19 => ?_)
        · refine b_iconst rfl ?_
          refine b_ior rfl ?_
          refine b_istore_n rfl (Nat.le_of_ble_eq_true rfl) ?_
          refine b_iinc rfl rfl (Nat.le_of_ble_eq_true rfl) ?_
          refine b_goto rfl ?_
          exact b_eq ih (by simp only [nI_succ, sp_lyingM, sp_up, if_pos h1, Int32.or_zero]; rfl) rfl rfl
        · exact absurd rfl c_19
    · refine b_iload_n rfl rfl ?_
      refine b_aload_n rfl rfl ?_
      refine b_callV rfl rfl hk_M_persons rfl rfl rfl (by first | rfl | assumption) rfl (Nat.le_of_ble_eq_true rfl) (q_M_persons hM hnp) (Nat.le_of_ble_eq_true rfl) (fun r_6 D_6 q_6 => ?_)
      obtain ⟨rfl, rfl⟩ := q_6
      refine b_icmp_ge rfl (fun c_9 => ?_) (fun c_9 => ?_)
      · exact absurd c_9 (nI_ge hp (by omega))
      · refine b_iload_n rfl rfl ?_
        refine b_aload_n rfl rfl ?_
        refine b_iload_n rfl rfl ?_
        refine b_iload_n rfl rfl ?_
        refine b_callV rfl rfl hk_M_doesLie rfl rfl rfl (by first | rfl | assumption) rfl (Nat.le_of_ble_eq_true rfl) (q_M_doesLie hM hV hn8 hpl (show p < 4 by omega) hx) (Nat.le_of_ble_eq_true rfl) (fun r_16 D_16 q_16 => ?_)
        obtain ⟨rfl, hq⟩ := q_16
        rw [if_neg h1] at hq
        subst hq
        refine b_if_eq rfl (fun c_19 => ?_) (fun c_19 => ?_)
        · exact absurd c_19 (by decide)
        · refine b_iconst rfl ?_
          refine b_iload_n rfl rfl ?_
          refine b_ishl rfl ?_
          refine b_goto rfl ?_
          refine b_ior rfl ?_
          refine b_istore_n rfl (Nat.le_of_ble_eq_true rfl) ?_
          refine b_iinc rfl rfl (Nat.le_of_ble_eq_true rfl) ?_
          refine b_goto rfl ?_
          exact b_eq ih (by simp only [nI_succ, sp_lyingM, sp_up, if_neg h1]; rfl) rfl rfl
end HNmodel
