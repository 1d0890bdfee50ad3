section HNquest
variable {I : Nat → Nat → Int32} {J : Nat → Nat → Int64} {R : Nat → Nat → Option Nat}
/-- who is against whom: sets of knots -/
def hs_Aw (N : sp_N) : Prop := (∀ k, k < N.1 → sp_lt N.1 (nA N k)) ∧ ∀ k, N.1 ≤ k → nA N k = 0
/-- what the class knows for a question -/
def hs_A (I : Nat → Nat → Int32) (R : Nat → Nat → Option Nat) (t : Nat) (N : sp_N) (Q : sp_Q) : Prop := hs_refs R ∧ R 0 2 = some t ∧ (t = 4 ∨ t = 20) ∧ hs_Nx I t N ∧ hs_Qx I 44 N.1 N.2.1 0 Q ∧ hs_Qw N.1 N.2.1 Q ∧ hs_z I 49 ∧ hs_Aw N
/-- what the reference knows for it -/
def hs_B (I : Nat → Nat → Int32) (R : Nat → Nat → Option Nat) (N : sp_N) (Q : sp_Q) : Prop := hs_refs R ∧ hs_Nm I N ∧ hs_Qm I 0 Q ∧ I 188 26 = 0 ∧ hs_Qw N.1 N.2.1 Q ∧ hs_Aw N
/-- what a question may change: the class's -/
abbrev hs_xs (t b : Nat) : Prop := (49 ≤ b ∧ b ≤ 53) ∨ b = t + 9 ∨ b = t + 10 ∨ (179 ≤ b ∧ b ≤ 187)
def hs_sx (t : Nat) (I : Nat → Nat → Int32) (J : Nat → Nat → Int64) (R : Nat → Nat → Option Nat) (D : hnD) : Prop := D.2.2 = R ∧ (∀ b, ¬ hs_xs t b → D.1 b = I b) ∧ (∀ b, b ≠ 0 → b ≠ 184 → b ≠ 185 → D.2.1 b = J b) ∧ hs_z D.1 49
/-- .. and the reference's -/
abbrev hs_ms (b : Nat) : Prop := b = 188 ∨ b = 202 ∨ b = 203 ∨ b = 204 ∨ (206 ≤ b ∧ b ≤ 211)
def hs_sm (I : Nat → Nat → Int32) (J : Nat → Nat → Int64) (R : Nat → Nat → Option Nat) (D : hnD) : Prop := D.2.2 = R ∧ (∀ b, ¬ hs_ms b → D.1 b = I b) ∧ (∀ j, 0 < j → D.1 188 j = I 188 j) ∧ (∀ j, j < 987 → D.1 204 j = I 204 j) ∧ ∀ b, b ≠ 188 → D.2.1 b = J b
theorem hs_sx_r {t : Nat} (hz : hs_z I 49) : hs_sx t I J R (I, J, R) := ⟨rfl, fun _ _ => rfl, fun _ _ _ _ => rfl, hz⟩
theorem hs_sm_r : hs_sm I J R (I, J, R) := ⟨rfl, fun _ _ => rfl, fun _ _ => rfl, fun _ _ => rfl, fun _ _ => rfl⟩
theorem hs_sm_0 {v : Int32} : hs_sm I J R (hn_u I 188 0 v, J, R) :=
  ⟨rfl, fun b hb => hn_u_ne _ _ _ (fun e => hb (Or.inl e)), fun j hj => by show hn_u I 188 0 v 188 j = _; rw [hn_u_eq, va_up, if_neg (by omega)], fun j _ => by show hn_u I 188 0 v 204 j = _; rw [hn_u_ne _ _ _ (by omega)], fun _ _ => rfl⟩
theorem hs_B_0 {N : sp_N} {Q : sp_Q} {v : Int32} (h : hs_B I R N Q) : hs_B (hn_u I 188 0 v) R N Q := by
  have e : ∀ b, b ≠ 188 → hn_u I 188 0 v b = I b := fun b hb => hn_u_ne _ _ _ hb
  have e26 : hn_u I 188 0 v 188 26 = I 188 26 := by rw [hn_u_eq, va_up, if_neg (by omega)]
  unfold hs_B hs_Nm hs_MN hs_ML hs_Qm hs_V
  rw [e 194 (by omega), e 195 (by omega), e 196 (by omega), e 204 (by omega), e26]
  exact h
theorem hs_x0 (hR : hs_refs R) : R 0 6 = some 44 ∧ R 0 7 = some 49 ∧ R 0 8 = some 54 ∧ R 0 11 = some 135 ∧ R 0 12 = some 139 ∧ R 0 13 = some 140 ∧ R 0 14 = some 141 ∧ R 0 15 = some 178 ∧ R 0 16 = some 183 ∧ R 0 17 = some 186 ∧ R 0 18 = some 187 :=
  ⟨hR (0, 6, 44) (by decide +kernel), hR (0, 7, 49) (by decide +kernel), hR (0, 8, 54) (by decide +kernel), hR (0, 11, 135) (by decide +kernel), hR (0, 12, 139) (by decide +kernel), hR (0, 13, 140) (by decide +kernel), hR (0, 14, 141) (by decide +kernel), hR (0, 15, 178) (by decide +kernel), hR (0, 16, 183) (by decide +kernel), hR (0, 17, 186) (by decide +kernel), hR (0, 18, 187) (by decide +kernel)⟩
theorem sp_in_nat {x : Int32} {n : Nat} (h : sp_in x n) : ∃ k, k < n ∧ x = nI k := ⟨x.toInt.toNat, by have := h.1; have := h.2; omega, hi_nI (by have := h.1; omega)⟩
theorem sp_in_of {k n : Nat} (h : k < n) (hn : n ≤ 8) : sp_in (nI k) n := by
  have e : (nI k).toInt = (k : Int) := nI_toInt (by omega)
  exact ⟨by rw [e]; omega, by rw [e]; omega⟩
theorem hi_out {w : Int32} {m : Nat} (h : ∀ j, j ≤ m → w ≠ nI j) : w.toInt < 0 ∨ (m : Int) < w.toInt := by
  by_cases h1 : w.toInt < 0 ∨ (m : Int) < w.toInt
  · exact h1
  · exact absurd (hi_nI (x := w) (n := w.toInt.toNat) (by omega)) (h _ (by omega))
/-- one of n: f of it; else e -/
def sp_at (x : Int32) (n : Nat) (f : Nat → Int32) (e : Int32) : Int32 := if sp_in x n then f x.toNatClampNeg else e
theorem sp_at_in {k n : Nat} {f : Nat → Int32} {e : Int32} (h : k < n) (hn : n ≤ 8) : sp_at (nI k) n f e = f k := by
  rw [sp_at, if_pos (sp_in_of h hn), nI_clamp (by omega)]
theorem sp_at_out {x : Int32} {n : Nat} {f : Nat → Int32} {e : Int32} (h : ¬ sp_in x n) : sp_at x n f e = e := if_neg h
section
variable {t : Nat} {N : sp_N} {Q : sp_Q}
theorem q_X_isKnot {x : Int32} (hA : hs_A I R t N Q) : hn_F 0 hm_X_isKnot [.ref 0, .int x] (I, J, R) (fun r D' => D' = (I, J, R) ∧ r = some (.int (if sp_in x N.1 then 1 else 0))) := by
  obtain ⟨hR, r2, ht, hN, hX, hw, hz, hAw⟩ := hA
  have hN0 := hN
  have hX0 := hX
  have hw0 := hw
  obtain ⟨n0, n8, n4, nk, nh, na, hc, ncd⟩ := hN
  obtain ⟨x1, x2, x3, x4, x5, x6, x7⟩ := hX
  obtain ⟨r6, r7, r8, r11, r12, r13, r14, r15, r16, r17, r18⟩ := hs_x0 hR
  have hSt := hs_St_of hR (show 44 ∈ hs_sc by decide)
  have hNt := hs_Net_of hR ht
  obtain ⟨_, sk0, sk1, sk2, sk3, sk4, g0, g1, g2, g3⟩ := id hSt
  obtain ⟨tt5, tn0, tn1, tn2, tn3, tn4, tn5, tn6, tn7, tn8, tn9, tn10, ts1, ts2, ts3, ts4, ts5, ts7, ts8, tl0, tl2, tl6, tl7⟩ := id hNt
  have e1 := hi_lt (x := x) (y := 0) rfl hi_t0
  have e2 := hi_le (x := nI N.1) (y := x) (nI_toInt (by omega)) rfl
  have e3 := hi_le (x := 8) (y := x) rfl rfl
  rw [show (8 : Int32).toInt = 8 from rfl] at e3
  refine hn_F_of _ hk_X_isKnot rfl (Nat.le_of_ble_eq_true rfl) ?_
  refine b_iload_n rfl rfl ?_
  refine b_if_lt rfl (fun c_1 => ?_) (fun c_1 => ?_)
  · refine b_iconst rfl ?_
    exact b_ireturn rfl (by first | exact Or.inl rfl | exact Or.inr rfl | exact trivial) (⟨rfl, by first | rw [if_neg (fun z => by have := e1.mp c_1; omega)] | rw [if_neg (fun z => by have := e2.mp c_12; omega)] | rw [if_neg (fun z => by have := e3.mp c_18; omega)] | rw [if_pos ⟨by have := mt e1.mpr c_1; omega, by have := mt e2.mpr c_12; omega⟩]⟩)
  · refine b_iload_n rfl rfl ?_
    refine b_aload_n rfl rfl ?_
    refine b_getR rfl (by first | rfl | assumption) rfl (by assumption) ?_
    refine b_getI rfl (by first | rfl | assumption) rfl ?_
    rw [n0]
    refine b_icmp_ge rfl (fun c_12 => ?_) (fun c_12 => ?_)
    · refine b_iconst rfl ?_
      exact b_ireturn rfl (by first | exact Or.inl rfl | exact Or.inr rfl | exact trivial) (⟨rfl, by first | rw [if_neg (fun z => by have := e1.mp c_1; omega)] | rw [if_neg (fun z => by have := e2.mp c_12; omega)] | rw [if_neg (fun z => by have := e3.mp c_18; omega)] | rw [if_pos ⟨by have := mt e1.mpr c_1; omega, by have := mt e2.mpr c_12; omega⟩]⟩)
    · refine b_iload_n rfl rfl ?_
      refine b_bipush rfl ?_
      refine b_icmp_ge rfl (fun c_18 => ?_) (fun c_18 => ?_)
      · refine b_iconst rfl ?_
        exact b_ireturn rfl (by first | exact Or.inl rfl | exact Or.inr rfl | exact trivial) (⟨rfl, by first | rw [if_neg (fun z => by have := e1.mp c_1; omega)] | rw [if_neg (fun z => by have := e2.mp c_12; omega)] | rw [if_neg (fun z => by have := e3.mp c_18; omega)] | rw [if_pos ⟨by have := mt e1.mpr c_1; omega, by have := mt e2.mpr c_12; omega⟩]⟩)
      · refine b_iconst rfl ?_
        refine b_goto rfl ?_
        exact b_ireturn rfl (by first | exact Or.inl rfl | exact Or.inr rfl | exact trivial) (⟨rfl, by first | rw [if_neg (fun z => by have := e1.mp c_1; omega)] | rw [if_neg (fun z => by have := e2.mp c_12; omega)] | rw [if_neg (fun z => by have := e3.mp c_18; omega)] | rw [if_pos ⟨by have := mt e1.mpr c_1; omega, by have := mt e2.mpr c_12; omega⟩]⟩)
theorem q_X_isPerson {x : Int32} (hA : hs_A I R t N Q) : hn_F 0 hm_X_isPerson [.ref 0, .int x] (I, J, R) (fun r D' => D' = (I, J, R) ∧ r = some (.int (if sp_in x N.2.1 then 1 else 0))) := by
  obtain ⟨hR, r2, ht, hN, hX, hw, hz, hAw⟩ := hA
  have hN0 := hN
  have hX0 := hX
  have hw0 := hw
  obtain ⟨n0, n8, n4, nk, nh, na, hc, ncd⟩ := hN
  obtain ⟨x1, x2, x3, x4, x5, x6, x7⟩ := hX
  obtain ⟨r6, r7, r8, r11, r12, r13, r14, r15, r16, r17, r18⟩ := hs_x0 hR
  have hSt := hs_St_of hR (show 44 ∈ hs_sc by decide)
  have hNt := hs_Net_of hR ht
  obtain ⟨_, sk0, sk1, sk2, sk3, sk4, g0, g1, g2, g3⟩ := id hSt
  obtain ⟨tt5, tn0, tn1, tn2, tn3, tn4, tn5, tn6, tn7, tn8, tn9, tn10, ts1, ts2, ts3, ts4, ts5, ts7, ts8, tl0, tl2, tl6, tl7⟩ := id hNt
  have e1 := hi_lt (x := x) (y := 0) rfl hi_t0
  have e2 := hi_le (x := nI N.2.1) (y := x) (nI_toInt (by omega)) rfl
  have e3 := hi_le (x := 4) (y := x) rfl rfl
  rw [show (4 : Int32).toInt = 4 from rfl] at e3
  refine hn_F_of _ hk_X_isPerson rfl (Nat.le_of_ble_eq_true rfl) ?_
  refine b_iload_n rfl rfl ?_
  refine b_if_lt rfl (fun c_1 => ?_) (fun c_1 => ?_)
  · refine b_iconst rfl ?_
    exact b_ireturn rfl (by first | exact Or.inl rfl | exact Or.inr rfl | exact trivial) (⟨rfl, by first | rw [if_neg (fun z => by have := e1.mp c_1; omega)] | rw [if_neg (fun z => by have := e2.mp c_12; omega)] | rw [if_neg (fun z => by have := e3.mp c_17; omega)] | rw [if_pos ⟨by have := mt e1.mpr c_1; omega, by have := mt e2.mpr c_12; omega⟩]⟩)
  · refine b_iload_n rfl rfl ?_
    refine b_aload_n rfl rfl ?_
    refine b_getR rfl (by first | rfl | assumption) rfl (by assumption) ?_
    refine b_getI rfl (by first | rfl | assumption) rfl ?_
    rw [x5]
    refine b_icmp_ge rfl (fun c_12 => ?_) (fun c_12 => ?_)
    · refine b_iconst rfl ?_
      exact b_ireturn rfl (by first | exact Or.inl rfl | exact Or.inr rfl | exact trivial) (⟨rfl, by first | rw [if_neg (fun z => by have := e1.mp c_1; omega)] | rw [if_neg (fun z => by have := e2.mp c_12; omega)] | rw [if_neg (fun z => by have := e3.mp c_17; omega)] | rw [if_pos ⟨by have := mt e1.mpr c_1; omega, by have := mt e2.mpr c_12; omega⟩]⟩)
    · refine b_iload_n rfl rfl ?_
      refine b_iconst rfl ?_
      refine b_icmp_ge rfl (fun c_17 => ?_) (fun c_17 => ?_)
      · refine b_iconst rfl ?_
        exact b_ireturn rfl (by first | exact Or.inl rfl | exact Or.inr rfl | exact trivial) (⟨rfl, by first | rw [if_neg (fun z => by have := e1.mp c_1; omega)] | rw [if_neg (fun z => by have := e2.mp c_12; omega)] | rw [if_neg (fun z => by have := e3.mp c_17; omega)] | rw [if_pos ⟨by have := mt e1.mpr c_1; omega, by have := mt e2.mpr c_12; omega⟩]⟩)
      · refine b_iconst rfl ?_
        refine b_goto rfl ?_
        exact b_ireturn rfl (by first | exact Or.inl rfl | exact Or.inr rfl | exact trivial) (⟨rfl, by first | rw [if_neg (fun z => by have := e1.mp c_1; omega)] | rw [if_neg (fun z => by have := e2.mp c_12; omega)] | rw [if_neg (fun z => by have := e3.mp c_17; omega)] | rw [if_pos ⟨by have := mt e1.mpr c_1; omega, by have := mt e2.mpr c_12; omega⟩]⟩)
/-! what the class answers -/
def v_knot (N : sp_N) (Q : sp_Q) (x w : Int32) : Int32 := sp_at x N.1 (fun k => if w = 0 then nK N k else if w = 1 then nH N k else if w = 2 then qS Q k else if w = 3 then nA N k else if w = 4 then sp_lyingAt (qP Q) (nI k) N.2.1 else -1) (-1)
theorem q_X_knot {x w : Int32} (hA : hs_A I R t N Q) : hn_F 1 hm_X_knot [.ref 0, .int x, .int w] (I, J, R) (fun r D' => hs_sx t I J R D' ∧ r = some (.int (v_knot N Q x w))) := by
  have hA0 := hA
  obtain ⟨hR, r2, ht, hN, hX, hw, hz, hAw⟩ := hA
  have hN0 := hN
  have hX0 := hX
  have hw0 := hw
  obtain ⟨n0, n8, n4, nk, nh, na, hc, ncd⟩ := hN
  obtain ⟨x1, x2, x3, x4, x5, x6, x7⟩ := hX
  obtain ⟨r6, r7, r8, r11, r12, r13, r14, r15, r16, r17, r18⟩ := hs_x0 hR
  have hSt := hs_St_of hR (show 44 ∈ hs_sc by decide)
  have hNt := hs_Net_of hR ht
  obtain ⟨_, sk0, sk1, sk2, sk3, sk4, g0, g1, g2, g3⟩ := id hSt
  obtain ⟨tt5, tn0, tn1, tn2, tn3, tn4, tn5, tn6, tn7, tn8, tn9, tn10, ts1, ts2, ts3, ts4, ts5, ts7, ts8, tl0, tl2, tl6, tl7⟩ := id hNt
  refine hn_F_of _ hk_X_knot rfl (Nat.le_of_ble_eq_true rfl) ?_
  by_cases hx : sp_in x N.1
  · obtain ⟨k, hk, rfl⟩ := sp_in_nat hx
    rw [v_knot, sp_at_in hk n8]
    by_cases w0 : w = 0
    · subst w0
      refine b_aload_n rfl rfl ?_
      refine b_iload_n rfl rfl ?_
      refine b_callV rfl rfl hk_X_isKnot rfl rfl rfl (by first | rfl | assumption) rfl (Nat.le_of_ble_eq_true rfl) (q_X_isKnot hA0) (Nat.le_of_ble_eq_true rfl) (fun r_2 D_2 q_2 => ?_)
      obtain ⟨rfl, hq⟩ := q_2
      rw [if_pos hx] at hq
      subst hq
      refine b_if_ne rfl (fun c_5 => ?_) (fun c_5 => ?_)
      · refine b_iload_n rfl rfl ?_
        refine b_tsw (q := 44) rfl rfl ?_
        refine b_aload_n rfl rfl ?_
        refine b_getR rfl (by first | rfl | assumption) rfl (by assumption) ?_
        refine b_getR rfl (by first | rfl | assumption) rfl (by assumption) ?_
        refine b_iload_n rfl rfl ?_
        refine b_iaload rfl (by first | rfl | assumption) (by first | assumption | exact nI_toInt (by omega) | exact hi_l0 | exact hi_l1 | exact hi_l2 | exact hi_l3 | exact hi_l4 | exact hi_l5 | exact hi_l6) (by omega) ?_
        rw [nk]
        exact b_ireturn rfl trivial (⟨hs_sx_r hz, rfl⟩)
      · exact absurd c_5 (by decide)
    rw [if_neg w0]
    by_cases w1 : w = 1
    · subst w1
      refine b_aload_n rfl rfl ?_
      refine b_iload_n rfl rfl ?_
      refine b_callV rfl rfl hk_X_isKnot rfl rfl rfl (by first | rfl | assumption) rfl (Nat.le_of_ble_eq_true rfl) (q_X_isKnot hA0) (Nat.le_of_ble_eq_true rfl) (fun r_2 D_2 q_2 => ?_)
      obtain ⟨rfl, hq⟩ := q_2
      rw [if_pos hx] at hq
      subst hq
      refine b_if_ne rfl (fun c_5 => ?_) (fun c_5 => ?_)
      · refine b_iload_n rfl rfl ?_
        refine b_tsw (q := 54) rfl rfl ?_
        refine b_aload_n rfl rfl ?_
        refine b_getR rfl (by first | rfl | assumption) rfl (by assumption) ?_
        refine b_getR rfl (by first | rfl | assumption) rfl (by assumption) ?_
        refine b_iload_n rfl rfl ?_
        refine b_iaload rfl (by first | rfl | assumption) (by first | assumption | exact nI_toInt (by omega) | exact hi_l0 | exact hi_l1 | exact hi_l2 | exact hi_l3 | exact hi_l4 | exact hi_l5 | exact hi_l6) (by omega) ?_
        rw [nh]
        exact b_ireturn rfl trivial (⟨hs_sx_r hz, rfl⟩)
      · exact absurd c_5 (by decide)
    rw [if_neg w1]
    by_cases w2 : w = 2
    · subst w2
      refine b_aload_n rfl rfl ?_
      refine b_iload_n rfl rfl ?_
      refine b_callV rfl rfl hk_X_isKnot rfl rfl rfl (by first | rfl | assumption) rfl (Nat.le_of_ble_eq_true rfl) (q_X_isKnot hA0) (Nat.le_of_ble_eq_true rfl) (fun r_2 D_2 q_2 => ?_)
      obtain ⟨rfl, hq⟩ := q_2
      rw [if_pos hx] at hq
      subst hq
      refine b_if_ne rfl (fun c_5 => ?_) (fun c_5 => ?_)
      · refine b_iload_n rfl rfl ?_
        refine b_tsw (q := 64) rfl rfl ?_
        refine b_aload_n rfl rfl ?_
        refine b_getR rfl (by first | rfl | assumption) rfl (by assumption) ?_
        refine b_getR rfl (by first | rfl | assumption) rfl (by assumption) ?_
        refine b_iload_n rfl rfl ?_
        refine b_iaload rfl (by first | rfl | assumption) (by first | assumption | exact nI_toInt (by omega) | exact hi_l0 | exact hi_l1 | exact hi_l2 | exact hi_l3 | exact hi_l4 | exact hi_l5 | exact hi_l6) (by omega) ?_
        rw [x1]
        exact b_ireturn rfl trivial (⟨hs_sx_r hz, rfl⟩)
      · exact absurd c_5 (by decide)
    rw [if_neg w2]
    by_cases w3 : w = 3
    · subst w3
      refine b_aload_n rfl rfl ?_
      refine b_iload_n rfl rfl ?_
      refine b_callV rfl rfl hk_X_isKnot rfl rfl rfl (by first | rfl | assumption) rfl (Nat.le_of_ble_eq_true rfl) (q_X_isKnot hA0) (Nat.le_of_ble_eq_true rfl) (fun r_2 D_2 q_2 => ?_)
      obtain ⟨rfl, hq⟩ := q_2
      rw [if_pos hx] at hq
      subst hq
      refine b_if_ne rfl (fun c_5 => ?_) (fun c_5 => ?_)
      · refine b_iload_n rfl rfl ?_
        refine b_tsw (q := 74) rfl rfl ?_
        refine b_aload_n rfl rfl ?_
        refine b_getR rfl (by first | rfl | assumption) rfl (by assumption) ?_
        refine b_getR rfl (by first | rfl | assumption) rfl (by assumption) ?_
        refine b_iload_n rfl rfl ?_
        refine b_iaload rfl (by first | rfl | assumption) (by first | assumption | exact nI_toInt (by omega) | exact hi_l0 | exact hi_l1 | exact hi_l2 | exact hi_l3 | exact hi_l4 | exact hi_l5 | exact hi_l6) (by omega) ?_
        rw [na]
        exact b_ireturn rfl trivial (⟨hs_sx_r hz, rfl⟩)
      · exact absurd c_5 (by decide)
    rw [if_neg w3]
    by_cases w4 : w = 4
    · subst w4
      refine b_aload_n rfl rfl ?_
      refine b_iload_n rfl rfl ?_
      refine b_callV rfl rfl hk_X_isKnot rfl rfl rfl (by first | rfl | assumption) rfl (Nat.le_of_ble_eq_true rfl) (q_X_isKnot hA0) (Nat.le_of_ble_eq_true rfl) (fun r_2 D_2 q_2 => ?_)
      obtain ⟨rfl, hq⟩ := q_2
      rw [if_pos hx] at hq
      subst hq
      refine b_if_ne rfl (fun c_5 => ?_) (fun c_5 => ?_)
      · refine b_iload_n rfl rfl ?_
        refine b_tsw (q := 84) rfl rfl ?_
        refine b_aload_n rfl rfl ?_
        refine b_getR rfl (by first | rfl | assumption) rfl (by assumption) ?_
        refine b_iload_n rfl rfl ?_
        refine b_callV rfl rfl hk_State_lyingAt rfl rfl rfl (by first | rfl | assumption) rfl (Nat.le_of_ble_eq_true rfl) (q_State_lyingAt hSt x5 n4) (Nat.le_of_ble_eq_true rfl) (fun r_89 D_89 q_89 => ?_)
        obtain ⟨rfl, hq⟩ := q_89
        rw [P3_n x3 (by omega)] at hq
        subst hq
        exact b_ireturn rfl trivial (⟨hs_sx_r hz, rfl⟩)
      · exact absurd c_5 (by decide)
    rw [if_neg w4]
    have ho : w.toInt < 0 ∨ (4 : Int) < w.toInt := hi_out (w := w) (m := 4) (fun j hj => by rcases (show j = 0 ∨ j = 1 ∨ j = 2 ∨ j = 3 ∨ j = 4 by omega) with rfl | rfl | rfl | rfl | rfl <;> assumption)
    refine b_aload_n rfl rfl ?_
    refine b_iload_n rfl rfl ?_
    refine b_callV rfl rfl hk_X_isKnot rfl rfl rfl (by first | rfl | assumption) rfl (Nat.le_of_ble_eq_true rfl) (q_X_isKnot hA0) (Nat.le_of_ble_eq_true rfl) (fun r_2 D_2 q_2 => ?_)
    obtain ⟨rfl, hq⟩ := q_2
    rw [if_pos hx] at hq
    subst hq
    refine b_if_ne rfl (fun c_5 => ?_) (fun c_5 => ?_)
    · refine b_iload_n rfl rfl ?_
      refine b_tsw (q := 93) rfl (by rw [if_pos ho]; rfl) ?_
      refine b_iconst rfl ?_
      exact b_ireturn rfl trivial (⟨hs_sx_r hz, rfl⟩)
    · exact absurd c_5 (by decide)
  · rw [v_knot, sp_at_out hx]
    refine b_aload_n rfl rfl ?_
    refine b_iload_n rfl rfl ?_
    refine b_callV rfl rfl hk_X_isKnot rfl rfl rfl (by first | rfl | assumption) rfl (Nat.le_of_ble_eq_true rfl) (q_X_isKnot hA0) (Nat.le_of_ble_eq_true rfl) (fun r_2 D_2 q_2 => ?_)
    obtain ⟨rfl, hq⟩ := q_2
    rw [if_neg hx] at hq
    subst hq
    refine b_if_ne rfl (fun c_5 => ?_) (fun c_5 => ?_)
    · exact absurd rfl c_5
    · refine b_iconst rfl ?_
      exact b_ireturn rfl trivial (⟨hs_sx_r hz, rfl⟩)
def v_person (N : sp_N) (Q : sp_Q) (x w : Int32) : Int32 := sp_at x N.2.1 (fun p => if w = 0 then qW Q p else if w = 1 then qP Q p else if w = 2 then qH Q p else if w = 3 then (if qP Q p = -1 then 0 else if sp_awk (qW Q) (qP Q) p then 2 else 1) else -2) (-2)
theorem q_X_person {x w : Int32} (hA : hs_A I R t N Q) : hn_F 3 hm_X_person [.ref 0, .int x, .int w] (I, J, R) (fun r D' => hs_sx t I J R D' ∧ r = some (.int (v_person N Q x w))) := by
  have hA0 := hA
  obtain ⟨hR, r2, ht, hN, hX, hw, hz, hAw⟩ := hA
  have hN0 := hN
  have hX0 := hX
  have hw0 := hw
  obtain ⟨n0, n8, n4, nk, nh, na, hc, ncd⟩ := hN
  obtain ⟨x1, x2, x3, x4, x5, x6, x7⟩ := hX
  obtain ⟨r6, r7, r8, r11, r12, r13, r14, r15, r16, r17, r18⟩ := hs_x0 hR
  have hSt := hs_St_of hR (show 44 ∈ hs_sc by decide)
  have hNt := hs_Net_of hR ht
  obtain ⟨_, sk0, sk1, sk2, sk3, sk4, g0, g1, g2, g3⟩ := id hSt
  obtain ⟨tt5, tn0, tn1, tn2, tn3, tn4, tn5, tn6, tn7, tn8, tn9, tn10, ts1, ts2, ts3, ts4, ts5, ts7, ts8, tl0, tl2, tl6, tl7⟩ := id hNt
  refine hn_F_of _ hk_X_person rfl (Nat.le_of_ble_eq_true rfl) ?_
  by_cases hx : sp_in x N.2.1
  · obtain ⟨k, hk, rfl⟩ := sp_in_nat hx
    rw [v_person, sp_at_in hk (by omega)]
    by_cases w0 : w = 0
    · subst w0
      refine b_aload_n rfl rfl ?_
      refine b_iload_n rfl rfl ?_
      refine b_callV rfl rfl hk_X_isPerson rfl rfl rfl (by first | rfl | assumption) rfl (Nat.le_of_ble_eq_true rfl) (q_X_isPerson hA0) (Nat.le_of_ble_eq_true rfl) (fun r_2 D_2 q_2 => ?_)
      obtain ⟨rfl, hq⟩ := q_2
      rw [if_pos hx] at hq
      subst hq
      refine b_if_ne rfl (fun c_5 => ?_) (fun c_5 => ?_)
      · refine b_iload_n rfl rfl ?_
        refine b_tsw (q := 44) rfl rfl ?_
        refine b_aload_n rfl rfl ?_
        refine b_getR rfl (by first | rfl | assumption) rfl (by assumption) ?_
        refine b_getR rfl (by first | rfl | assumption) rfl (by assumption) ?_
        refine b_iload_n rfl rfl ?_
        refine b_iaload rfl (by first | rfl | assumption) (by first | assumption | exact nI_toInt (by omega) | exact hi_l0 | exact hi_l1 | exact hi_l2 | exact hi_l3 | exact hi_l4 | exact hi_l5 | exact hi_l6) (by omega) ?_
        rw [x2]
        exact b_ireturn rfl trivial (⟨hs_sx_r hz, rfl⟩)
      · exact absurd c_5 (by decide)
    rw [if_neg w0]
    by_cases w1 : w = 1
    · subst w1
      refine b_aload_n rfl rfl ?_
      refine b_iload_n rfl rfl ?_
      refine b_callV rfl rfl hk_X_isPerson rfl rfl rfl (by first | rfl | assumption) rfl (Nat.le_of_ble_eq_true rfl) (q_X_isPerson hA0) (Nat.le_of_ble_eq_true rfl) (fun r_2 D_2 q_2 => ?_)
      obtain ⟨rfl, hq⟩ := q_2
      rw [if_pos hx] at hq
      subst hq
      refine b_if_ne rfl (fun c_5 => ?_) (fun c_5 => ?_)
      · refine b_iload_n rfl rfl ?_
        refine b_tsw (q := 54) rfl rfl ?_
        refine b_aload_n rfl rfl ?_
        refine b_getR rfl (by first | rfl | assumption) rfl (by assumption) ?_
        refine b_getR rfl (by first | rfl | assumption) rfl (by assumption) ?_
        refine b_iload_n rfl rfl ?_
        refine b_iaload rfl (by first | rfl | assumption) (by first | assumption | exact nI_toInt (by omega) | exact hi_l0 | exact hi_l1 | exact hi_l2 | exact hi_l3 | exact hi_l4 | exact hi_l5 | exact hi_l6) (by omega) ?_
        rw [P3_p x3 (by omega)]
        exact b_ireturn rfl trivial (⟨hs_sx_r hz, rfl⟩)
      · exact absurd c_5 (by decide)
    rw [if_neg w1]
    by_cases w2 : w = 2
    · subst w2
      refine b_aload_n rfl rfl ?_
      refine b_iload_n rfl rfl ?_
      refine b_callV rfl rfl hk_X_isPerson rfl rfl rfl (by first | rfl | assumption) rfl (Nat.le_of_ble_eq_true rfl) (q_X_isPerson hA0) (Nat.le_of_ble_eq_true rfl) (fun r_2 D_2 q_2 => ?_)
      obtain ⟨rfl, hq⟩ := q_2
      rw [if_pos hx] at hq
      subst hq
      refine b_if_ne rfl (fun c_5 => ?_) (fun c_5 => ?_)
      · refine b_iload_n rfl rfl ?_
        refine b_tsw (q := 64) rfl rfl ?_
        refine b_aload_n rfl rfl ?_
        refine b_getR rfl (by first | rfl | assumption) rfl (by assumption) ?_
        refine b_getR rfl (by first | rfl | assumption) rfl (by assumption) ?_
        refine b_iload_n rfl rfl ?_
        refine b_iaload rfl (by first | rfl | assumption) (by first | assumption | exact nI_toInt (by omega) | exact hi_l0 | exact hi_l1 | exact hi_l2 | exact hi_l3 | exact hi_l4 | exact hi_l5 | exact hi_l6) (by omega) ?_
        rw [x4]
        exact b_ireturn rfl trivial (⟨hs_sx_r hz, rfl⟩)
      · exact absurd c_5 (by decide)
    rw [if_neg w2]
    by_cases w3 : w = 3
    · subst w3
      refine b_aload_n rfl rfl ?_
      refine b_iload_n rfl rfl ?_
      refine b_callV rfl rfl hk_X_isPerson rfl rfl rfl (by first | rfl | assumption) rfl (Nat.le_of_ble_eq_true rfl) (q_X_isPerson hA0) (Nat.le_of_ble_eq_true rfl) (fun r_2 D_2 q_2 => ?_)
      obtain ⟨rfl, hq⟩ := q_2
      rw [if_pos hx] at hq
      subst hq
      refine b_if_ne rfl (fun c_5 => ?_) (fun c_5 => ?_)
      · refine b_iload_n rfl rfl ?_
        refine b_tsw (q := 74) rfl rfl ?_
        refine b_aload_n rfl rfl ?_
        refine b_getR rfl (by first | rfl | assumption) rfl (by assumption) ?_
        refine b_iload_n rfl rfl ?_
        refine b_callV rfl rfl hk_State_waking rfl rfl rfl (by first | rfl | assumption) rfl (Nat.le_of_ble_eq_true rfl) (q_State_waking hSt (show k < 4 by omega)) (Nat.le_of_ble_eq_true rfl) (fun r_79 D_79 q_79 => ?_)
        obtain ⟨rfl, hq⟩ := q_79
        rw [x2, P3_p x3 (by omega)] at hq
        subst hq
        exact b_ireturn rfl trivial (⟨hs_sx_r hz, rfl⟩)
      · exact absurd c_5 (by decide)
    rw [if_neg w3]
    have ho : w.toInt < 0 ∨ (3 : Int) < w.toInt := hi_out (w := w) (m := 3) (fun j hj => by rcases (show j = 0 ∨ j = 1 ∨ j = 2 ∨ j = 3 by omega) with rfl | rfl | rfl | rfl <;> assumption)
    refine b_aload_n rfl rfl ?_
    refine b_iload_n rfl rfl ?_
    refine b_callV rfl rfl hk_X_isPerson rfl rfl rfl (by first | rfl | assumption) rfl (Nat.le_of_ble_eq_true rfl) (q_X_isPerson hA0) (Nat.le_of_ble_eq_true rfl) (fun r_2 D_2 q_2 => ?_)
    obtain ⟨rfl, hq⟩ := q_2
    rw [if_pos hx] at hq
    subst hq
    refine b_if_ne rfl (fun c_5 => ?_) (fun c_5 => ?_)
    · refine b_iload_n rfl rfl ?_
      refine b_tsw (q := 83) rfl (by rw [if_pos ho]; rfl) ?_
      refine b_bipush rfl ?_
      exact b_ireturn rfl trivial (⟨hs_sx_r hz, rfl⟩)
    · exact absurd c_5 (by decide)
  · rw [v_person, sp_at_out hx]
    refine b_aload_n rfl rfl ?_
    refine b_iload_n rfl rfl ?_
    refine b_callV rfl rfl hk_X_isPerson rfl rfl rfl (by first | rfl | assumption) rfl (Nat.le_of_ble_eq_true rfl) (q_X_isPerson hA0) (Nat.le_of_ble_eq_true rfl) (fun r_2 D_2 q_2 => ?_)
    obtain ⟨rfl, hq⟩ := q_2
    rw [if_neg hx] at hq
    subst hq
    refine b_if_ne rfl (fun c_5 => ?_) (fun c_5 => ?_)
    · exact absurd rfl c_5
    · refine b_bipush rfl ?_
      exact b_ireturn rfl trivial (⟨hs_sx_r hz, rfl⟩)
theorem q_X_reach {x : Int32} (hA : hs_A I R t N Q) : hn_F 2 hm_X_reach [.ref 0, .int x] (I, J, R) (fun r D' => hs_sx t I J R D' ∧ r = some (.int (sp_at x N.1 (fun k => sp_reach (qS Q) k) (-1)))) := by
  have hA0 := hA
  obtain ⟨hR, r2, ht, hN, hX, hw, hz, hAw⟩ := hA
  have hN0 := hN
  have hX0 := hX
  have hw0 := hw
  obtain ⟨n0, n8, n4, nk, nh, na, hc, ncd⟩ := hN
  obtain ⟨x1, x2, x3, x4, x5, x6, x7⟩ := hX
  obtain ⟨r6, r7, r8, r11, r12, r13, r14, r15, r16, r17, r18⟩ := hs_x0 hR
  have hSt := hs_St_of hR (show 44 ∈ hs_sc by decide)
  have hNt := hs_Net_of hR ht
  obtain ⟨_, sk0, sk1, sk2, sk3, sk4, g0, g1, g2, g3⟩ := id hSt
  obtain ⟨tt5, tn0, tn1, tn2, tn3, tn4, tn5, tn6, tn7, tn8, tn9, tn10, ts1, ts2, ts3, ts4, ts5, ts7, ts8, tl0, tl2, tl6, tl7⟩ := id hNt
  refine hn_F_of _ hk_X_reach rfl (Nat.le_of_ble_eq_true rfl) ?_
  by_cases hx : sp_in x N.1
  · obtain ⟨k, hk, rfl⟩ := sp_in_nat hx
    rw [sp_at_in hk n8]
    refine b_aload_n rfl rfl ?_
    refine b_iload_n rfl rfl ?_
    refine b_callV rfl rfl hk_X_isKnot rfl rfl rfl (by first | rfl | assumption) rfl (Nat.le_of_ble_eq_true rfl) (q_X_isKnot hA0) (Nat.le_of_ble_eq_true rfl) (fun r_2 D_2 q_2 => ?_)
    obtain ⟨rfl, hq⟩ := q_2
    rw [if_pos hx] at hq
    subst hq
    refine b_if_eq rfl (fun c_5 => ?_) (fun c_5 => ?_)
    · exact absurd c_5 (by decide)
    · refine b_aload_n rfl rfl ?_
      refine b_getR rfl (by first | rfl | assumption) rfl (by assumption) ?_
      refine b_getR rfl (by first | rfl | assumption) rfl (by assumption) ?_
      refine b_iload_n rfl rfl ?_
      refine b_callS rfl rfl hk_Ways_reachOf rfl rfl rfl (Nat.le_of_ble_eq_true rfl) (q_Ways_reachOf sk1 (show k < 8 by omega)) (Nat.le_of_ble_eq_true rfl) (fun r_16 D_16 q_16 => ?_)
      obtain ⟨rfl, hq⟩ := q_16
      rw [x1] at hq
      subst hq
      refine b_goto rfl ?_
      exact b_ireturn rfl trivial (⟨hs_sx_r hz, rfl⟩)
  · rw [sp_at_out hx]
    refine b_aload_n rfl rfl ?_
    refine b_iload_n rfl rfl ?_
    refine b_callV rfl rfl hk_X_isKnot rfl rfl rfl (by first | rfl | assumption) rfl (Nat.le_of_ble_eq_true rfl) (q_X_isKnot hA0) (Nat.le_of_ble_eq_true rfl) (fun r_2 D_2 q_2 => ?_)
    obtain ⟨rfl, hq⟩ := q_2
    rw [if_neg hx] at hq
    subst hq
    refine b_if_eq rfl (fun c_5 => ?_) (fun c_5 => ?_)
    · refine b_iconst rfl ?_
      exact b_ireturn rfl trivial (⟨hs_sx_r hz, rfl⟩)
    · exact absurd rfl c_5
theorem q_X_far {x y : Int32} (hA : hs_A I R t N Q) : hn_F 2 hm_X_far [.ref 0, .int x, .int y] (I, J, R) (fun r D' => hs_sx t I J R D' ∧ r = some (.int (sp_at x N.1 (fun k => sp_at y N.1 (fun o => sp_farl (qS Q) o 8 0 ((1 : Int32) <<< (nI k &&& 31))) (-1)) (-1)))) := by
  have hA0 := hA
  obtain ⟨hR, r2, ht, hN, hX, hw, hz, hAw⟩ := hA
  have hN0 := hN
  have hX0 := hX
  have hw0 := hw
  obtain ⟨n0, n8, n4, nk, nh, na, hc, ncd⟩ := hN
  obtain ⟨x1, x2, x3, x4, x5, x6, x7⟩ := hX
  obtain ⟨r6, r7, r8, r11, r12, r13, r14, r15, r16, r17, r18⟩ := hs_x0 hR
  have hSt := hs_St_of hR (show 44 ∈ hs_sc by decide)
  have hNt := hs_Net_of hR ht
  obtain ⟨_, sk0, sk1, sk2, sk3, sk4, g0, g1, g2, g3⟩ := id hSt
  obtain ⟨tt5, tn0, tn1, tn2, tn3, tn4, tn5, tn6, tn7, tn8, tn9, tn10, ts1, ts2, ts3, ts4, ts5, ts7, ts8, tl0, tl2, tl6, tl7⟩ := id hNt
  refine hn_F_of _ hk_X_far rfl (Nat.le_of_ble_eq_true rfl) ?_
  by_cases hx : sp_in x N.1
  · obtain ⟨k, hk, rfl⟩ := sp_in_nat hx
    rw [sp_at_in hk n8]
    by_cases hy : sp_in y N.1
    · obtain ⟨o, ho, rfl⟩ := sp_in_nat hy
      rw [sp_at_in ho n8]
      refine b_aload_n rfl rfl ?_
      refine b_iload_n rfl rfl ?_
      refine b_callV rfl rfl hk_X_isKnot rfl rfl rfl (by first | rfl | assumption) rfl (Nat.le_of_ble_eq_true rfl) (q_X_isKnot hA0) (Nat.le_of_ble_eq_true rfl) (fun r_2 D_2 q_2 => ?_)
      obtain ⟨rfl, hq⟩ := q_2
      rw [if_pos hx] at hq
      subst hq
      refine b_if_eq rfl (fun c_5 => ?_) (fun c_5 => ?_)
      · exact absurd c_5 (by decide)
      · refine b_aload_n rfl rfl ?_
        refine b_iload_n rfl rfl ?_
        refine b_callV rfl rfl hk_X_isKnot rfl rfl rfl (by first | rfl | assumption) rfl (Nat.le_of_ble_eq_true rfl) (q_X_isKnot hA0) (Nat.le_of_ble_eq_true rfl) (fun r_10 D_10 q_10 => ?_)
        obtain ⟨rfl, hq⟩ := q_10
        rw [if_pos hy] at hq
        subst hq
        refine b_if_eq rfl (fun c_13 => ?_) (fun c_13 => ?_)
        · exact absurd c_13 (by decide)
        · refine b_aload_n rfl rfl ?_
          refine b_getR rfl (by first | rfl | assumption) rfl (by assumption) ?_
          refine b_getR rfl (by first | rfl | assumption) rfl (by assumption) ?_
          refine b_iload_n rfl rfl ?_
          refine b_iload_n rfl rfl ?_
          refine b_callS rfl rfl hk_Ways_stringsBetween rfl rfl rfl (Nat.le_of_ble_eq_true rfl) (q_Ways_stringsBetween sk1) (Nat.le_of_ble_eq_true rfl) (fun r_25 D_25 q_25 => ?_)
          obtain ⟨rfl, hq⟩ := q_25
          rw [x1] at hq
          subst hq
          refine b_goto rfl ?_
          exact b_ireturn rfl trivial (⟨hs_sx_r hz, rfl⟩)
    · rw [sp_at_out hy]
      refine b_aload_n rfl rfl ?_
      refine b_iload_n rfl rfl ?_
      refine b_callV rfl rfl hk_X_isKnot rfl rfl rfl (by first | rfl | assumption) rfl (Nat.le_of_ble_eq_true rfl) (q_X_isKnot hA0) (Nat.le_of_ble_eq_true rfl) (fun r_2 D_2 q_2 => ?_)
      obtain ⟨rfl, hq⟩ := q_2
      rw [if_pos hx] at hq
      subst hq
      refine b_if_eq rfl (fun c_5 => ?_) (fun c_5 => ?_)
      · exact absurd c_5 (by decide)
      · refine b_aload_n rfl rfl ?_
        refine b_iload_n rfl rfl ?_
        refine b_callV rfl rfl hk_X_isKnot rfl rfl rfl (by first | rfl | assumption) rfl (Nat.le_of_ble_eq_true rfl) (q_X_isKnot hA0) (Nat.le_of_ble_eq_true rfl) (fun r_10 D_10 q_10 => ?_)
        obtain ⟨rfl, hq⟩ := q_10
        rw [if_neg hy] at hq
        subst hq
        refine b_if_eq rfl (fun c_13 => ?_) (fun c_13 => ?_)
        · refine b_iconst rfl ?_
          exact b_ireturn rfl trivial (⟨hs_sx_r hz, rfl⟩)
        · exact absurd rfl c_13
  · rw [sp_at_out hx]
    refine b_aload_n rfl rfl ?_
    refine b_iload_n rfl rfl ?_
    refine b_callV rfl rfl hk_X_isKnot rfl rfl rfl (by first | rfl | assumption) rfl (Nat.le_of_ble_eq_true rfl) (q_X_isKnot hA0) (Nat.le_of_ble_eq_true rfl) (fun r_2 D_2 q_2 => ?_)
    obtain ⟨rfl, hq⟩ := q_2
    rw [if_neg hx] at hq
    subst hq
    refine b_if_eq rfl (fun c_5 => ?_) (fun c_5 => ?_)
    · refine b_iconst rfl ?_
      exact b_ireturn rfl trivial (⟨hs_sx_r hz, rfl⟩)
    · exact absurd rfl c_5
def v_rings (s : Nat → Int32) (n : Nat) : Int32 := sp_up (fun k f => f ||| (sp_reach s k &&& ((1 : Int32) <<< (nI k &&& 31)))) 0 n
theorem q_X_rings (hA : hs_A I R t N Q) : hn_F 2 hm_X_rings [.ref 0] (I, J, R) (fun r D' => hs_sx t I J R D' ∧ r = some (.int (v_rings (qS Q) N.1))) := by
  obtain ⟨hR, r2, ht, hN, hX, hw, hz, hAw⟩ := hA
  have hN0 := hN
  have hX0 := hX
  have hw0 := hw
  obtain ⟨n0, n8, n4, nk, nh, na, hc, ncd⟩ := hN
  obtain ⟨x1, x2, x3, x4, x5, x6, x7⟩ := hX
  obtain ⟨r6, r7, r8, r11, r12, r13, r14, r15, r16, r17, r18⟩ := hs_x0 hR
  have hSt := hs_St_of hR (show 44 ∈ hs_sc by decide)
  have hNt := hs_Net_of hR ht
  obtain ⟨_, sk0, sk1, sk2, sk3, sk4, g0, g1, g2, g3⟩ := id hSt
  obtain ⟨tt5, tn0, tn1, tn2, tn3, tn4, tn5, tn6, tn7, tn8, tn9, tn10, ts1, ts2, ts3, ts4, ts5, ts7, ts8, tl0, tl2, tl6, tl7⟩ := id hNt
  refine hn_F_of _ hk_X_rings rfl (Nat.le_of_ble_eq_true rfl) ?_
  refine b_iconst rfl ?_
  refine b_istore_n rfl (Nat.le_of_ble_eq_true rfl) ?_
  refine b_iconst rfl ?_
  refine b_istore_n rfl (Nat.le_of_ble_eq_true rfl) ?_
  refine b_eq (sp_ind N.1 (fun k => hn_B 2 hm_X_rings (fun r D' => hs_sx t I J R D' ∧ r = some (.int (v_rings (qS Q) N.1))) 4 [.ref 0, .int (v_rings (qS Q) k), .int (nI k)] [] (I, J, R)) ?_ ?_) (by rw [nI_0]; rfl) rfl rfl
  · refine b_iload_n rfl rfl ?_
    refine b_aload_n rfl rfl ?_
    refine b_getR rfl (by first | rfl | assumption) rfl (by assumption) ?_
    refine b_getI rfl (by first | rfl | assumption) rfl ?_
    rw [n0]
    refine b_icmp_ge rfl (fun c_12 => ?_) (fun c_12 => ?_)
    · refine b_iload_n rfl rfl ?_
      exact b_ireturn rfl trivial (⟨hs_sx_r hz, rfl⟩)
    · exact absurd (nI_le (Nat.le_refl _) (by omega)) c_12
  · intro k hk ih
    refine b_iload_n rfl rfl ?_
    refine b_aload_n rfl rfl ?_
    refine b_getR rfl (by first | rfl | assumption) rfl (by assumption) ?_
    refine b_getI rfl (by first | rfl | assumption) rfl ?_
    rw [n0]
    refine b_icmp_ge rfl (fun c_12 => ?_) (fun c_12 => ?_)
    · exact absurd c_12 (nI_ge hk (by omega))
    · refine b_iload_n rfl rfl ?_
      refine b_aload_n rfl rfl ?_
      refine b_getR rfl (by first | rfl | assumption) rfl (by assumption) ?_
      refine b_getR rfl (by first | rfl | assumption) rfl (by assumption) ?_
      refine b_iload_n rfl rfl ?_
      refine b_callS rfl rfl hk_Ways_reachOf rfl rfl rfl (Nat.le_of_ble_eq_true rfl) (q_Ways_reachOf sk1 (show k < 8 by omega)) (Nat.le_of_ble_eq_true rfl) (fun r_24 D_24 q_24 => ?_)
      obtain ⟨rfl, hq⟩ := q_24
      rw [x1] at hq
      subst hq
      refine b_iconst rfl ?_
      refine b_iload_n rfl rfl ?_
      refine b_ishl rfl ?_
      refine b_iand rfl ?_
      refine b_ior rfl ?_
      refine b_istore_n rfl (Nat.le_of_ble_eq_true rfl) ?_
      refine b_iinc rfl rfl (Nat.le_of_ble_eq_true rfl) ?_
      refine b_goto rfl ?_
      exact b_eq ih (by simp only [nI_succ, v_rings, sp_up]; rfl) rfl rfl
def v_ends (s : Nat → Int32) (n : Nat) : Int32 := sp_set (fun k => s k = 0) n
theorem q_X_ends (hA : hs_A I R t N Q) : hn_F 0 hm_X_ends [.ref 0] (I, J, R) (fun r D' => hs_sx t I J R D' ∧ r = some (.int (v_ends (qS Q) N.1))) := by
  obtain ⟨hR, r2, ht, hN, hX, hw, hz, hAw⟩ := hA
  have hN0 := hN
  have hX0 := hX
  have hw0 := hw
  obtain ⟨n0, n8, n4, nk, nh, na, hc, ncd⟩ := hN
  obtain ⟨x1, x2, x3, x4, x5, x6, x7⟩ := hX
  obtain ⟨r6, r7, r8, r11, r12, r13, r14, r15, r16, r17, r18⟩ := hs_x0 hR
  have hSt := hs_St_of hR (show 44 ∈ hs_sc by decide)
  have hNt := hs_Net_of hR ht
  obtain ⟨_, sk0, sk1, sk2, sk3, sk4, g0, g1, g2, g3⟩ := id hSt
  obtain ⟨tt5, tn0, tn1, tn2, tn3, tn4, tn5, tn6, tn7, tn8, tn9, tn10, ts1, ts2, ts3, ts4, ts5, ts7, ts8, tl0, tl2, tl6, tl7⟩ := id hNt
  refine hn_F_of _ hk_X_ends rfl (Nat.le_of_ble_eq_true rfl) ?_
  refine b_iconst rfl ?_
  refine b_istore_n rfl (Nat.le_of_ble_eq_true rfl) ?_
  refine b_iconst rfl ?_
  refine b_istore_n rfl (Nat.le_of_ble_eq_true rfl) ?_
  refine b_eq (sp_ind N.1 (fun k => hn_B 0 hm_X_ends (fun r D' => hs_sx t I J R D' ∧ r = some (.int (v_ends (qS Q) N.1))) 4 [.ref 0, .int (v_ends (qS Q) k), .int (nI k)] [] (I, J, R)) ?_ ?_) (by rw [nI_0]; rfl) rfl rfl
  · refine b_iload_n rfl rfl ?_
    refine b_aload_n rfl rfl ?_
    refine b_getR rfl (by first | rfl | assumption) rfl (by assumption) ?_
    refine b_getI rfl (by first | rfl | assumption) rfl ?_
    rw [n0]
    refine b_icmp_ge rfl (fun c_12 => ?_) (fun c_12 => ?_)
    · refine b_iload_n rfl rfl ?_
      exact b_ireturn rfl trivial (⟨hs_sx_r hz, rfl⟩)
    · exact absurd (nI_le (Nat.le_refl _) (by omega)) c_12
  · intro k hk ih
    refine b_iload_n rfl rfl ?_
    refine b_aload_n rfl rfl ?_
    refine b_getR rfl (by first | rfl | assumption) rfl (by assumption) ?_
    refine b_getI rfl (by first | rfl | assumption) rfl ?_
    rw [n0]
    refine b_icmp_ge rfl (fun c_12 => ?_) (fun c_12 => ?_)
    · exact absurd c_12 (nI_ge hk (by omega))
    · refine b_aload_n rfl rfl ?_
      refine b_getR rfl (by first | rfl | assumption) rfl (by assumption) ?_
      refine b_getR rfl (by first | rfl | assumption) rfl (by assumption) ?_
      refine b_iload_n rfl rfl ?_
      refine b_iaload rfl (by first | rfl | assumption) (by first | assumption | exact nI_toInt (by omega) | exact hi_l0 | exact hi_l1 | exact hi_l2 | exact hi_l3 | exact hi_l4 | exact hi_l5 | exact hi_l6) (by omega) ?_
      rw [x1]
      refine b_if_ne rfl (fun c_24 => ?_) (fun c_24 => ?_)
      · refine b_iinc rfl rfl (Nat.le_of_ble_eq_true rfl) ?_
        refine b_goto rfl ?_
        exact b_eq ih (by first | (simp only [nI_succ, v_ends, sp_set, sp_up, if_pos c_24]; rfl) | (simp only [nI_succ, v_ends, sp_set, sp_up, if_neg c_24]; rfl)) rfl rfl
      · refine b_iload_n rfl rfl ?_
        refine b_iconst rfl ?_
        refine b_iload_n rfl rfl ?_
        refine b_ishl rfl ?_
        refine b_ior rfl ?_
        refine b_istore_n rfl (Nat.le_of_ble_eq_true rfl) ?_
        refine b_iinc rfl rfl (Nat.le_of_ble_eq_true rfl) ?_
        refine b_goto rfl ?_
        exact b_eq ih (by first | (simp only [nI_succ, v_ends, sp_set, sp_up, if_pos c_24]; rfl) | (simp only [nI_succ, v_ends, sp_set, sp_up, if_neg c_24]; rfl)) rfl rfl
theorem q_X_trails (hA : hs_A I R t N Q) : hn_F 1 hm_X_trails [.ref 0] (I, J, R) (fun r D' => hs_sx t I J R D' ∧ r = some (.int ((((1 : Int32) <<< (nI N.1 &&& 31)) - 1) &&& (sp_union (qS Q) (((1 : Int32) <<< (nI N.1 &&& 31)) - 1) 8 ^^^ -1)))) := by
  obtain ⟨hR, r2, ht, hN, hX, hw, hz, hAw⟩ := hA
  have hN0 := hN
  have hX0 := hX
  have hw0 := hw
  obtain ⟨n0, n8, n4, nk, nh, na, hc, ncd⟩ := hN
  obtain ⟨x1, x2, x3, x4, x5, x6, x7⟩ := hX
  obtain ⟨r6, r7, r8, r11, r12, r13, r14, r15, r16, r17, r18⟩ := hs_x0 hR
  have hSt := hs_St_of hR (show 44 ∈ hs_sc by decide)
  have hNt := hs_Net_of hR ht
  obtain ⟨_, sk0, sk1, sk2, sk3, sk4, g0, g1, g2, g3⟩ := id hSt
  obtain ⟨tt5, tn0, tn1, tn2, tn3, tn4, tn5, tn6, tn7, tn8, tn9, tn10, ts1, ts2, ts3, ts4, ts5, ts7, ts8, tl0, tl2, tl6, tl7⟩ := id hNt
  refine hn_F_of _ hk_X_trails rfl (Nat.le_of_ble_eq_true rfl) ?_
  refine b_aload_n rfl rfl ?_
  refine b_getR rfl (by first | rfl | assumption) rfl (by assumption) ?_
  refine b_callV rfl rfl hk_Net_allKnots rfl rfl rfl (by first | rfl | assumption) rfl (Nat.le_of_ble_eq_true rfl) (q_Net_allKnots hNt n0) (Nat.le_of_ble_eq_true rfl) (fun r_4 D_4 q_4 => ?_)
  obtain ⟨rfl, rfl⟩ := q_4
  refine b_aload_n rfl rfl ?_
  refine b_getR rfl (by first | rfl | assumption) rfl (by assumption) ?_
  refine b_getR rfl (by first | rfl | assumption) rfl (by assumption) ?_
  refine b_aload_n rfl rfl ?_
  refine b_getR rfl (by first | rfl | assumption) rfl (by assumption) ?_
  refine b_callV rfl rfl hk_Net_allKnots rfl rfl rfl (by first | rfl | assumption) rfl (Nat.le_of_ble_eq_true rfl) (q_Net_allKnots hNt n0) (Nat.le_of_ble_eq_true rfl) (fun r_18 D_18 q_18 => ?_)
  obtain ⟨rfl, rfl⟩ := q_18
  refine b_callS rfl rfl hk_Ways_unionOf rfl rfl rfl (Nat.le_of_ble_eq_true rfl) (q_Ways_unionOf sk1) (Nat.le_of_ble_eq_true rfl) (fun r_21 D_21 q_21 => ?_)
  obtain ⟨rfl, hq⟩ := q_21
  rw [x1] at hq
  subst hq
  refine b_iconst rfl ?_
  refine b_ixor rfl ?_
  refine b_iand rfl ?_
  exact b_ireturn rfl trivial (⟨hs_sx_r hz, rfl⟩)
def v_firms (s hd : Nat → Int32) (k n : Nat) : Int32 := sp_up (fun i a => if sp_bit (sp_reach s k) i then a + hd i else a) 0 n
theorem q_X_firms {x : Int32} (hA : hs_A I R t N Q) : hn_F 2 hm_X_firms [.ref 0, .int x] (I, J, R) (fun r D' => hs_sx t I J R D' ∧ r = some (.int (sp_at x N.1 (fun k => v_firms (qS Q) (nH N) k N.1) (-1)))) := by
  have hA0 := hA
  obtain ⟨hR, r2, ht, hN, hX, hw, hz, hAw⟩ := hA
  have hN0 := hN
  have hX0 := hX
  have hw0 := hw
  obtain ⟨n0, n8, n4, nk, nh, na, hc, ncd⟩ := hN
  obtain ⟨x1, x2, x3, x4, x5, x6, x7⟩ := hX
  obtain ⟨r6, r7, r8, r11, r12, r13, r14, r15, r16, r17, r18⟩ := hs_x0 hR
  have hSt := hs_St_of hR (show 44 ∈ hs_sc by decide)
  have hNt := hs_Net_of hR ht
  obtain ⟨_, sk0, sk1, sk2, sk3, sk4, g0, g1, g2, g3⟩ := id hSt
  obtain ⟨tt5, tn0, tn1, tn2, tn3, tn4, tn5, tn6, tn7, tn8, tn9, tn10, ts1, ts2, ts3, ts4, ts5, ts7, ts8, tl0, tl2, tl6, tl7⟩ := id hNt
  refine hn_F_of _ hk_X_firms rfl (Nat.le_of_ble_eq_true rfl) ?_
  by_cases hx : sp_in x N.1
  · obtain ⟨q, hq, rfl⟩ := sp_in_nat hx
    rw [sp_at_in hq n8]
    have L27 : hn_B 2 hm_X_firms (fun r D' => hs_sx t I J R D' ∧ r = some (.int (v_firms (qS Q) (nH N) q N.1))) 27 [.ref 0, .int (nI q), .int (sp_reach (qS Q) q), .int (v_firms (qS Q) (nH N) q 0), .int (nI 0)] [] (I, J, R) := by
      refine sp_ind N.1 (fun k => hn_B 2 hm_X_firms (fun r D' => hs_sx t I J R D' ∧ r = some (.int (v_firms (qS Q) (nH N) q N.1))) 27 [.ref 0, .int (nI q), .int (sp_reach (qS Q) q), .int (v_firms (qS Q) (nH N) q k), .int (nI k)] [] (I, J, R)) ?_ ?_
      · refine b_iload rfl rfl ?_
        refine b_aload_n rfl rfl ?_
        refine b_getR rfl (by first | rfl | assumption) rfl (by assumption) ?_
        refine b_getI rfl (by first | rfl | assumption) rfl ?_
        rw [n0]
        refine b_icmp_ge rfl (fun c_36 => ?_) (fun c_36 => ?_)
        · refine b_iload_n rfl rfl ?_
          exact b_ireturn rfl trivial (⟨hs_sx_r hz, rfl⟩)
        · exact absurd (nI_le (Nat.le_refl _) (by omega)) c_36
      · intro k hk ih
        refine b_iload rfl rfl ?_
        refine b_aload_n rfl rfl ?_
        refine b_getR rfl (by first | rfl | assumption) rfl (by assumption) ?_
        refine b_getI rfl (by first | rfl | assumption) rfl ?_
        rw [n0]
        refine b_icmp_ge rfl (fun c_36 => ?_) (fun c_36 => ?_)
        · exact absurd c_36 (nI_ge hk (by omega))
        · refine b_iload_n rfl rfl ?_
          refine b_iload rfl rfl ?_
          refine b_ishr rfl ?_
          refine b_iconst rfl ?_
          refine b_iand rfl ?_
          refine b_if_eq rfl (fun c_45 => ?_) (fun c_45 => ?_)
          · refine b_iinc rfl rfl (Nat.le_of_ble_eq_true rfl) ?_
            refine b_goto rfl ?_
            first | exact b_eq ih (by simp only [nI_succ, v_firms, sp_up, if_neg (show ¬ sp_bit (sp_reach (qS Q) q) k from fun z => z c_45)]; rfl) rfl rfl | exact b_eq ih (by simp only [nI_succ, v_firms, sp_up, if_pos (show sp_bit (sp_reach (qS Q) q) k from c_45)]; rfl) rfl rfl
          · refine b_iload_n rfl rfl ?_
            refine b_aload_n rfl rfl ?_
            refine b_getR rfl (by first | rfl | assumption) rfl (by assumption) ?_
            refine b_getR rfl (by first | rfl | assumption) rfl (by assumption) ?_
            refine b_iload rfl rfl ?_
            refine b_iaload rfl (by first | rfl | assumption) (by first | assumption | exact nI_toInt (by omega) | exact hi_l0 | exact hi_l1 | exact hi_l2 | exact hi_l3 | exact hi_l4 | exact hi_l5 | exact hi_l6) (by omega) ?_
            rw [nh]
            refine b_iadd rfl ?_
            refine b_istore_n rfl (Nat.le_of_ble_eq_true rfl) ?_
            refine b_iinc rfl rfl (Nat.le_of_ble_eq_true rfl) ?_
            refine b_goto rfl ?_
            first | exact b_eq ih (by simp only [nI_succ, v_firms, sp_up, if_neg (show ¬ sp_bit (sp_reach (qS Q) q) k from fun z => z c_45)]; rfl) rfl rfl | exact b_eq ih (by simp only [nI_succ, v_firms, sp_up, if_pos (show sp_bit (sp_reach (qS Q) q) k from c_45)]; rfl) rfl rfl
    refine b_aload_n rfl rfl ?_
    refine b_iload_n rfl rfl ?_
    refine b_callV rfl rfl hk_X_isKnot rfl rfl rfl (by first | rfl | assumption) rfl (Nat.le_of_ble_eq_true rfl) (q_X_isKnot hA0) (Nat.le_of_ble_eq_true rfl) (fun r_2 D_2 q_2 => ?_)
    obtain ⟨rfl, hq2⟩ := q_2
    rw [if_pos hx] at hq2
    subst hq2
    refine b_if_ne rfl (fun c_5 => ?_) (fun c_5 => ?_)
    · refine b_aload_n rfl rfl ?_
      refine b_getR rfl (by first | rfl | assumption) rfl (by assumption) ?_
      refine b_getR rfl (by first | rfl | assumption) rfl (by assumption) ?_
      refine b_iload_n rfl rfl ?_
      refine b_callS rfl rfl hk_Ways_reachOf rfl rfl rfl (Nat.le_of_ble_eq_true rfl) (q_Ways_reachOf sk1 (show q < 8 by omega)) (Nat.le_of_ble_eq_true rfl) (fun r_18 D_18 q_18 => ?_)
      obtain ⟨rfl, hq2⟩ := q_18
      rw [x1] at hq2
      subst hq2
      refine b_istore_n rfl (Nat.le_of_ble_eq_true rfl) ?_
      refine b_iconst rfl ?_
      refine b_istore_n rfl (Nat.le_of_ble_eq_true rfl) ?_
      refine b_iconst rfl ?_
      refine b_istore rfl (Nat.le_of_ble_eq_true rfl) ?_
      exact b_eq L27 (by rw [nI_0]; rfl) rfl rfl
    · exact absurd c_5 (by decide)
  · rw [sp_at_out hx]
    refine b_aload_n rfl rfl ?_
    refine b_iload_n rfl rfl ?_
    refine b_callV rfl rfl hk_X_isKnot rfl rfl rfl (by first | rfl | assumption) rfl (Nat.le_of_ble_eq_true rfl) (q_X_isKnot hA0) (Nat.le_of_ble_eq_true rfl) (fun r_2 D_2 q_2 => ?_)
    obtain ⟨rfl, hq⟩ := q_2
    rw [if_neg hx] at hq
    subst hq
    refine b_if_ne rfl (fun c_5 => ?_) (fun c_5 => ?_)
    · exact absurd rfl c_5
    · refine b_iconst rfl ?_
      exact b_ireturn rfl trivial (⟨hs_sx_r hz, rfl⟩)
def v_crowd (pl : Nat → Int32) (np : Nat) : Nat → Int32 × Int32 := sp_up (fun k b => if b.2 < sp_pop (sp_lyingAt pl (nI k) np) then (nI k, sp_pop (sp_lyingAt pl (nI k) np)) else b) (-1, 0)
theorem q_X_crowd (hA : hs_A I R t N Q) : hn_F 1 hm_X_crowd [.ref 0] (I, J, R) (fun r D' => hs_sx t I J R D' ∧ r = some (.int (v_crowd (qP Q) N.2.1 N.1).1)) := by
  obtain ⟨hR, r2, ht, hN, hX, hw, hz, hAw⟩ := hA
  have hN0 := hN
  have hX0 := hX
  have hw0 := hw
  obtain ⟨n0, n8, n4, nk, nh, na, hc, ncd⟩ := hN
  obtain ⟨x1, x2, x3, x4, x5, x6, x7⟩ := hX
  obtain ⟨r6, r7, r8, r11, r12, r13, r14, r15, r16, r17, r18⟩ := hs_x0 hR
  have hSt := hs_St_of hR (show 44 ∈ hs_sc by decide)
  have hNt := hs_Net_of hR ht
  obtain ⟨_, sk0, sk1, sk2, sk3, sk4, g0, g1, g2, g3⟩ := id hSt
  obtain ⟨tt5, tn0, tn1, tn2, tn3, tn4, tn5, tn6, tn7, tn8, tn9, tn10, ts1, ts2, ts3, ts4, ts5, ts7, ts8, tl0, tl2, tl6, tl7⟩ := id hNt
  refine hn_F_of _ hk_X_crowd rfl (Nat.le_of_ble_eq_true rfl) ?_
  refine b_iconst rfl ?_
  refine b_istore_n rfl (Nat.le_of_ble_eq_true rfl) ?_
  refine b_iconst rfl ?_
  refine b_istore_n rfl (Nat.le_of_ble_eq_true rfl) ?_
  refine b_iconst rfl ?_
  refine b_istore_n rfl (Nat.le_of_ble_eq_true rfl) ?_
  refine b_eq (sp_ind N.1 (fun k => ∀ l, hn_B 1 hm_X_crowd (fun r D' => hs_sx t I J R D' ∧ r = some (.int (v_crowd (qP Q) N.2.1 N.1).1)) 6 [.ref 0, .int (v_crowd (qP Q) N.2.1 k).1, .int (v_crowd (qP Q) N.2.1 k).2, .int (nI k), l] [] (I, J, R)) ?_ ?_ .null) (by rw [nI_0]; rfl) rfl rfl
  · intro l
    refine b_iload_n rfl rfl ?_
    refine b_aload_n rfl rfl ?_
    refine b_getR rfl (by first | rfl | assumption) rfl (by assumption) ?_
    refine b_getI rfl (by first | rfl | assumption) rfl ?_
    rw [n0]
    refine b_icmp_ge rfl (fun c_14 => ?_) (fun c_14 => ?_)
    · refine b_iload_n rfl rfl ?_
      exact b_ireturn rfl trivial (⟨hs_sx_r hz, rfl⟩)
    · exact absurd (nI_le (Nat.le_refl _) (by omega)) c_14
  · intro k hk ih l
    have hb := bc_lying (qP Q) (nI k) N.2.1 n4
    have e : v_crowd (qP Q) N.2.1 (k + 1) = if (v_crowd (qP Q) N.2.1 k).2 < sp_pop (sp_lyingAt (qP Q) (nI k) N.2.1) then (nI k, sp_pop (sp_lyingAt (qP Q) (nI k) N.2.1)) else v_crowd (qP Q) N.2.1 k := rfl
    rw [e] at ih
    refine b_iload_n rfl rfl ?_
    refine b_aload_n rfl rfl ?_
    refine b_getR rfl (by first | rfl | assumption) rfl (by assumption) ?_
    refine b_getI rfl (by first | rfl | assumption) rfl ?_
    rw [n0]
    refine b_icmp_ge rfl (fun c_14 => ?_) (fun c_14 => ?_)
    · exact absurd c_14 (nI_ge hk (by omega))
    · refine b_aload_n rfl rfl ?_
      refine b_getR rfl (by first | rfl | assumption) rfl (by assumption) ?_
      refine b_iload_n rfl rfl ?_
      refine b_callV rfl rfl hk_State_lyingAt rfl rfl rfl (by first | rfl | assumption) rfl (Nat.le_of_ble_eq_true rfl) (q_State_lyingAt hSt x5 n4) (Nat.le_of_ble_eq_true rfl) (fun r_22 D_22 q_22 => ?_)
      obtain ⟨rfl, hq⟩ := q_22
      rw [P3_at x3] at hq
      subst hq
      refine b_callS rfl rfl hk_JI_bitCount rfl rfl rfl (Nat.le_of_ble_eq_true rfl) (q_bitCount) (Nat.le_of_ble_eq_true rfl) (fun r_25 D_25 q_25 => ?_)
      obtain ⟨rfl, rfl⟩ := q_25
      rw [hb]
      refine b_istore rfl (Nat.le_of_ble_eq_true rfl) ?_
      refine b_iload rfl rfl ?_
      refine b_iload_n rfl rfl ?_
      refine b_icmp_le rfl (fun c_33 => ?_) (fun c_33 => ?_)
      · refine b_iinc rfl rfl (Nat.le_of_ble_eq_true rfl) ?_
        refine b_goto rfl ?_
        first | (rw [if_neg (Int32.not_lt.mpr c_33)] at ih; exact b_eq (ih _) (by rw [nI_succ]; rfl) rfl rfl) | (rw [if_pos (Int32.not_le.mp c_33)] at ih; exact b_eq (ih _) (by rw [nI_succ]; rfl) rfl rfl)
      · refine b_iload rfl rfl ?_
        refine b_istore_n rfl (Nat.le_of_ble_eq_true rfl) ?_
        refine b_iload_n rfl rfl ?_
        refine b_istore_n rfl (Nat.le_of_ble_eq_true rfl) ?_
        refine b_iinc rfl rfl (Nat.le_of_ble_eq_true rfl) ?_
        refine b_goto rfl ?_
        first | (rw [if_neg (Int32.not_lt.mpr c_33)] at ih; exact b_eq (ih _) (by rw [nI_succ]; rfl) rfl rfl) | (rw [if_pos (Int32.not_le.mp c_33)] at ih; exact b_eq (ih _) (by rw [nI_succ]; rfl) rfl rfl)
theorem q_X_opposed {x : Int32} (hA : hs_A I R t N Q) : hn_F 1 hm_X_opposed [.ref 0, .int x] (I, J, R) (fun r D' => hs_sx t I J R D' ∧ r = some (.int (sp_at x N.1 (fun k => sp_opp (nA N) ((1 : Int32) <<< (nI k &&& 31)) N.1) (-1)))) := by
  have hA0 := hA
  obtain ⟨hR, r2, ht, hN, hX, hw, hz, hAw⟩ := hA
  have hN0 := hN
  have hX0 := hX
  have hw0 := hw
  obtain ⟨n0, n8, n4, nk, nh, na, hc, ncd⟩ := hN
  obtain ⟨x1, x2, x3, x4, x5, x6, x7⟩ := hX
  obtain ⟨r6, r7, r8, r11, r12, r13, r14, r15, r16, r17, r18⟩ := hs_x0 hR
  have hSt := hs_St_of hR (show 44 ∈ hs_sc by decide)
  have hNt := hs_Net_of hR ht
  obtain ⟨_, sk0, sk1, sk2, sk3, sk4, g0, g1, g2, g3⟩ := id hSt
  obtain ⟨tt5, tn0, tn1, tn2, tn3, tn4, tn5, tn6, tn7, tn8, tn9, tn10, ts1, ts2, ts3, ts4, ts5, ts7, ts8, tl0, tl2, tl6, tl7⟩ := id hNt
  refine hn_F_of _ hk_X_opposed rfl (Nat.le_of_ble_eq_true rfl) ?_
  by_cases hx : sp_in x N.1
  · obtain ⟨k, hk, rfl⟩ := sp_in_nat hx
    rw [sp_at_in hk n8]
    refine b_aload_n rfl rfl ?_
    refine b_iload_n rfl rfl ?_
    refine b_callV rfl rfl hk_X_isKnot rfl rfl rfl (by first | rfl | assumption) rfl (Nat.le_of_ble_eq_true rfl) (q_X_isKnot hA0) (Nat.le_of_ble_eq_true rfl) (fun r_2 D_2 q_2 => ?_)
    obtain ⟨rfl, hq⟩ := q_2
    rw [if_pos hx] at hq
    subst hq
    refine b_if_eq rfl (fun c_5 => ?_) (fun c_5 => ?_)
    · exact absurd c_5 (by decide)
    · refine b_aload_n rfl rfl ?_
      refine b_getR rfl (by first | rfl | assumption) rfl (by assumption) ?_
      refine b_iconst rfl ?_
      refine b_iload_n rfl rfl ?_
      refine b_ishl rfl ?_
      refine b_callS rfl rfl hk_Reasons_opposersOf rfl rfl rfl (Nat.le_of_ble_eq_true rfl) (q_Reasons_opposersOf hNt n0 n8) (Nat.le_of_ble_eq_true rfl) (fun r_15 D_15 q_15 => ?_)
      obtain ⟨rfl, hq⟩ := q_15
      rw [na] at hq
      subst hq
      refine b_goto rfl ?_
      exact b_ireturn rfl trivial (⟨hs_sx_r hz, rfl⟩)
  · rw [sp_at_out hx]
    refine b_aload_n rfl rfl ?_
    refine b_iload_n rfl rfl ?_
    refine b_callV rfl rfl hk_X_isKnot rfl rfl rfl (by first | rfl | assumption) rfl (Nat.le_of_ble_eq_true rfl) (q_X_isKnot hA0) (Nat.le_of_ble_eq_true rfl) (fun r_2 D_2 q_2 => ?_)
    obtain ⟨rfl, hq⟩ := q_2
    rw [if_neg hx] at hq
    subst hq
    refine b_if_eq rfl (fun c_5 => ?_) (fun c_5 => ?_)
    · refine b_iconst rfl ?_
      exact b_ireturn rfl trivial (⟨hs_sx_r hz, rfl⟩)
    · exact absurd rfl c_5
theorem q_X_defends {x : Int32} (hA : hs_A I R t N Q) : hn_F 1 hm_X_defends [.ref 0, .int x] (I, J, R) (fun r D' => hs_sx t I J R D' ∧ r = some (.int (sp_at x N.1 (fun k => sp_opp (nA N) (sp_opp (nA N) ((1 : Int32) <<< (nI k &&& 31)) N.1) N.1) (-1)))) := by
  have hA0 := hA
  obtain ⟨hR, r2, ht, hN, hX, hw, hz, hAw⟩ := hA
  have hN0 := hN
  have hX0 := hX
  have hw0 := hw
  obtain ⟨n0, n8, n4, nk, nh, na, hc, ncd⟩ := hN
  obtain ⟨x1, x2, x3, x4, x5, x6, x7⟩ := hX
  obtain ⟨r6, r7, r8, r11, r12, r13, r14, r15, r16, r17, r18⟩ := hs_x0 hR
  have hSt := hs_St_of hR (show 44 ∈ hs_sc by decide)
  have hNt := hs_Net_of hR ht
  obtain ⟨_, sk0, sk1, sk2, sk3, sk4, g0, g1, g2, g3⟩ := id hSt
  obtain ⟨tt5, tn0, tn1, tn2, tn3, tn4, tn5, tn6, tn7, tn8, tn9, tn10, ts1, ts2, ts3, ts4, ts5, ts7, ts8, tl0, tl2, tl6, tl7⟩ := id hNt
  refine hn_F_of _ hk_X_defends rfl (Nat.le_of_ble_eq_true rfl) ?_
  by_cases hx : sp_in x N.1
  · obtain ⟨k, hk, rfl⟩ := sp_in_nat hx
    rw [sp_at_in hk n8]
    refine b_aload_n rfl rfl ?_
    refine b_iload_n rfl rfl ?_
    refine b_callV rfl rfl hk_X_isKnot rfl rfl rfl (by first | rfl | assumption) rfl (Nat.le_of_ble_eq_true rfl) (q_X_isKnot hA0) (Nat.le_of_ble_eq_true rfl) (fun r_2 D_2 q_2 => ?_)
    obtain ⟨rfl, hq⟩ := q_2
    rw [if_pos hx] at hq
    subst hq
    refine b_if_eq rfl (fun c_5 => ?_) (fun c_5 => ?_)
    · exact absurd c_5 (by decide)
    · refine b_aload_n rfl rfl ?_
      refine b_getR rfl (by first | rfl | assumption) rfl (by assumption) ?_
      refine b_aload_n rfl rfl ?_
      refine b_getR rfl (by first | rfl | assumption) rfl (by assumption) ?_
      refine b_iconst rfl ?_
      refine b_iload_n rfl rfl ?_
      refine b_ishl rfl ?_
      refine b_callS rfl rfl hk_Reasons_opposersOf rfl rfl rfl (Nat.le_of_ble_eq_true rfl) (q_Reasons_opposersOf hNt n0 n8) (Nat.le_of_ble_eq_true rfl) (fun r_19 D_19 q_19 => ?_)
      obtain ⟨rfl, hq⟩ := q_19
      rw [na] at hq
      subst hq
      refine b_callS rfl rfl hk_Reasons_opposersOf rfl rfl rfl (Nat.le_of_ble_eq_true rfl) (q_Reasons_opposersOf hNt n0 n8) (Nat.le_of_ble_eq_true rfl) (fun r_22 D_22 q_22 => ?_)
      obtain ⟨rfl, hq⟩ := q_22
      rw [na] at hq
      subst hq
      refine b_goto rfl ?_
      exact b_ireturn rfl trivial (⟨hs_sx_r hz, rfl⟩)
  · rw [sp_at_out hx]
    refine b_aload_n rfl rfl ?_
    refine b_iload_n rfl rfl ?_
    refine b_callV rfl rfl hk_X_isKnot rfl rfl rfl (by first | rfl | assumption) rfl (Nat.le_of_ble_eq_true rfl) (q_X_isKnot hA0) (Nat.le_of_ble_eq_true rfl) (fun r_2 D_2 q_2 => ?_)
    obtain ⟨rfl, hq⟩ := q_2
    rw [if_neg hx] at hq
    subst hq
    refine b_if_eq rfl (fun c_5 => ?_) (fun c_5 => ?_)
    · refine b_iconst rfl ?_
      exact b_ireturn rfl trivial (⟨hs_sx_r hz, rfl⟩)
    · exact absurd rfl c_5
def v_sure (ag : Nat → Int32) (n : Nat) : Nat → Int32 := sp_up (fun _ s => s ||| sp_dfd ag n s n) 0
theorem q_X_sure (hA : hs_A I R t N Q) : hn_F 3 hm_X_sure [.ref 0] (I, J, R) (fun r D' => hs_sx t I J R D' ∧ r = some (.int (v_sure (nA N) N.1 8))) := by
  obtain ⟨hR, r2, ht, hN, hX, hw, hz, hAw⟩ := hA
  have hN0 := hN
  have hX0 := hX
  have hw0 := hw
  obtain ⟨n0, n8, n4, nk, nh, na, hc, ncd⟩ := hN
  obtain ⟨x1, x2, x3, x4, x5, x6, x7⟩ := hX
  obtain ⟨r6, r7, r8, r11, r12, r13, r14, r15, r16, r17, r18⟩ := hs_x0 hR
  have hSt := hs_St_of hR (show 44 ∈ hs_sc by decide)
  have hNt := hs_Net_of hR ht
  obtain ⟨_, sk0, sk1, sk2, sk3, sk4, g0, g1, g2, g3⟩ := id hSt
  obtain ⟨tt5, tn0, tn1, tn2, tn3, tn4, tn5, tn6, tn7, tn8, tn9, tn10, ts1, ts2, ts3, ts4, ts5, ts7, ts8, tl0, tl2, tl6, tl7⟩ := id hNt
  refine hn_F_of _ hk_X_sure rfl (Nat.le_of_ble_eq_true rfl) ?_
  refine b_iconst rfl ?_
  refine b_istore_n rfl (Nat.le_of_ble_eq_true rfl) ?_
  refine b_iconst rfl ?_
  refine b_istore_n rfl (Nat.le_of_ble_eq_true rfl) ?_
  refine b_eq (sp_ind 8 (fun k => hn_B 3 hm_X_sure (fun r D' => hs_sx t I J R D' ∧ r = some (.int (v_sure (nA N) N.1 8))) 4 [.ref 0, .int (v_sure (nA N) N.1 k), .int (nI k)] [] (I, J, R)) ?_ ?_) (by rw [nI_0]; rfl) rfl rfl
  · refine b_iload_n rfl rfl ?_
    refine b_bipush rfl ?_
    refine b_icmp_ge rfl (fun c_7 => ?_) (fun c_7 => ?_)
    · refine b_iload_n rfl rfl ?_
      exact b_ireturn rfl trivial (⟨hs_sx_r hz, rfl⟩)
    · exact absurd (show (8 : Int32) ≤ nI 8 by decide) c_7
  · intro k hk ih
    refine b_iload_n rfl rfl ?_
    refine b_bipush rfl ?_
    refine b_icmp_ge rfl (fun c_7 => ?_) (fun c_7 => ?_)
    · exact absurd (show nI 8 ≤ nI k from c_7) (nI_ge hk (by omega))
    · refine b_iload_n rfl rfl ?_
      refine b_aload_n rfl rfl ?_
      refine b_getR rfl (by first | rfl | assumption) rfl (by assumption) ?_
      refine b_iload_n rfl rfl ?_
      refine b_callS rfl rfl hk_Reasons_defendedBy rfl rfl rfl (Nat.le_of_ble_eq_true rfl) (q_Reasons_defendedBy hNt n0 n8) (Nat.le_of_ble_eq_true rfl) (fun r_16 D_16 q_16 => ?_)
      obtain ⟨rfl, hq⟩ := q_16
      rw [na] at hq
      subst hq
      refine b_ior rfl ?_
      refine b_istore_n rfl (Nat.le_of_ble_eq_true rfl) ?_
      refine b_iinc rfl rfl (Nat.le_of_ble_eq_true rfl) ?_
      refine b_goto rfl ?_
      exact b_eq ih (by simp only [nI_succ, v_sure, sp_up]; rfl) rfl rfl
end
end HNquest
