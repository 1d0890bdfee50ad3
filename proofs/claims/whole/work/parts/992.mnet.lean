section HNmnet
variable {I I' : Nat → Nat → Int32} {J J' : Nat → Nat → Int64} {R R' : Nat → Nat → Option Nat}
/-! a line goes on -/
theorem p_ln_up {f : Nat → Nat} {n E : Nat} {s : rd} {B : sp_B} (hE : tE (tq f n) E) (h0 : s.1 = 0) (hk : s.2 < E) (h8 : bK B ≤ 8) (h : (p_ln f n (s, B)).1.1 = 0) : s.2 < (p_ln f n (s, B)).1.2 := by
  obtain ⟨X, hXd⟩ : ∃ X, X = p_ln f n (s, B) := ⟨_, rfl⟩
  rw [← hXd] at h ⊢
  by_cases w2 : wx (tq f n s.2) = 2
  · have hX : X.1 = p_kn f n (bNm B) (bK B) (bPm B) (bP B) s := by rw [hXd]; exact congrArg Prod.fst ((if_pos w2 : p_ln f n (s, B) = _))
    rw [hX] at h ⊢
    obtain ⟨_, _, _, _, _, _, _, _, _, e⟩ := p_kn_1 h
    rw [e]
    show s.2 < s.2 + 6
    omega
  by_cases w4 : wx (tq f n s.2) = 4
  · have hX : X.1 = p_pr f n (bNm B) (bK B) (bSt B) 16 s := by rw [hXd]; exact congrArg Prod.fst (((if_neg w2).trans (if_pos w4) : p_ln f n (s, B) = _))
    rw [hX] at h ⊢
    obtain ⟨_, _, _, _, _, _, _, _, _, _, e, _⟩ := p_pr_1 h h8
    rw [e]
    show s.2 < s.2 + 4
    omega
  by_cases w5 : wx (tq f n s.2) = 5
  · have hX : X.1 = p_pr f n (bNm B) (bK B) (bAg B) 12 s := by rw [hXd]; exact congrArg Prod.fst ((((if_neg w2).trans (if_neg w4)).trans (if_pos w5) : p_ln f n (s, B) = _))
    rw [hX] at h ⊢
    obtain ⟨_, _, _, _, _, _, _, _, _, _, e, _⟩ := p_pr_1 h h8
    rw [e]
    show s.2 < s.2 + 4
    omega
  by_cases w6 : wx (tq f n s.2) = 6
  · have hX : X.1 = p_pn f n (bNm B) (bK B) (bPm B) (bP B) s := by rw [hXd]; exact congrArg Prod.fst (((((if_neg w2).trans (if_neg w4)).trans (if_neg w5)).trans (if_pos w6) : p_ln f n (s, B) = _))
    rw [hX] at h ⊢
    obtain ⟨_, _, _, _, _, _, _, _, _, _, e⟩ := p_pn_1 h
    rw [e]
    show s.2 < s.2 + 7
    omega
  by_cases w9 : wx (tq f n s.2) = 9
  · have hX : X.1 = p_lu f n (¬ bL B = none) s := by rw [hXd]; exact congrArg Prod.fst ((((((if_neg w2).trans (if_neg w4)).trans (if_neg w5)).trans (if_neg w6)).trans (if_pos w9) : p_ln f n (s, B) = _))
    by_cases hL : ¬ bL B = none
    · rw [hX, show p_lu f n (¬ bL B = none) s = fl f n 3 s from if_pos hL] at h
      exact absurd h (fl_ne (by omega))
    · have e1 : p_lu f n (¬ bL B = none) s = p_e f n (if (l_z f n s).1 = 0 then (0, (l_z f n s).2.1) else fl f n (l_z f n s).1 (0, (l_z f n s).2.1)) := if_neg hL
      have pl := p_lu_m (s := s) hE hk rfl
      have lz := (l_rd_m hE hk (x := m_form (tq f n) (m_part (tq f n) 5) (0, s.2 + 1, [])) rfl (y := l_z f n s) rfl).1
      have hln := (hLn_form (T := tq f n) (hLn_part (T := tq f n) 5) (0, s.2 + 1, [])).2
      rw [hX, e1, ← pl.1] at h ⊢
      obtain ⟨a1, a2, a3⟩ := p_e_1 h
      rw [a3, rdx_2]
      have hln : s.2 + 1 ≤ (m_form (tq f n) (m_part (tq f n) 5) (0, s.2 + 1, [])).2.1 := hln
      show s.2 < (m_form (tq f n) (m_part (tq f n) 5) (0, s.2 + 1, [])).2.1 + 1
      omega
  · have hX : X.1 = fl f n 1 s := by rw [hXd]; exact congrArg Prod.fst ((((((if_neg w2).trans (if_neg w4)).trans (if_neg w5)).trans (if_neg w6)).trans (if_neg w9) : p_ln f n (s, B) = _))
    rw [hX] at h
    exact absurd h (fl_ne (by omega))
/-! how it begins -/
def b_Q (B : sp_B) : sp_Q := (bSt B, fun p => if p < bP B then nI (bWl B p) else 0, fun p => if p < bP B then nI (bPl B p) else if p < 4 then -1 else 0, fun _ => 0, 0)
theorem b_Qw {B : sp_B} (h : hs_Bw B) : hs_Qw (bK B) (bP B) (b_Q B) := by
  obtain ⟨s1, s2, s3, a1, a2, p, k, k8, p4⟩ := h
  refine ⟨fun q hq => ?_, s1, s2, s3, fun q hq => ⟨bWl B q, (p q hq).1, if_pos hq⟩, fun q hq => if_neg (by omega), fun q hq h4 => (if_neg (by omega)).trans (if_pos h4), fun q hq => (if_neg (by omega)).trans (if_neg (by omega)), fun _ _ => rfl⟩
  show (if q < bP B then nI (bPl B q) else if q < 4 then -1 else 0) = -1 ∨ _
  by_cases hqp : q < bP B
  · exact Or.inr ⟨bPl B q, (p q hqp).2, if_pos hqp⟩
  · exact Or.inl ((if_neg hqp).trans (if_pos hq))
theorem q_at_b {t : Nat} {B : sp_B} (h : hs_Bx I J t B) : q_at I (t + 11) = b_Q B := by
  obtain ⟨hn, ⟨b1, b2, b3⟩, ⟨p1, p2, p3, p4, p5, p6, p7⟩, hl⟩ := h
  have e2 : I (t + 11 + 2) = fun p => if p < bP B then nI (bWl B p) else 0 := funext (fun p => by
    by_cases hp : p < bP B
    · rw [if_pos hp]; exact (p1 p hp).1
    · rw [if_neg hp]; exact p2 p (by omega))
  have e3 : I (t + 11 + 3) = fun p => if p < bP B then nI (bPl B p) else if p < 4 then -1 else 0 := funext (fun p => by
    by_cases hp : p < bP B
    · rw [if_pos hp]; exact (p1 p hp).2
    · rw [if_neg hp]
      by_cases h4 : p < 4
      · rw [if_pos h4]; exact p3 p (by omega) h4
      · rw [if_neg h4]; exact p4 p (by omega))
  have e4 : I (t + 11 + 4) = fun _ => 0 := funext p5
  unfold q_at b_Q
  rw [e2, e3, e4, p6, b2]
theorem q_M_standsAsAlways {b : Nat} {x : Int32} (hM : hs_M R) (hx : x = nI b) (hb : b = 0 ∨ b = 60) : hn_F 0 hm_M_standsAsAlways [.ref 188, .int x] (I, J, R) (fun r D' => r = none ∧ ∃ I2, D' = (I2, J, R) ∧ (∀ c, c ≠ 194 → I2 c = I c) ∧ ∀ j, I2 194 j = if b ≤ j ∧ j < b + 60 then (if j = b + 4 then -1 else 0) else I 194 j) := by
  subst hx
  refine hn_F_of _ hk_M_standsAsAlways rfl (Nat.le_of_ble_eq_true rfl) ?_
  obtain ⟨m1, m4, m5, m6, m9, m10, m11, m12, m14, m15, m16, m17, m20, m21, m22, m23, m25, m27, m28, m29, m30, m31, m32⟩ := id hM
  obtain ⟨P, hP⟩ : ∃ P : Option Value → hnD → Prop, P = (fun r D' => r = none ∧ ∃ I2, D' = (I2, J, R) ∧ (∀ c, c ≠ 194 → I2 c = I c) ∧ ∀ j, I2 194 j = if b ≤ j ∧ j < b + 60 then (if j = b + 4 then -1 else 0) else I 194 j) := ⟨_, rfl⟩
  rw [← hP]
  have lp : ∀ I1, (∀ c, c ≠ 194 → I1 c = I c) → (∀ j, I1 194 j = if b ≤ j ∧ j < b + 0 then 0 else I 194 j) → hn_B 0 hm_M_standsAsAlways P 2 [.ref 188, .int (nI b), .int (nI 0)] [] (I1, J, R) := by
    refine sp_ind 60 (fun k => ∀ I1, (∀ c, c ≠ 194 → I1 c = I c) → (∀ j, I1 194 j = if b ≤ j ∧ j < b + k then 0 else I 194 j) → hn_B 0 hm_M_standsAsAlways P 2 [.ref 188, .int (nI b), .int (nI k)] [] (I1, J, R)) ?_ ?_
    · intro I1 g1 g2
      refine b_iload_n rfl rfl ?_
      refine b_bipush rfl ?_
      refine b_icmp_ge rfl (fun c_5 => ?_) (fun c_5 => ?_)
      · refine b_aload_n rfl rfl ?_
        refine b_getR rfl (by first | rfl | assumption) rfl (by assumption) ?_
        refine b_iload_n rfl rfl ?_
        refine b_iconst rfl ?_
        refine b_iadd rfl ?_
        refine b_iconst rfl ?_
        rw [show nI b + 4 = nI (b + 4) from (nI_ad b 4).symm]
        refine b_iastore rfl (by first | rfl | assumption) (nI_toInt (n := b + 4) (by omega)) (by omega) ?_
        exact b_return_ rfl trivial ((by rw [hP]; exact ⟨rfl, _, rfl, fun c hc => by rw [hn_u_ne _ _ _ hc]; exact g1 c hc, fun j => by rw [hn_u_eq, va_up, g2]; by_cases hj : j = b + 4; (rw [if_pos hj, if_pos (by omega), if_pos hj]); (rw [if_neg hj]; by_cases hj2 : b ≤ j ∧ j < b + 60; (rw [if_pos hj2, if_pos hj2, if_neg hj]); (rw [if_neg hj2, if_neg hj2]))⟩))
      · exact absurd (show (60 : Int32) ≤ nI 60 by decide) c_5
    · intro k hk ih I1 g1 g2
      refine b_iload_n rfl rfl ?_
      refine b_bipush rfl ?_
      refine b_icmp_ge rfl (fun c_5 => ?_) (fun c_5 => ?_)
      · exact absurd ((nI_le_c (c := 60) (by omega) (by omega)).mp c_5) (by omega)
      · refine b_aload_n rfl rfl ?_
        refine b_getR rfl (by first | rfl | assumption) rfl (by assumption) ?_
        refine b_iload_n rfl rfl ?_
        refine b_iload_n rfl rfl ?_
        refine b_iadd rfl ?_
        rw [show nI b + nI k = nI (b + k) from (nI_ad b k).symm]
        refine b_iconst rfl ?_
        refine b_iastore rfl (by first | rfl | assumption) (nI_toInt (n := b + k) (by omega)) (by omega) ?_
        refine b_iinc rfl rfl (Nat.le_of_ble_eq_true rfl) ?_
        refine b_goto rfl ?_
        exact b_lp (ih _ (fun c hc => by rw [hn_u_ne _ _ _ hc]; exact g1 c hc) (fun j => by rw [hn_u_eq, va_up, g2]; by_cases hj : j = b + k; (rw [if_pos hj, if_pos (by omega)]); (rw [if_neg hj]; by_cases hj2 : b ≤ j ∧ j < b + k; (rw [if_pos hj2, if_pos (by omega)]); (rw [if_neg hj2, if_neg (by omega)])))) (le_e (le_e (le_q (by rw [nI_succ]) le_0))) rfl rfl
  refine b_iconst rfl ?_
  refine b_istore_n rfl (Nat.le_of_ble_eq_true rfl) ?_
  exact b_lp (lp I (fun _ _ => rfl) (fun j => by rw [if_neg (by omega)])) (le_e (le_e (le_q (by rfl) le_0))) rfl rfl
def hs_bg (I I2 : Nat → Nat → Int32) (S : sp_Q) : Prop := hs_Qm I2 0 S ∧ I2 204 21 = 0 ∧ I2 204 22 = -1 ∧ I2 201 0 = 0 ∧ I2 188 24 = 0 ∧ I2 188 26 = 0 ∧ (∀ m, m < 4 → I2 205 m = 0) ∧ (∀ b, b ≠ 188 → b ≠ 201 → b ≠ 204 → b ≠ 205 → I2 b = I b) ∧ ∀ i, i ≠ 24 → i ≠ 26 → I2 188 i = I 188 i
theorem q_M_begins {N : sp_N} {S : sp_Q} (hM : hs_M R) (hn : I 194 0 = nI N.1) (n8 : N.1 ≤ 8) (hnp : I 194 3 = nI N.2.1) (n4 : N.2.1 ≤ 4) (hS : hs_Sm I N S) (hw : hs_Qw N.1 N.2.1 S) : hn_F 2 hm_M_begins [.ref 188] (I, J, R) (fun r D' => r = none ∧ ∃ I2, D' = (I2, J, R) ∧ hs_bg I I2 S) := by
  refine hn_F_of _ hk_M_begins rfl (Nat.le_of_ble_eq_true rfl) ?_
  obtain ⟨m1, m4, m5, m6, m9, m10, m11, m12, m14, m15, m16, m17, m20, m21, m22, m23, m25, m27, m28, m29, m30, m31, m32⟩ := id hM
  obtain ⟨P, hP⟩ : ∃ P : Option Value → hnD → Prop, P = (fun r D' => r = none ∧ ∃ I2, D' = (I2, J, R) ∧ hs_bg I I2 S) := ⟨_, rfl⟩
  rw [← hP]
  have lp : ∀ I1, hs_Qm I1 0 S ∧ I1 204 21 = 0 ∧ I1 204 22 = -1 ∧ I1 201 0 = 0 ∧ I1 188 24 = 0 ∧ I1 188 26 = 0 ∧ (∀ m, m < 0 → I1 205 m = 0) ∧ (∀ b, b ≠ 188 → b ≠ 201 → b ≠ 204 → b ≠ 205 → I1 b = I b) ∧ (∀ i, i ≠ 24 → i ≠ 26 → I1 188 i = I 188 i) → hn_B 2 hm_M_begins P 40 [.ref 188, .int (nI 0)] [] (I1, J, R) := by
    refine sp_ind 4 (fun k => ∀ I1, hs_Qm I1 0 S ∧ I1 204 21 = 0 ∧ I1 204 22 = -1 ∧ I1 201 0 = 0 ∧ I1 188 24 = 0 ∧ I1 188 26 = 0 ∧ (∀ m, m < k → I1 205 m = 0) ∧ (∀ b, b ≠ 188 → b ≠ 201 → b ≠ 204 → b ≠ 205 → I1 b = I b) ∧ (∀ i, i ≠ 24 → i ≠ 26 → I1 188 i = I 188 i) → hn_B 2 hm_M_begins P 40 [.ref 188, .int (nI k)] [] (I1, J, R)) ?_ ?_
    · intro I1 g
      refine b_iload_n rfl rfl ?_
      refine b_iconst rfl ?_
      refine b_icmp_ge rfl (fun c_42 => ?_) (fun c_42 => ?_)
      · exact b_return_ rfl trivial ((by rw [hP]; exact ⟨rfl, I1, rfl, g⟩))
      · exact absurd (show (4 : Int32) ≤ nI 4 by decide) c_42
    · intro k hk ih I1 g
      have f : ∀ b, b ≠ 205 → hn_u I1 205 k 0 b = I1 b := fun b hb => hn_u_ne _ _ _ hb
      refine b_iload_n rfl rfl ?_
      refine b_iconst rfl ?_
      refine b_icmp_ge rfl (fun c_42 => ?_) (fun c_42 => ?_)
      · exact absurd ((nI_le_c (c := 4) (by omega) (by omega)).mp c_42) (by omega)
      · refine b_aload_n rfl rfl ?_
        refine b_getR rfl (by first | rfl | assumption) rfl (by assumption) ?_
        refine b_iload_n rfl rfl ?_
        refine b_iconst rfl ?_
        refine b_bastore rfl (by first | rfl | assumption) (by first | assumption | exact nI_toInt (by omega) | exact hi_l0 | exact hi_l1 | exact hi_l2 | exact hi_l3 | exact hi_l4 | exact hi_l5 | exact hi_l6) (by omega) rfl ?_
        refine b_iinc rfl rfl (Nat.le_of_ble_eq_true rfl) ?_
        refine b_goto rfl ?_
        exact b_lp (ih _ ⟨by unfold hs_Qm hs_V at g ⊢; rw [f 204 (by omega)]; exact g.1, by rw [f 204 (by omega)]; exact g.2.1, by rw [f 204 (by omega)]; exact g.2.2.1, by rw [f 201 (by omega)]; exact g.2.2.2.1, by rw [f 188 (by omega)]; exact g.2.2.2.2.1, by rw [f 188 (by omega)]; exact g.2.2.2.2.2.1, fun m hm => by rw [hn_u_eq, va_up]; by_cases hmk : m = k; (rw [if_pos hmk]); (rw [if_neg hmk]; exact g.2.2.2.2.2.2.1 m (by omega)), fun b h1 h2 h3 h4 => by rw [f b h4]; exact g.2.2.2.2.2.2.2.1 b h1 h2 h3 h4, fun i h1 h2 => by rw [f 188 (by omega)]; exact g.2.2.2.2.2.2.2.2 i h1 h2⟩) (le_e (le_q (by rw [nI_succ]) le_0)) rfl rfl
  refine b_aload_n rfl rfl ?_
  refine b_iconst rfl ?_
  refine b_callV rfl rfl hk_M_starts rfl rfl rfl (by first | rfl | assumption) rfl (Nat.le_of_ble_eq_true rfl) (q_M_starts (b := 0) hM hn n8 hnp n4 hS hw (by omega) rfl) (Nat.le_of_ble_eq_true rfl) (fun r_2 D_2 q_2 => ?_)
  obtain ⟨rfl, hf, _, hq⟩ := q_2
  obtain ⟨I1, rfl, g1⟩ := hf.out
  have hq : hs_Qm I1 0 S := hq
  refine b_aload_n rfl rfl ?_
  refine b_getR rfl (by first | rfl | assumption) rfl (by assumption) ?_
  refine b_bipush rfl ?_
  refine b_iconst rfl ?_
  refine b_iastore rfl (by first | rfl | assumption) (show (21 : Int32).toInt = ((21 : Nat) : Int) by decide) (by omega) ?_
  refine b_aload_n rfl rfl ?_
  refine b_getR rfl (by first | rfl | assumption) rfl (by assumption) ?_
  refine b_bipush rfl ?_
  refine b_iconst rfl ?_
  refine b_iastore rfl (by first | rfl | assumption) (show (22 : Int32).toInt = ((22 : Nat) : Int) by decide) (by omega) ?_
  refine b_aload_n rfl rfl ?_
  refine b_getR rfl (by first | rfl | assumption) rfl (by assumption) ?_
  refine b_iconst rfl ?_
  refine b_iconst rfl ?_
  refine b_iastore rfl (by first | rfl | assumption) (by first | assumption | exact nI_toInt (by omega) | exact hi_l0 | exact hi_l1 | exact hi_l2 | exact hi_l3 | exact hi_l4 | exact hi_l5 | exact hi_l6) (by omega) ?_
  refine b_aload_n rfl rfl ?_
  refine b_iconst rfl ?_
  refine b_putI rfl (by first | rfl | assumption) rfl rfl ⟨rfl, rfl⟩ ?_
  refine b_aload_n rfl rfl ?_
  refine b_iconst rfl ?_
  refine b_putI rfl (by first | rfl | assumption) rfl rfl ⟨rfl, rfl⟩ ?_
  refine b_iconst rfl ?_
  refine b_istore_n rfl (Nat.le_of_ble_eq_true rfl) ?_
  obtain ⟨I2, hI2⟩ : ∃ z, z = hn_u (hn_u (hn_u (hn_u (hn_u I1 204 21 0) 204 22 (-1)) 201 0 0) 188 24 0) 188 26 0 := ⟨_, rfl⟩
  rw [← hI2]
  have e204 : ∀ j, I2 204 j = if j = 22 then -1 else if j = 21 then 0 else I1 204 j := (fun j => by rw [hI2, hn_u_ne _ _ _ (by omega), hn_u_ne _ _ _ (by omega), hn_u_ne _ _ _ (by omega), hn_u_eq, va_up, hn_u_eq, va_up])
  have e188 : ∀ j, I2 188 j = if j = 26 then 0 else if j = 24 then 0 else I1 188 j := (fun j => by rw [hI2, hn_u_eq, va_up, hn_u_eq, va_up, hn_u_ne _ _ _ (show 188 ≠ 201 by omega), hn_u_ne _ _ _ (show 188 ≠ 204 by omega), hn_u_ne _ _ _ (show 188 ≠ 204 by omega)])
  have e0 : ∀ b, b ≠ 188 → b ≠ 201 → b ≠ 204 → I2 b = I1 b := (fun b h1 h2 h3 => by rw [hI2, hn_u_ne _ _ _ h1, hn_u_ne _ _ _ h1, hn_u_ne _ _ _ h2, hn_u_ne _ _ _ h3, hn_u_ne _ _ _ h3])
  have hq2 : hs_Qm I2 0 S := (by obtain ⟨⟨v0, v1, v2, v3, v4⟩, v5⟩ := hq; refine ⟨⟨v0, fun k hk => ?_, fun k hk => ?_, fun k hk => ?_, fun k hk => ?_⟩, ?_⟩; (rw [e204, if_neg (by omega), if_neg (by omega)]; exact v1 k hk); (rw [e204, if_neg (by omega), if_neg (by omega)]; exact v2 k hk); (rw [e204, if_neg (by omega), if_neg (by omega)]; exact v3 k hk); (rw [e204, if_neg (by omega), if_neg (by omega)]; exact v4 k hk); (rw [e204, if_neg (by omega), if_neg (by omega)]; exact v5))
  exact b_lp (lp I2 ⟨hq2, by rw [e204, if_neg (by omega), if_pos rfl], by rw [e204, if_pos rfl], by rw [hI2, hn_u_ne _ _ _ (by omega), hn_u_ne _ _ _ (by omega), hn_u_eq, va_up, if_pos rfl], by rw [e188, if_neg (by omega), if_pos rfl], by rw [e188, if_pos rfl], fun m hm => absurd hm (Nat.not_lt_zero _), fun b h1 h2 h3 _ => by rw [e0 b h1 h2 h3]; exact g1 b h3, fun i h1 h2 => by rw [e188, if_neg h2, if_neg h1, g1 188 (by omega)]⟩) (le_e (le_q (by rfl) le_0)) rfl rfl
end HNmnet
