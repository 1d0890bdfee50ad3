section HNmrestr
variable {I I' : Nat → Nat → Int32} {J J' : Nat → Nat → Int64} {R R' : Nat → Nat → Option Nat}
/-- lines being read -/
def hs_Lq3 (I : Nat → Nat → Int32) (L : sp_L) : Prop := ∀ i, i < L.1 → I 201 (125 + 3 * i) = nI (L.2 i).1 ∧ (¬ (L.2 i).1 = 0 → I 201 (126 + 3 * i) = nI (L.2 i).2.1) ∧ (ln_1 (L.2 i).1 → I 201 (127 + 3 * i) = nI (L.2 i).2.2)
theorem wh_85 {f : Nat → Nat} {n a : Nat} {s : rd} (h0 : s.1 = 0) (ha : a ≤ 4) (hw : wx (tq f n s.2) = 10 + a) : wh f n s 8 5 = nI a := by
  have e : wh f n s 8 5 = nI (wx (tq f n s.2) - 8 - 2) := if_pos ⟨h0, by omega, by omega⟩
  rw [e, show wx (tq f n s.2) - 8 - 2 = a by omega]
/-- a line by its kind -/
theorem p_rl_a {f : Nat → Nat} {n kn pn a : Nat} {nm pm : Nat → Nat} {s : rd} {L : sp_L} (ha : a ≤ 4) (hw : wx (tq f n s.2) = 10 + a) (hL : L.1 < 40) : (p_rl f n nm kn pm pn (s, L)).1 = p_e f n (qr f n nm kn pm pn a (0, s.2 + 1)) ∧ ∃ x1 x2, (p_rl f n nm kn pm pn (s, L)).2 = lx_add L (a, x1, x2) ∧ (¬ a = 0 → x1 = (if a = 4 then o_k f n nm kn (0, s.2 + 1) else o_k f n pm pn (0, s.2 + 1)).getD 0) ∧ (ln_1 a → x2 = (o_k f n nm kn (0, s.2 + 2)).getD 0) := by
  have e1 : p_u f n (40 ≤ L.1) 5 s = (0, s.2 + 1) := if_neg (by omega)
  rcases (show a = 0 ∨ a = 1 ∨ a = 2 ∨ a = 3 ∨ a = 4 by omega) with rfl | rfl | rfl | rfl | rfl
  · have hl : p_rl f n nm kn pm pn (s, L) = (p_e f n (p_u f n (40 ≤ L.1) 5 s), lx_add L (0, 0, 0)) := if_pos hw
    rw [hl, e1]
    exact ⟨rfl, 0, 0, rfl, fun z => absurd rfl z, fun z => by rcases z with z | z | z <;> cases z⟩
  · have hl : p_rl f n nm kn pm pn (s, L) = (p_e f n (p_kt f n nm kn (p_kt f n pm pn (p_u f n (40 ≤ L.1) 5 s))), lx_add L (1, (o_k f n pm pn (0, s.2 + 1)).getD 0, (o_k f n nm kn (0, s.2 + 2)).getD 0)) := (if_neg (show ¬ wx (tq f n s.2) = 10 by omega)).trans (if_pos hw)
    rw [hl, e1]
    exact ⟨rfl, _, _, rfl, fun _ => rfl, fun _ => rfl⟩
  · have hl : p_rl f n nm kn pm pn (s, L) = (p_e f n (p_kt f n pm pn (p_u f n (40 ≤ L.1) 5 s)), lx_add L (2, (o_k f n pm pn (0, s.2 + 1)).getD 0, 0)) := ((if_neg (show ¬ wx (tq f n s.2) = 10 by omega)).trans (if_neg (show ¬ wx (tq f n s.2) = 11 by omega))).trans (if_pos hw)
    rw [hl, e1]
    exact ⟨rfl, _, _, rfl, fun _ => rfl, fun z => by rcases z with z | z | z <;> cases z⟩
  · have hl : p_rl f n nm kn pm pn (s, L) = (p_e f n (p_kt f n nm kn (p_kt f n pm pn (p_u f n (40 ≤ L.1) 5 s))), lx_add L (3, (o_k f n pm pn (0, s.2 + 1)).getD 0, (o_k f n nm kn (0, s.2 + 2)).getD 0)) := (((if_neg (show ¬ wx (tq f n s.2) = 10 by omega)).trans (if_neg (show ¬ wx (tq f n s.2) = 11 by omega))).trans (if_neg (show ¬ wx (tq f n s.2) = 12 by omega))).trans (if_pos hw)
    rw [hl, e1]
    exact ⟨rfl, _, _, rfl, fun _ => rfl, fun _ => rfl⟩
  · have hl : p_rl f n nm kn pm pn (s, L) = (p_e f n (p_o f n nm kn (oI (o_k f n nm kn (p_u f n (40 ≤ L.1) 5 s))) 0 (p_kt f n nm kn (p_u f n (40 ≤ L.1) 5 s))), lx_add L (4, (o_k f n nm kn (0, s.2 + 1)).getD 0, (o_k f n nm kn (0, s.2 + 2)).getD 0)) := ((((if_neg (show ¬ wx (tq f n s.2) = 10 by omega)).trans (if_neg (show ¬ wx (tq f n s.2) = 11 by omega))).trans (if_neg (show ¬ wx (tq f n s.2) = 12 by omega))).trans (if_neg (show ¬ wx (tq f n s.2) = 13 by omega))).trans (if_pos hw)
    rw [hl, e1]
    exact ⟨rfl, _, _, rfl, fun _ => rfl, fun _ => rfl⟩
theorem qr_f {f : Nat → Nat} {n kn pn a : Nat} {nm pm : Nat → Nat} {s : rd} (h : ¬ s.1 = 0) : qr f n nm kn pm pn a s = s := by
  unfold qr
  split
  · rfl
  split
  · exact p_kt_s h
  split
  · rw [p_kt_s h, p_o_s h]
  · rw [p_kt_s h, p_kt_s h]
/-- a line too many -/
theorem p_rl_5 {f : Nat → Nat} {n kn pn a : Nat} {nm pm : Nat → Nat} {s : rd} {L : sp_L} (ha : a ≤ 4) (hw : wx (tq f n s.2) = 10 + a) (hL : 40 ≤ L.1) : (p_rl f n nm kn pm pn (s, L)).1 = fl f n 5 s := by
  have e1 : p_u f n (40 ≤ L.1) 5 s = fl f n 5 s := if_pos hL
  have hn : ¬ (fl f n 5 s).1 = 0 := fl_ne (by omega)
  rcases (show a = 0 ∨ a = 1 ∨ a = 2 ∨ a = 3 ∨ a = 4 by omega) with rfl | rfl | rfl | rfl | rfl
  · have hl : p_rl f n nm kn pm pn (s, L) = (p_e f n (p_u f n (40 ≤ L.1) 5 s), lx_add L (0, 0, 0)) := if_pos hw
    rw [hl, e1]
    exact p_e_n hn
  · have hl : p_rl f n nm kn pm pn (s, L) = (p_e f n (p_kt f n nm kn (p_kt f n pm pn (p_u f n (40 ≤ L.1) 5 s))), lx_add L (1, (o_k f n pm pn (0, s.2 + 1)).getD 0, (o_k f n nm kn (0, s.2 + 2)).getD 0)) := (if_neg (show ¬ wx (tq f n s.2) = 10 by omega)).trans (if_pos hw)
    rw [hl, e1, p_kt_s hn, p_kt_s hn]
    exact p_e_n hn
  · have hl : p_rl f n nm kn pm pn (s, L) = (p_e f n (p_kt f n pm pn (p_u f n (40 ≤ L.1) 5 s)), lx_add L (2, (o_k f n pm pn (0, s.2 + 1)).getD 0, 0)) := ((if_neg (show ¬ wx (tq f n s.2) = 10 by omega)).trans (if_neg (show ¬ wx (tq f n s.2) = 11 by omega))).trans (if_pos hw)
    rw [hl, e1, p_kt_s hn]
    exact p_e_n hn
  · have hl : p_rl f n nm kn pm pn (s, L) = (p_e f n (p_kt f n nm kn (p_kt f n pm pn (p_u f n (40 ≤ L.1) 5 s))), lx_add L (3, (o_k f n pm pn (0, s.2 + 1)).getD 0, (o_k f n nm kn (0, s.2 + 2)).getD 0)) := (((if_neg (show ¬ wx (tq f n s.2) = 10 by omega)).trans (if_neg (show ¬ wx (tq f n s.2) = 11 by omega))).trans (if_neg (show ¬ wx (tq f n s.2) = 12 by omega))).trans (if_pos hw)
    rw [hl, e1, p_kt_s hn, p_kt_s hn]
    exact p_e_n hn
  · have hl : p_rl f n nm kn pm pn (s, L) = (p_e f n (p_o f n nm kn (oI (o_k f n nm kn (p_u f n (40 ≤ L.1) 5 s))) 0 (p_kt f n nm kn (p_u f n (40 ≤ L.1) 5 s))), lx_add L (4, (o_k f n nm kn (0, s.2 + 1)).getD 0, (o_k f n nm kn (0, s.2 + 2)).getD 0)) := ((((if_neg (show ¬ wx (tq f n s.2) = 10 by omega)).trans (if_neg (show ¬ wx (tq f n s.2) = 11 by omega))).trans (if_neg (show ¬ wx (tq f n s.2) = 12 by omega))).trans (if_neg (show ¬ wx (tq f n s.2) = 13 by omega))).trans (if_pos hw)
    rw [hl, e1, p_kt_s hn, p_o_s hn]
    exact p_e_n hn
theorem p_rl_n {f : Nat → Nat} {n kn pn : Nat} {nm pm : Nat → Nat} {s : rd} {L : sp_L} (hw : ¬ (10 ≤ wx (tq f n s.2) ∧ wx (tq f n s.2) < 15)) : (p_rl f n nm kn pm pn (s, L)).1 = fl f n 1 s := by
  have hl : p_rl f n nm kn pm pn (s, L) = (fl f n 1 s, L) := (((((if_neg (show ¬ wx (tq f n s.2) = 10 by omega)).trans (if_neg (show ¬ wx (tq f n s.2) = 11 by omega))).trans (if_neg (show ¬ wx (tq f n s.2) = 12 by omega))).trans (if_neg (show ¬ wx (tq f n s.2) = 13 by omega))).trans (if_neg (show ¬ wx (tq f n s.2) = 14 by omega)))
  rw [hl]
/-- what may change while lines are read -/
def hs_f3 (I : Nat → Nat → Int32) (J : Nat → Nat → Int64) (I' : Nat → Nat → Int32) (J' : Nat → Nat → Int64) : Prop := (∀ b, b ≠ 188 → b ≠ 190 → b ≠ 191 → b ≠ 201 → I' b = I b) ∧ (∀ i, i ≠ 0 → i ≠ 2 → i ≠ 3 → i ≠ 7 → i ≠ 8 → I' 188 i = I 188 i) ∧ ∀ b, b ≠ 192 → J' b = J b
def hs_Zr (I : Nat → Nat → Int32) (J : Nat → Nat → Int64) (R : Nat → Nat → Option Nat) (Z : rd × sp_L) (D' : hnD) : Prop := ∃ I2 J2, D' = (I2, J2, R) ∧ I2 188 2 = 0 ∧ I2 188 0 = 0 ∧ hs_f3 I J I2 J2 ∧ ((¬ Z.1.1 = 0 ∧ ∀ j, j < 125 → I2 201 j = I 201 j) ∨ (Z.1.1 = 0 ∧ hs_Lm I2 Z.2))
def cpl (r : Nat → Int32) (k : Nat) : Nat → Int32 := fun j => if 1 ≤ j ∧ j < 1 + k then r (124 + j) else r j
theorem cpl_s {r : Nat → Int32} {k : Nat} : va_up (cpl r k) (1 + k) (r (125 + k)) = cpl r (k + 1) := funext (fun j => by
  show (if j = 1 + k then r (125 + k) else if 1 ≤ j ∧ j < 1 + k then r (124 + j) else r j) = if 1 ≤ j ∧ j < 1 + (k + 1) then r (124 + j) else r j
  by_cases h1 : j = 1 + k
  · rw [if_pos h1, if_pos (by omega), show 124 + j = 125 + k by omega]
  · rw [if_neg h1]
    by_cases h2 : 1 ≤ j ∧ j < 1 + k
    · rw [if_pos h2, if_pos (by omega)]
    · rw [if_neg h2, if_neg (by omega)])
theorem q_M_rest {f : Nat → Nat} {n kn pn : Nat} {nm pm : Nat → Nat} (hR : hs_refs R) (hW : hs_Wm J) (hn : n ≤ 1000) (hS : ∀ i, i < n → I 189 i = nI (f i) ∧ f i < 128) (h2 : I 188 2 = nI n) (hv : ∀ k, (tq f n k).1 = 3 → (tq f n k).2.2.2 < 128) (hN : hs_Nt I J kn nm pn pm) (hw : hs_Jw kn nm pn pm) : hn_F 5 hm_M_rest [.ref 188] (I, J, R) (fun r D' => r = some (.int (nI (p_rest f n nm kn pm pn 41 ((0, 0), lx_0)).1.1)) ∧ (p_rest f n nm kn pm pn 41 ((0, 0), lx_0)).1.1 < 20000 ∧ hs_Zr I J R (p_rest f n nm kn pm pn 41 ((0, 0), lx_0)) D') := by
  have hM := hs_M_of hR
  refine hn_F_of _ hk_M_rest rfl (Nat.le_of_ble_eq_true rfl) ?_
  obtain ⟨m1, m4, m5, m6, m9, m10, m11, m12, m14, m15, m16, m17, m20, m21, m22, m23, m25, m27, m28, m29, m30, m31, m32⟩ := id hM
  obtain ⟨Z, hZ⟩ : ∃ Z, Z = p_rest f n nm kn pm pn 41 ((0, 0), lx_0) := ⟨_, rfl⟩
  rw [← hZ]
  obtain ⟨P, hP⟩ : ∃ P : Option Value → hnD → Prop, P = (fun r D' => r = some (.int (nI Z.1.1)) ∧ Z.1.1 < 20000 ∧ hs_Zr I J R Z D') := ⟨_, rfl⟩
  rw [← hP]
  have SF : ∀ (E : Nat) (x : rd × sp_L) (v : Value) (I1 : Nat → Nat → Int32) (J1 : Nat → Nat → Int64), hs_f3 I J I1 J1 → I1 188 2 = 0 → I1 188 0 = 0 → (∀ j, j < 125 → I1 201 j = I 201 j) → hs_Rm I1 J1 f n E x.1 → ¬ x.1.1 = 0 → Z = x → hn_B 5 hm_M_rest P 11 [.ref 188, v, .null] [] (I1, J1, R) := by
    intro E x v I1 J1 g g2 g0 gl k h0 hx
    have k8 := k.2.2.2.1
    have kb := k.2.2.2.2.2
    refine b_aload_n rfl rfl ?_
    refine b_getI rfl (by first | rfl | assumption) rfl ?_
    rw [k8]
    refine b_if_ne rfl (fun c_15 => ?_) (fun c_15 => ?_)
    · refine b_aload_n rfl rfl ?_
      refine b_getI rfl (by first | rfl | assumption) rfl ?_
      rw [k8]
      refine b_if_le rfl (fun c_101 => ?_) (fun c_101 => ?_)
      · exact absurd c_101 (nI_ps h0 (by omega))
      · refine b_aload_n rfl rfl ?_
        refine b_getI rfl (by first | rfl | assumption) rfl ?_
        rw [k8]
        exact b_ireturn rfl trivial ((by rw [hP, hx]; exact ⟨rfl, kb, I1, J1, rfl, g2, g0, g, Or.inl ⟨h0, gl⟩⟩))
    · exact absurd ((hi_nIe (k := 0) (by omega) (by omega)).mp c_15) h0
  have S97 : ∀ (E : Nat) (s : rd) (L : sp_L) (I1 : Nat → Nat → Int32) (J1 : Nat → Nat → Int64), hs_f3 I J I1 J1 → I1 188 2 = 0 → I1 188 0 = 0 → hs_Rm I1 J1 f n E s → s.1 = 0 → L.1 ≤ 40 → hs_Lq3 I1 L → Z = (s, L) → hn_B 5 hm_M_rest P 97 [.ref 188, .int (nI L.1), .null] [] (I1, J1, R) := by
    intro E s L I1 J1 g g2 g0 k h0 hl hq hx
    have k8 := k.2.2.2.1
    obtain ⟨I2, hI2⟩ : ∃ z, z = hn_u I1 201 0 (nI L.1) := ⟨_, rfl⟩
    have f2 : ∀ b, b ≠ 201 → I2 b = I1 b := fun b hb => by rw [hI2, hn_u_ne _ _ _ hb]
    have e2 : I2 201 = va_up (I1 201) 0 (nI L.1) := by rw [hI2, hn_u_eq]
    have e3 : (3 : Int32) * nI L.1 = nI (3 * L.1) := (nI_ml 3 L.1).symm
    have lp : ∀ I3, I3 201 = cpl (I2 201) 0 → (∀ b, b ≠ 201 → I3 b = I2 b) → hn_B 5 hm_M_rest P 118 [.ref 188, .int (nI L.1), .int (nI 0)] [] (I3, J1, R) := by
      refine sp_ind (3 * L.1) (fun k => ∀ I3, I3 201 = cpl (I2 201) k → (∀ b, b ≠ 201 → I3 b = I2 b) → hn_B 5 hm_M_rest P 118 [.ref 188, .int (nI L.1), .int (nI k)] [] (I3, J1, R)) ?_ ?_
      · intro I3 a1 a2
        have r : ∀ j, I3 201 j = if 1 ≤ j ∧ j < 1 + 3 * L.1 then I2 201 (124 + j) else I2 201 j := fun j => by rw [a1]; rfl
        have r2 : ∀ j, 125 ≤ j → I2 201 j = I1 201 j := fun j hj => by rw [e2, va_up, if_neg (by omega)]
        refine b_iload_n rfl rfl ?_
        refine b_iconst rfl ?_
        refine b_iload_n rfl rfl ?_
        refine b_imul rfl ?_
        rw [e3]
        refine b_icmp_ge rfl (fun c_122 => ?_) (fun c_122 => ?_)
        · refine b_iconst rfl ?_
          exact b_ireturn rfl trivial ((by rw [hP, hx]; exact ⟨by rw [h0]; rfl, by show s.1 < 20000; omega, I3, J1, rfl, by rw [a2 188 (by omega), f2 188 (by omega)]; exact g2, by rw [a2 188 (by omega), f2 188 (by omega)]; exact g0, ⟨fun b h1 h2 h3 h4 => by rw [a2 b h4, f2 b h4]; exact g.1 b h1 h2 h3 h4, fun i i0 i2 i3 i7 i8 => by rw [a2 188 (by omega), f2 188 (by omega)]; exact g.2.1 i i0 i2 i3 i7 i8, g.2.2⟩, Or.inr ⟨h0, by rw [r, if_neg (by omega), e2, va_up, if_pos rfl], fun i hi => by have hi : i < L.1 := hi; rw [r, r, r, if_pos (by omega), if_pos (by omega), if_pos (by omega), r2 _ (by omega), r2 _ (by omega), r2 _ (by omega), show 124 + (1 + 3 * i) = 125 + 3 * i by omega, show 124 + (2 + 3 * i) = 126 + 3 * i by omega, show 124 + (3 + 3 * i) = 127 + 3 * i by omega]; exact hq i hi⟩⟩))
        · exact absurd (nI_le (Nat.le_refl _) (by omega)) c_122
      · intro k hk ih I3 a1 a2
        have r1 : I3 201 (125 + k) = I2 201 (125 + k) := by rw [a1]; exact if_neg (by omega)
        refine b_iload_n rfl rfl ?_
        refine b_iconst rfl ?_
        refine b_iload_n rfl rfl ?_
        refine b_imul rfl ?_
        rw [e3]
        refine b_icmp_ge rfl (fun c_122 => ?_) (fun c_122 => ?_)
        · exact absurd c_122 (nI_ge hk (by omega))
        · refine b_aload_n rfl rfl ?_
          refine b_getR rfl (by first | rfl | assumption) rfl (by assumption) ?_
          refine b_iconst rfl ?_
          refine b_iload_n rfl rfl ?_
          refine b_iadd rfl ?_
          refine b_aload_n rfl rfl ?_
          refine b_getR rfl (by first | rfl | assumption) rfl (by assumption) ?_
          refine b_bipush rfl ?_
          refine b_iload_n rfl rfl ?_
          refine b_iadd rfl ?_
          rw [show (125 : Int32) + nI k = nI (125 + k) from (nI_ad 125 k).symm]
          refine b_iaload rfl (by first | rfl | assumption) (nI_toInt (n := 125 + k) (by omega)) (by omega) ?_
          rw [r1, show (1 : Int32) + nI k = nI (1 + k) from (nI_ad 1 k).symm]
          refine b_iastore rfl (by first | rfl | assumption) (nI_toInt (n := 1 + k) (by omega)) (by omega) ?_
          refine b_iinc rfl rfl (Nat.le_of_ble_eq_true rfl) ?_
          refine b_goto rfl ?_
          exact b_lp (ih _ (by rw [hn_u_eq, a1]; exact cpl_s) (fun b hb => by rw [hn_u_ne _ _ _ hb]; exact a2 b hb)) (le_e (le_e (le_q (by rw [nI_succ]) le_0))) rfl rfl
    refine b_aload_n rfl rfl ?_
    refine b_getI rfl (by first | rfl | assumption) rfl ?_
    rw [k8]
    refine b_if_le rfl (fun c_101 => ?_) (fun c_101 => ?_)
    · refine b_aload_n rfl rfl ?_
      refine b_getR rfl (by first | rfl | assumption) rfl (by assumption) ?_
      refine b_iconst rfl ?_
      refine b_iload_n rfl rfl ?_
      refine b_iastore rfl (by first | rfl | assumption) (by first | assumption | exact nI_toInt (by omega) | exact hi_l0 | exact hi_l1 | exact hi_l2 | exact hi_l3 | exact hi_l4 | exact hi_l5 | exact hi_l6) (by omega) ?_
      refine b_iconst rfl ?_
      refine b_istore_n rfl (Nat.le_of_ble_eq_true rfl) ?_
      rw [← hI2]; exact b_lp (lp I2 (funext (fun j => by show _ = if 1 ≤ j ∧ j < 1 + 0 then _ else _; rw [if_neg (by omega)])) (fun _ _ => rfl)) (le_e (le_e (le_q (by rfl) le_0))) rfl rfl
    · exact absurd (show nI s.1 ≤ 0 by rw [h0]; decide) c_101
  have lp : ∀ (E m : Nat) (x : rd × sp_L) (I1 : Nat → Nat → Int32) (J1 : Nat → Nat → Int64), hs_f3 I J I1 J1 → I1 188 2 = 0 → I1 188 0 = 0 → (∀ j, j < 125 → I1 201 j = I 201 j) → hs_Wm J1 → hs_Nt I1 J1 kn nm pn pm → hs_Rm I1 J1 f n E x.1 → x.1.1 = 0 → x.2.1 ≤ 40 → x.2.1 + m = 41 → hs_Lq3 I1 x.2 → Z = p_rest f n nm kn pm pn m x → hn_B 5 hm_M_rest P 11 [.ref 188, .int (nI x.2.1), .null] [] (I1, J1, R) := by
    intro E m
    induction m with
    | zero =>
      intro x I1 J1 g g2 g0 gl gW gN k h0 h40 hm hq hx
      omega
    | succ m ih =>
      intro x I1 J1 g g2 g0 gl gW gN k h0 h40 hm hq hx
      obtain ⟨s, L⟩ := x
      have k : hs_Rm I1 J1 f n E s := k
      have h0 : s.1 = 0 := h0
      have h40 : L.1 ≤ 40 := h40
      have hm : L.1 + (m + 1) = 41 := hm
      have hq : hs_Lq3 I1 L := hq
      have k7 := k.2.2.1
      have k8 := k.2.2.2.1
      have kb := k.2.2.2.2.2
      have kE := k.2.2.2.2.1
      have tt := k.2.1
      have hE1 := tt.1
      have c1 := (tt_at tt kE).1
      have hl4 := (tq_le f n s.2).2.2
      have hu : p_rest f n nm kn pm pn (m + 1) (s, L) = if s.1 = 0 ∧ ¬ (tq f n s.2).1 = 0 then p_rest f n nm kn pm pn m (p_rl f n nm kn pm pn (s, L)) else (s, L) := rfl
      rw [hu] at hx
      by_cases hk : (tq f n s.2).1 = 0
      · rw [if_neg (fun z => z.2 hk)] at hx
        refine b_aload_n rfl rfl ?_
        refine b_getI rfl (by first | rfl | assumption) rfl ?_
        rw [k8]
        refine b_if_ne rfl (fun c_15 => ?_) (fun c_15 => ?_)
        · exact absurd (show nI s.1 = 0 by rw [h0]; rfl) c_15
        · refine b_aload_n rfl rfl ?_
          refine b_getR rfl (by first | rfl | assumption) rfl (by assumption) ?_
          refine b_aload_n rfl rfl ?_
          refine b_getI rfl (by first | rfl | assumption) rfl ?_
          rw [k7]
          refine b_iaload rfl (by first | rfl | assumption) (nI_toInt (n := s.2) (by omega)) (by omega) ?_
          rw [c1]
          refine b_if_eq rfl (fun c_27 => ?_) (fun c_27 => ?_)
          · exact S97 E s L I1 J1 g g2 g0 k h0 h40 hq hx
          · exact absurd (show nI (tq f n s.2).1 = 0 by rw [hk]; rfl) c_27
      rw [if_pos ⟨h0, hk⟩] at hx
      obtain ⟨X, hX⟩ : ∃ X, X = p_rl f n nm kn pm pn (s, L) := ⟨_, rfl⟩
      rw [← hX] at hx
      have tail : ∀ (v v2 : Value) (Q : rd) (I2 : Nat → Nat → Int32), hs_f3 I J I2 J1 → I2 188 2 = 0 → I2 188 0 = 0 → (∀ j, j < 125 → I2 201 j = I 201 j) → hs_Nt I2 J1 kn nm pn pm → hs_Rm I2 J1 f n E Q → X.1 = p_e f n Q → (X.1.1 = 0 → v = .int (nI X.2.1) ∧ X.2.1 ≤ 40 ∧ X.2.1 + m = 41 ∧ hs_Lq3 I2 X.2) → hn_B 5 hm_M_rest P 88 [.ref 188, v, v2] [] (I2, J1, R) := by
        intro v v2 Q I2 u g2 g0 gl uN uk uX uZ
        refine b_aload_n rfl rfl ?_
        refine b_bipush rfl ?_
        refine b_callV rfl rfl hk_M_takeSign rfl rfl rfl (by first | rfl | assumption) rfl (Nat.le_of_ble_eq_true rfl) (q_M_takeSign (c := 59) hM hv uk (by omega)) (Nat.le_of_ble_eq_true rfl) (fun r_91 D_91 q_91 => ?_)
        obtain ⟨rfl, I4, rfl, g4, k4⟩ := q_91
        rw [show p_s f n 59 Q = X.1 from uX.symm] at k4
        have u4 : hs_f3 I J I4 J1 := ⟨fun b h1 h2 h3 h4 => by rw [g4.1 b h1]; exact u.1 b h1 h2 h3 h4, fun i i0 i2 i3 i7 i8 => by rw [g4.2 i i7 i8]; exact u.2.1 i i0 i2 i3 i7 i8, u.2.2⟩
        have w2 : I4 188 2 = 0 := (by rw [g4.2 2 (by omega) (by omega)]; exact g2)
        have w0 : I4 188 0 = 0 := (by rw [g4.2 0 (by omega) (by omega)]; exact g0)
        have wl : ∀ j, j < 125 → I4 201 j = I 201 j := (fun j hj => by rw [g4.1 201 (by omega)]; exact gl j hj)
        have S11 : hn_B 5 hm_M_rest P 11 [.ref 188, v, .null] [] (I4, J1, R) := (by by_cases hX0 : X.1.1 = 0; (obtain ⟨rfl, z2, z3, z4⟩ := uZ hX0; exact ih X I4 J1 u4 w2 w0 wl gW (hs_Nt_c uN (g4.1 199 (by omega)) (g4.2 18 (by omega) (by omega)) rfl) k4 hX0 z2 z3 (by unfold hs_Lq3 at z4 ⊢; rw [g4.1 201 (by omega)]; exact z4) hx); (exact SF E X v I4 J1 u4 w2 w0 wl k4 hX0 (by rw [hx]; cases m with | zero => rfl | succ m => exact if_neg (fun z => hX0 z.1))))
        refine b_goto rfl ?_
        exact b_lp S11 (le_e (le_e (le_n le_0))) rfl rfl
      have q34 := q_M_wordHere (fr := 8) (m := 5) hM gW k (by omega) rfl rfl
      by_cases hw5 : 10 ≤ wx (tq f n s.2) ∧ wx (tq f n s.2) < 15
      · obtain ⟨a, ha⟩ : ∃ a, wx (tq f n s.2) = 10 + a := ⟨wx (tq f n s.2) - 10, by omega⟩
        have ha4 : a ≤ 4 := by omega
        have ew := wh_85 h0 ha4 ha
        have pos : ¬ nI a < 0 := fun z => by have := (nI_lt_c (c := a) (k := 0) (by omega) (by omega)).mp z; omega
        by_cases hful : L.1 = 40
        · have eX : X.1 = fl f n 5 s := by rw [hX]; exact p_rl_5 ha4 ha (by omega)
          refine b_aload_n rfl rfl ?_
          refine b_getI rfl (by first | rfl | assumption) rfl ?_
          rw [k8]
          refine b_if_ne rfl (fun c_15 => ?_) (fun c_15 => ?_)
          · exact absurd (show nI s.1 = 0 by rw [h0]; rfl) c_15
          · refine b_aload_n rfl rfl ?_
            refine b_getR rfl (by first | rfl | assumption) rfl (by assumption) ?_
            refine b_aload_n rfl rfl ?_
            refine b_getI rfl (by first | rfl | assumption) rfl ?_
            rw [k7]
            refine b_iaload rfl (by first | rfl | assumption) (nI_toInt (n := s.2) (by omega)) (by omega) ?_
            rw [c1]
            refine b_if_eq rfl (fun c_27 => ?_) (fun c_27 => ?_)
            · exact absurd ((hi_nIe (k := 0) (by omega) (by omega)).mp c_27) hk
            · refine b_aload_n rfl rfl ?_
              refine b_bipush rfl ?_
              refine b_iconst rfl ?_
              refine b_callV rfl rfl hk_M_wordHere rfl rfl rfl (by first | rfl | assumption) rfl (Nat.le_of_ble_eq_true rfl) (q34) (Nat.le_of_ble_eq_true rfl) (fun r_34 D_34 q_34 => ?_)
              obtain ⟨rfl, rfl⟩ := q_34
              refine b_istore_n rfl (Nat.le_of_ble_eq_true rfl) ?_
              refine b_iload_n rfl rfl ?_
              rw [ew]
              refine b_if_ge rfl (fun c_39 => ?_) (fun c_39 => ?_)
              · refine b_iload_n rfl rfl ?_
                refine b_bipush rfl ?_
                refine b_icmp_ne rfl (fun c_53 => ?_) (fun c_53 => ?_)
                · exact absurd (show nI L.1 = 40 by rw [hful]; rfl) c_53
                · refine b_aload_n rfl rfl ?_
                  refine b_iconst rfl ?_
                  refine b_callV rfl rfl hk_M_wrong rfl rfl rfl (by first | rfl | assumption) rfl (Nat.le_of_ble_eq_true rfl) (q_M_wrong (c := 5) hM k (by omega)) (Nat.le_of_ble_eq_true rfl) (fun r_58 D_58 q_58 => ?_)
                  obtain ⟨rfl, I2, rfl, g5, k5⟩ := q_58
                  rw [show p_f f n 5 s = fl f n 5 s from if_pos h0] at k5
                  refine b_goto rfl ?_
                  exact tail _ _ (fl f n 5 s) I2 ⟨fun b h1 h2 h3 h4 => by rw [g5.1 b h1]; exact g.1 b h1 h2 h3 h4, fun i i0 i2 i3 i7 i8 => by rw [g5.2 i i7 i8]; exact g.2.1 i i0 i2 i3 i7 i8, g.2.2⟩ (by rw [g5.2 2 (by omega) (by omega)]; exact g2) (by rw [g5.2 0 (by omega) (by omega)]; exact g0) (fun j hj => by rw [g5.1 201 (by omega)]; exact gl j hj) (hs_Nt_c gN (g5.1 199 (by omega)) (g5.2 18 (by omega) (by omega)) rfl) k5 (by rw [eX]; exact (p_e_n (fl_ne (by omega))).symm) (fun z => by rw [eX] at z; exact absurd z (fl_ne (by omega)))
              · exact absurd (Int32.not_le.mp c_39) pos
        have hL40 : L.1 < 40 := by omega
        have ne40 : ¬ nI L.1 = 40 := fun z => by have := (hi_nIe (k := 40) (by omega) (by omega)).mp z; omega
        obtain ⟨eX1, x1, x2, eX2, hx1, hx2⟩ := p_rl_a (nm := nm) (kn := kn) (pm := pm) (pn := pn) ha4 ha hL40
        rw [← hX] at eX1 eX2
        obtain ⟨I2, d1, g5, k5⟩ := mp_on (R := R) k h0 hk
        have d1 : hn_u I1 188 7 (nI (s.2 + 1)) = I2 := congrArg Prod.fst d1
        have gN2 : hs_Nt I2 J1 kn nm pn pm := hs_Nt_c gN (g5.1 199 (by omega)) (g5.2 18 (by omega) (by omega)) rfl
        have qR := q_M_readRest (i := 125 + 3 * L.1) (a := a) hM gW k5 gN2 hw (by omega) (by omega) ha4
        have e125 : (125 : Int32) + 3 * nI L.1 = nI (125 + 3 * L.1) := by rw [nI_ad, nI_ml]; rfl
        refine b_aload_n rfl rfl ?_
        refine b_getI rfl (by first | rfl | assumption) rfl ?_
        rw [k8]
        refine b_if_ne rfl (fun c_15 => ?_) (fun c_15 => ?_)
        · exact absurd (show nI s.1 = 0 by rw [h0]; rfl) c_15
        · refine b_aload_n rfl rfl ?_
          refine b_getR rfl (by first | rfl | assumption) rfl (by assumption) ?_
          refine b_aload_n rfl rfl ?_
          refine b_getI rfl (by first | rfl | assumption) rfl ?_
          rw [k7]
          refine b_iaload rfl (by first | rfl | assumption) (nI_toInt (n := s.2) (by omega)) (by omega) ?_
          rw [c1]
          refine b_if_eq rfl (fun c_27 => ?_) (fun c_27 => ?_)
          · exact absurd ((hi_nIe (k := 0) (by omega) (by omega)).mp c_27) hk
          · refine b_aload_n rfl rfl ?_
            refine b_bipush rfl ?_
            refine b_iconst rfl ?_
            refine b_callV rfl rfl hk_M_wordHere rfl rfl rfl (by first | rfl | assumption) rfl (Nat.le_of_ble_eq_true rfl) (q34) (Nat.le_of_ble_eq_true rfl) (fun r_34 D_34 q_34 => ?_)
            obtain ⟨rfl, rfl⟩ := q_34
            refine b_istore_n rfl (Nat.le_of_ble_eq_true rfl) ?_
            refine b_iload_n rfl rfl ?_
            rw [ew]
            refine b_if_ge rfl (fun c_39 => ?_) (fun c_39 => ?_)
            · refine b_iload_n rfl rfl ?_
              refine b_bipush rfl ?_
              refine b_icmp_ne rfl (fun c_53 => ?_) (fun c_53 => ?_)
              · refine b_aload_n rfl rfl ?_
                refine b_dup rfl rfl ?_
                refine b_getI rfl (by first | rfl | assumption) rfl ?_
                rw [k7]
                refine b_iconst rfl ?_
                refine b_iadd rfl ?_
                rw [← nI_succ]
                refine b_putI rfl (by first | rfl | assumption) rfl rfl ⟨rfl, rfl⟩ ?_
                rw [d1]
                refine b_aload_n rfl rfl ?_
                refine b_bipush rfl ?_
                refine b_iconst rfl ?_
                refine b_iload_n rfl rfl ?_
                refine b_imul rfl ?_
                refine b_iadd rfl ?_
                rw [e125]
                refine b_iload_n rfl rfl ?_
                refine b_callV rfl rfl hk_M_readRest rfl rfl rfl (by first | rfl | assumption) rfl (Nat.le_of_ble_eq_true rfl) (qR) (Nat.le_of_ble_eq_true rfl) (fun r_82 D_82 q_82 => ?_)
                obtain ⟨rfl, I3, rfl, k6, r1, r2, r3, r4⟩ := q_82
                have u3 : hs_f3 I J I3 J1 := ⟨fun b h1 h2 h3 h4 => by rw [r1 b h1 h4, g5.1 b h1]; exact g.1 b h1 h2 h3 h4, fun i i0 i2 i3 i7 i8 => by rw [r2 i i7 i8, g5.2 i i7 i8]; exact g.2.1 i i0 i2 i3 i7 i8, g.2.2⟩
                refine b_iinc rfl rfl (Nat.le_of_ble_eq_true rfl) ?_
                exact tail _ _ (qr f n nm kn pm pn a (0, s.2 + 1)) I3 u3 (by rw [r2 2 (by omega) (by omega), g5.2 2 (by omega) (by omega)]; exact g2) (by rw [r2 0 (by omega) (by omega), g5.2 0 (by omega) (by omega)]; exact g0) (fun j hj => by rw [r3 j (by omega) (by omega) (by omega), g5.1 201 (by omega)]; exact gl j hj) (hs_Nt_c gN2 (r1 199 (by omega) (by omega)) (r2 18 (by omega) (by omega)) rfl) k6 eX1 (fun z => by rw [eX1] at z; obtain ⟨z1, _, _⟩ := p_e_1 z; obtain ⟨y1, y2, y3⟩ := r4 z1; rw [eX2]; refine ⟨by rw [← nI_succ]; rfl, by show L.1 + 1 ≤ 40; omega, by show L.1 + 1 + m = 41; omega, fun i hi => ?_⟩; have hi : i < L.1 + 1 := hi; (have ee : (lx_add L (a, x1, x2)).2 i = if i = L.1 then (a, x1, x2) else L.2 i := rfl); rw [ee]; by_cases hil : i = L.1; (rw [if_pos hil, hil]; exact ⟨y1, fun q => by rw [hx1 q, show 126 + 3 * L.1 = 125 + 3 * L.1 + 1 by omega]; exact y2 q, fun q => by rw [hx2 q, show 127 + 3 * L.1 = 125 + 3 * L.1 + 2 by omega]; exact y3 q⟩); (rw [if_neg hil, r3 _ (by omega) (by omega) (by omega), r3 _ (by omega) (by omega) (by omega), r3 _ (by omega) (by omega) (by omega), g5.1 201 (by omega)]; exact hq i (by omega)))
              · exact absurd c_53 ne40
            · exact absurd (Int32.not_le.mp c_39) pos
      · have eX : X.1 = fl f n 1 s := by rw [hX]; exact p_rl_n hw5
        have w0 : wh f n s 8 5 < 0 := (wh_n (by omega)).mpr (fun z => hw5 ⟨by omega, by omega⟩)
        refine b_aload_n rfl rfl ?_
        refine b_getI rfl (by first | rfl | assumption) rfl ?_
        rw [k8]
        refine b_if_ne rfl (fun c_15 => ?_) (fun c_15 => ?_)
        · exact absurd (show nI s.1 = 0 by rw [h0]; rfl) c_15
        · refine b_aload_n rfl rfl ?_
          refine b_getR rfl (by first | rfl | assumption) rfl (by assumption) ?_
          refine b_aload_n rfl rfl ?_
          refine b_getI rfl (by first | rfl | assumption) rfl ?_
          rw [k7]
          refine b_iaload rfl (by first | rfl | assumption) (nI_toInt (n := s.2) (by omega)) (by omega) ?_
          rw [c1]
          refine b_if_eq rfl (fun c_27 => ?_) (fun c_27 => ?_)
          · exact absurd ((hi_nIe (k := 0) (by omega) (by omega)).mp c_27) hk
          · refine b_aload_n rfl rfl ?_
            refine b_bipush rfl ?_
            refine b_iconst rfl ?_
            refine b_callV rfl rfl hk_M_wordHere rfl rfl rfl (by first | rfl | assumption) rfl (Nat.le_of_ble_eq_true rfl) (q34) (Nat.le_of_ble_eq_true rfl) (fun r_34 D_34 q_34 => ?_)
            obtain ⟨rfl, rfl⟩ := q_34
            refine b_istore_n rfl (Nat.le_of_ble_eq_true rfl) ?_
            refine b_iload_n rfl rfl ?_
            refine b_if_ge rfl (fun c_39 => ?_) (fun c_39 => ?_)
            · exact absurd w0 (Int32.not_lt.mpr c_39)
            · refine b_aload_n rfl rfl ?_
              refine b_iconst rfl ?_
              refine b_callV rfl rfl hk_M_wrong rfl rfl rfl (by first | rfl | assumption) rfl (Nat.le_of_ble_eq_true rfl) (q_M_wrong (c := 1) hM k (by omega)) (Nat.le_of_ble_eq_true rfl) (fun r_44 D_44 q_44 => ?_)
              obtain ⟨rfl, I2, rfl, g5, k5⟩ := q_44
              rw [show p_f f n 1 s = fl f n 1 s from if_pos h0] at k5
              refine b_goto rfl ?_
              exact tail _ _ (fl f n 1 s) I2 ⟨fun b h1 h2 h3 h4 => by rw [g5.1 b h1]; exact g.1 b h1 h2 h3 h4, fun i i0 i2 i3 i7 i8 => by rw [g5.2 i i7 i8]; exact g.2.1 i i0 i2 i3 i7 i8, g.2.2⟩ (by rw [g5.2 2 (by omega) (by omega)]; exact g2) (by rw [g5.2 0 (by omega) (by omega)]; exact g0) (fun j hj => by rw [g5.1 201 (by omega)]; exact gl j hj) (hs_Nt_c gN (g5.1 199 (by omega)) (g5.2 18 (by omega) (by omega)) rfl) k5 (by rw [eX]; exact (p_e_n (fl_ne (by omega))).symm) (fun z => by rw [eX] at z; exact absurd z (fl_ne (by omega)))
  obtain ⟨Ia, hIa⟩ : ∃ z, z = hn_u I 188 0 0 := ⟨_, rfl⟩
  have fa : ∀ b, b ≠ 188 → Ia b = I b := fun b hb => by rw [hIa, hn_u_ne _ _ _ hb]
  have fa1 : ∀ i, i ≠ 0 → Ia 188 i = I 188 i := fun i hi => by rw [hIa, hn_u_eq, va_up, if_neg hi]
  have qc := q_M_cutAll (I := Ia) (J := J) (f := f) (n := n) hM hn (fun i hi => by rw [fa 189 (by omega)]; exact hS i hi) (by rw [fa1 2 (by omega)]; exact h2)
  refine b_aload_n rfl rfl ?_
  refine b_iconst rfl ?_
  refine b_putI rfl (by first | rfl | assumption) rfl rfl ⟨rfl, rfl⟩ ?_
  rw [← hIa]
  refine b_aload_n rfl rfl ?_
  refine b_callV rfl rfl hk_M_cutAll rfl rfl rfl (by first | rfl | assumption) rfl (Nat.le_of_ble_eq_true rfl) (qc) (Nat.le_of_ble_eq_true rfl) (fun r_6 D_6 q_6 => ?_)
  obtain ⟨rfl, I2, J2, E, rfl, gc, tt, c2, c7, c8⟩ := q_6
  refine b_iconst rfl ?_
  refine b_istore_n rfl (Nat.le_of_ble_eq_true rfl) ?_
  exact b_lp (lp E 41 ((0, 0), lx_0) I2 J2 ⟨fun b h1 h2 h3 h4 => by rw [gc.1 b h1 h2 h3, fa b h1], fun i i0 i2 i3 i7 i8 => by rw [gc.2.2 i i2 i3 i7 i8, fa1 i i0], gc.2.1⟩ c2 (by rw [gc.2.2 0 (by omega) (by omega) (by omega) (by omega), hIa, hn_u_eq, va_up, if_pos rfl]) (fun j hj => by rw [gc.1 201 (by omega) (by omega) (by omega), fa 201 (by omega)]) (hs_Wm_c hW (gc.2.1 193 (by omega))) (hs_Nt_c hN (by rw [gc.1 199 (by omega) (by omega) (by omega), fa 199 (by omega)]) (by rw [gc.2.2 18 (by omega) (by omega) (by omega) (by omega), fa1 18 (by omega)]) (gc.2.1 197 (by omega))) ⟨hn, tt, c7, c8, Nat.zero_le _, by show 0 < 20000; omega⟩ rfl (Nat.zero_le _) rfl (fun i hi => absurd hi (Nat.not_lt_zero _)) hZ) (le_e (le_q (by rfl) (le_e le_0))) rfl rfl
end HNmrestr
