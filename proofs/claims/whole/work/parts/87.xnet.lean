section HNxnet
variable {I I' : Nat → Nat → Int32} {J J' : Nat → Nat → Int64} {R R' : Nat → Nat → Option Nat}
/-- lines told to the class -/
theorem q_X_rest {f : Nat → Nat} {n t l1 l2 kn pn : Nat} {nm pm : Nat → Nat} (hR : hs_refs R) (r2 : R 0 2 = some t) (r4 : R 0 4 = some l1) (r5 : R 0 5 = some l2) (hSg : hs_Sg I f n) (h1 : I 1 1 = nI n) (hN : hs_Net R t) (hSt : hs_St R (t + 11)) (hn : hs_Nn I J t kn nm pn pm) (hL : hs_Lr R l2) : hn_F 6 hm_X_rest [.ref 0] (I, J, R) (fun r D' => r = some (.int (nI (p_rest f n nm kn pm pn 41 ((0, 0), lx_0)).1.1)) ∧ (p_rest f n nm kn pm pn 41 ((0, 0), lx_0)).1.1 < 20000 ∧ ∃ I3 J3 R3, hs_rs I J R I3 J3 R3 l2 ∧ ((p_rest f n nm kn pm pn 41 ((0, 0), lx_0)).1.1 = 0 → hs_Lx I3 R3 l2 (p_rest f n nm kn pm pn 41 ((0, 0), lx_0)).2) ∧ ((¬ (p_rest f n nm kn pm pn 41 ((0, 0), lx_0)).1.1 = 0 ∧ D' = (hn_u I3 1 1 0, J3, R3)) ∨ ((p_rest f n nm kn pm pn 41 ((0, 0), lx_0)).1.1 = 0 ∧ D' = (hn_u I3 1 1 0, J3, hn_u (hn_u R3 0 4 (some l2)) 0 5 (some l1))))) := by
  refine hn_F_of _ hk_X_rest rfl (Nat.le_of_ble_eq_true rfl) ?_
  have hR1 : R 1 0 = some 2 := hR (1, 0, 2) (by decide +kernel)
  have hR3 : R 3 0 = some 1 := hR (3, 0, 1) (by decide +kernel)
  have r0 : R 0 0 = some 1 := hR (0, 0, 1) (by decide +kernel)
  have r1 : R 0 1 = some 3 := hR (0, 1, 3) (by decide +kernel)
  obtain ⟨Z, hZ⟩ : ∃ Z, Z = p_rest f n nm kn pm pn 41 ((0, 0), lx_0) := ⟨_, rfl⟩
  have q0 := q_Reader_readRest (J := J) hR1 hR3 hSg h1 hN hSt hn hL
  rw [← hZ] at q0 ⊢
  have ll := hL.1
  by_cases hz : Z.1.1 = 0
  · refine b_aload_n rfl rfl ?_
    refine b_getR rfl (by first | rfl | assumption) rfl (by assumption) ?_
    refine b_aload_n rfl rfl ?_
    refine b_getR rfl (by first | rfl | assumption) rfl (by assumption) ?_
    refine b_aload_n rfl rfl ?_
    refine b_getR rfl (by first | rfl | assumption) rfl (by assumption) ?_
    refine b_callV rfl rfl hk_Reader_readRest rfl rfl rfl (by first | rfl | assumption) rfl (Nat.le_of_ble_eq_true rfl) (q0) (Nat.le_of_ble_eq_true rfl) (fun r_12 D_12 q_12 => ?_)
    obtain ⟨rfl, I3, J3, R3, rfl, g3, k3, b3⟩ := q_12
    have e0 := g3.2.2.1 0 (by omega) (by omega)
    refine b_istore_n rfl (Nat.le_of_ble_eq_true rfl) ?_
    refine b_aload_n rfl rfl ?_
    refine b_getR rfl (by first | rfl | assumption) rfl (by rw [e0]; exact r0) ?_
    refine b_callV rfl rfl hk_Tape_empty rfl rfl rfl (by first | rfl | assumption) rfl (Nat.le_of_ble_eq_true rfl) (q_Tape_empty) (Nat.le_of_ble_eq_true rfl) (fun r_20 D_20 q_20 => ?_)
    obtain ⟨rfl, rfl⟩ := q_20
    refine b_iload_n rfl rfl ?_
    refine b_if_ne rfl (fun c_24 => ?_) (fun c_24 => ?_)
    · exact absurd (show nI Z.1.1 = 0 by rw [hz]; rfl) c_24
    · refine b_aload_n rfl rfl ?_
      refine b_getR rfl (by first | rfl | assumption) rfl (by rw [e0]; exact r4) ?_
      refine b_astore_n rfl (Nat.le_of_ble_eq_true rfl) ?_
      refine b_aload_n rfl rfl ?_
      refine b_aload_n rfl rfl ?_
      refine b_getR rfl (by first | rfl | assumption) rfl (by rw [e0]; exact r5) ?_
      refine b_putR rfl (by first | rfl | assumption) rfl rfl (fun _ => ⟨rfl, rfl⟩) ?_
      refine b_aload_n rfl rfl ?_
      refine b_aload_n rfl rfl ?_
      refine b_putR rfl (by first | rfl | assumption) rfl rfl (fun _ => ⟨rfl, rfl⟩) ?_
      refine b_iload_n rfl rfl ?_
      exact b_ireturn rfl trivial (⟨rfl, k3.2.2.2.2.2, I3, J3, R3, g3, b3, Or.inr ⟨hz, rfl⟩⟩)
  · refine b_aload_n rfl rfl ?_
    refine b_getR rfl (by first | rfl | assumption) rfl (by assumption) ?_
    refine b_aload_n rfl rfl ?_
    refine b_getR rfl (by first | rfl | assumption) rfl (by assumption) ?_
    refine b_aload_n rfl rfl ?_
    refine b_getR rfl (by first | rfl | assumption) rfl (by assumption) ?_
    refine b_callV rfl rfl hk_Reader_readRest rfl rfl rfl (by first | rfl | assumption) rfl (Nat.le_of_ble_eq_true rfl) (q0) (Nat.le_of_ble_eq_true rfl) (fun r_12 D_12 q_12 => ?_)
    obtain ⟨rfl, I3, J3, R3, rfl, g3, k3, b3⟩ := q_12
    have e0 := g3.2.2.1 0 (by omega) (by omega)
    have hb := k3.2.2.2.2.2
    refine b_istore_n rfl (Nat.le_of_ble_eq_true rfl) ?_
    refine b_aload_n rfl rfl ?_
    refine b_getR rfl (by first | rfl | assumption) rfl (by rw [e0]; exact r0) ?_
    refine b_callV rfl rfl hk_Tape_empty rfl rfl rfl (by first | rfl | assumption) rfl (Nat.le_of_ble_eq_true rfl) (q_Tape_empty) (Nat.le_of_ble_eq_true rfl) (fun r_20 D_20 q_20 => ?_)
    obtain ⟨rfl, rfl⟩ := q_20
    refine b_iload_n rfl rfl ?_
    refine b_if_ne rfl (fun c_24 => ?_) (fun c_24 => ?_)
    · refine b_iload_n rfl rfl ?_
      exact b_ireturn rfl trivial (⟨rfl, hb, I3, J3, R3, g3, b3, Or.inl ⟨hz, rfl⟩⟩)
    · exact absurd ((hi_nIe (k := 0) (by omega) (by omega)).mp c_24) hz
/-- how a net told begins -/
def hs_ba (I I2 : Nat → Nat → Int32) (l : Nat) : Prop := (∀ b, ¬ (44 ≤ b ∧ b ≤ 48) → b ≠ l → b ≠ 135 → b ≠ 0 → b ≠ 141 → I2 b = I b) ∧ (∀ i, i ≠ 3 → I2 l i = I l i) ∧ (∀ i, i ≠ 1 → I2 135 i = I 135 i) ∧ (∀ i, i ≠ 9 → I2 0 i = I 0 i) ∧ (∀ i, 4 ≤ i → I2 141 i = I 141 i) ∧ I2 l 3 = 0 ∧ I2 135 1 = 0 ∧ I2 0 9 = 0 ∧ ∀ m, m < 4 → I2 141 m = 0
theorem q_X_beginAfternoon {t l n np : Nat} {S : sp_Q} (r6 : R 0 6 = some 44) (r11 : R 0 11 = some 135) (r14 : R 0 14 = some 141) (r2 : R 0 2 = some t) (r4 : R 0 4 = some l) (hl : l = 36 ∨ l = 40) (lk : hn_kind l = (0, 4)) (hN : hs_Net R t) (h44 : hs_St R 44) (hSt : hs_St R (t + 11)) (hz : hs_z I 44) (hzt : hs_z I (t + 11)) (hX : hs_Qx I (t + 11) n np 0 S) : hn_F 2 hm_X_beginAfternoon [.ref 0] (I, J, R) (fun r D' => r = none ∧ ∃ I2, D' = (I2, J, R) ∧ hs_ba I I2 l ∧ hs_Qx I2 44 n np 0 S) := by
  refine hn_F_of _ hk_X_beginAfternoon rfl (Nat.le_of_ble_eq_true rfl) ?_
  have ht := hN.1
  have rt8 : R t 8 = some (t + 11) := hN.2.2.2.2.2.2.2.2.2.2.2.2.2.2.2.2.2.2.1
  have tk0 : hn_kind t = (0, 3) := hN.2.1
  obtain ⟨P, hP⟩ : ∃ P : Option Value → hnD → Prop, P = (fun r D' => r = none ∧ ∃ I2, D' = (I2, J, R) ∧ hs_ba I I2 l ∧ hs_Qx I2 44 n np 0 S) := ⟨_, rfl⟩
  rw [← hP]
  have lp : ∀ I1, (∀ b, ¬ (44 ≤ b ∧ b ≤ 48) → b ≠ l → b ≠ 135 → b ≠ 0 → b ≠ 141 → I1 b = I b) ∧ (∀ i, i ≠ 3 → I1 l i = I l i) ∧ (∀ i, i ≠ 1 → I1 135 i = I 135 i) ∧ (∀ i, i ≠ 9 → I1 0 i = I 0 i) ∧ (∀ i, 4 ≤ i → I1 141 i = I 141 i) ∧ I1 l 3 = 0 ∧ I1 135 1 = 0 ∧ I1 0 9 = 0 ∧ (∀ m, m < 0 → I1 141 m = 0) → hs_Qx I1 44 n np 0 S → hn_B 2 hm_X_beginAfternoon P 37 [.ref 0, .int (nI 0)] [] (I1, J, R) := by
    refine sp_ind 4 (fun i => ∀ I1, (∀ b, ¬ (44 ≤ b ∧ b ≤ 48) → b ≠ l → b ≠ 135 → b ≠ 0 → b ≠ 141 → I1 b = I b) ∧ (∀ i, i ≠ 3 → I1 l i = I l i) ∧ (∀ i, i ≠ 1 → I1 135 i = I 135 i) ∧ (∀ i, i ≠ 9 → I1 0 i = I 0 i) ∧ (∀ i, 4 ≤ i → I1 141 i = I 141 i) ∧ I1 l 3 = 0 ∧ I1 135 1 = 0 ∧ I1 0 9 = 0 ∧ (∀ m, m < i → I1 141 m = 0) → hs_Qx I1 44 n np 0 S → hn_B 2 hm_X_beginAfternoon P 37 [.ref 0, .int (nI i)] [] (I1, J, R)) ?_ ?_
    · intro I1 g q
      refine b_iload_n rfl rfl ?_
      refine b_iconst rfl ?_
      refine b_icmp_ge rfl (fun c_39 => ?_) (fun c_39 => ?_)
      · exact b_return_ rfl trivial ((by rw [hP]; exact ⟨rfl, I1, rfl, g, q⟩))
      · exact absurd c_39 (by decide)
    · intro i hi ih I1 g q
      have i4 : (4 : Int32) ≤ nI i ↔ 4 ≤ i := nI_le_c (c := 4) (by omega) (by omega)
      refine b_iload_n rfl rfl ?_
      refine b_iconst rfl ?_
      refine b_icmp_ge rfl (fun c_39 => ?_) (fun c_39 => ?_)
      · exact absurd (i4.mp c_39) (by omega)
      · refine b_aload_n rfl rfl ?_
        refine b_getR rfl (by first | rfl | assumption) rfl (by assumption) ?_
        refine b_iload_n rfl rfl ?_
        refine b_iconst rfl ?_
        refine b_bastore rfl (by first | rfl | assumption) (by first | assumption | exact nI_toInt (by omega) | exact hi_l0 | exact hi_l1 | exact hi_l2 | exact hi_l3 | exact hi_l4 | exact hi_l5 | exact hi_l6) (by omega) rfl ?_
        refine b_iinc rfl rfl (Nat.le_of_ble_eq_true rfl) ?_
        refine b_goto rfl ?_
        exact b_lp (ih (hn_u I1 141 i 0) ⟨fun b b1 b2 b3 b4 b5 => by rw [hn_u_ne _ _ _ b5]; exact g.1 b b1 b2 b3 b4 b5, fun j hj => by rw [hn_u_ne _ _ _ (by omega)]; exact g.2.1 j hj, fun j hj => by rw [hn_u_ne _ _ _ (by omega)]; exact g.2.2.1 j hj, fun j hj => by rw [hn_u_ne _ _ _ (by omega)]; exact g.2.2.2.1 j hj, fun j hj => by rw [hn_u_eq, va_up, if_neg (by omega)]; exact g.2.2.2.2.1 j hj, by rw [hn_u_ne _ _ _ (by omega)]; exact g.2.2.2.2.2.1, by rw [hn_u_ne _ _ _ (by omega)]; exact g.2.2.2.2.2.2.1, by rw [hn_u_ne _ _ _ (by omega)]; exact g.2.2.2.2.2.2.2.1, fun m hm => by rw [hn_u_eq]; unfold va_up; by_cases hmi : m = i; (rw [if_pos hmi]); (rw [if_neg hmi]; exact g.2.2.2.2.2.2.2.2 m (by omega))⟩ ⟨by rw [hn_u_ne _ _ _ (by omega)]; exact q.1, by rw [hn_u_ne _ _ _ (by omega)]; exact q.2.1, by rw [hn_u_ne _ _ _ (by omega)]; exact q.2.2.1, by rw [hn_u_ne _ _ _ (by omega)]; exact q.2.2.2.1, by rw [hn_u_ne _ _ _ (by omega)]; exact q.2.2.2.2.1, by rw [hn_u_ne _ _ _ (by omega)]; exact q.2.2.2.2.2.1, by rw [hn_u_ne _ _ _ (by omega)]; exact q.2.2.2.2.2.2⟩) (le_e (le_q (by rw [nI_succ]) le_0)) rfl rfl
  refine b_aload_n rfl rfl ?_
  refine b_getR rfl (by first | rfl | assumption) rfl (by assumption) ?_
  refine b_aload_n rfl rfl ?_
  refine b_getR rfl (by first | rfl | assumption) rfl (by assumption) ?_
  refine b_getR rfl (by first | rfl | assumption) rfl (by assumption) ?_
  refine b_callV rfl rfl hk_State_copy rfl rfl rfl (by first | rfl | assumption) rfl (Nat.le_of_ble_eq_true rfl) (qx_copy h44 hSt (by omega) hz hzt hX) (Nat.le_of_ble_eq_true rfl) (fun r_11 D_11 q_11 => ?_)
  obtain ⟨rfl, hf, hq⟩ := q_11
  obtain ⟨I1, rfl, g1⟩ := hf.out
  have hq : hs_Qx I1 44 n np 0 S := hq
  refine b_aload_n rfl rfl ?_
  refine b_getR rfl (by first | rfl | assumption) rfl (by assumption) ?_
  refine b_iconst rfl ?_
  refine b_putI rfl (by first | rfl | assumption) rfl rfl ⟨rfl, rfl⟩ ?_
  refine b_aload_n rfl rfl ?_
  refine b_getR rfl (by first | rfl | assumption) rfl (by assumption) ?_
  refine b_iconst rfl ?_
  refine b_putI rfl (by first | rfl | assumption) rfl rfl ⟨rfl, rfl⟩ ?_
  refine b_aload_n rfl rfl ?_
  refine b_iconst rfl ?_
  refine b_putI rfl (by first | rfl | assumption) rfl rfl ⟨rfl, rfl⟩ ?_
  refine b_iconst rfl ?_
  refine b_istore_n rfl (Nat.le_of_ble_eq_true rfl) ?_
  obtain ⟨I2, hI2⟩ : ∃ z, z = hn_u (hn_u (hn_u I1 l 3 0) 135 1 0) 0 9 0 := ⟨_, rfl⟩
  rw [← hI2]
  have e0 : ∀ b, b ≠ l → b ≠ 135 → b ≠ 0 → I2 b = I1 b := fun b h1 h2 h3 => by rw [hI2, hn_u_ne _ _ _ h3, hn_u_ne _ _ _ h2, hn_u_ne _ _ _ h1]
  exact b_lp (lp I2 ⟨fun b b1 b2 b3 b4 b5 => by rw [e0 b b2 b3 b4]; exact g1 b b1, fun j hj => by rw [hI2, hn_u_ne _ _ _ (by omega), hn_u_ne _ _ _ (by omega), hn_u_eq, va_up, if_neg hj, g1 l (by omega)], fun j hj => by rw [hI2, hn_u_ne _ _ _ (by omega), hn_u_eq, va_up, if_neg hj, hn_u_ne _ _ _ (by omega), g1 135 (by omega)], fun j hj => by rw [hI2, hn_u_eq, va_up, if_neg hj, hn_u_ne _ _ _ (by omega), hn_u_ne _ _ _ (by omega), g1 0 (by omega)], fun j hj => by rw [e0 141 (by omega) (by omega) (by omega), g1 141 (by omega)], by rw [hI2, hn_u_ne _ _ _ (by omega), hn_u_ne _ _ _ (by omega), hn_u_eq, va_up, if_pos rfl], by rw [hI2, hn_u_ne _ _ _ (by omega), hn_u_eq, va_up, if_pos rfl], by rw [hI2, hn_u_eq, va_up, if_pos rfl], fun m hm => absurd hm (by omega)⟩ ⟨by rw [e0 _ (by omega) (by omega) (by omega)]; exact hq.1, by rw [e0 _ (by omega) (by omega) (by omega)]; exact hq.2.1, by rw [e0 _ (by omega) (by omega) (by omega)]; exact hq.2.2.1, by rw [e0 _ (by omega) (by omega) (by omega)]; exact hq.2.2.2.1, by rw [e0 _ (by omega) (by omega) (by omega)]; exact hq.2.2.2.2.1, by rw [e0 _ (by omega) (by omega) (by omega)]; exact hq.2.2.2.2.2.1, by rw [e0 _ (by omega) (by omega) (by omega)]; exact hq.2.2.2.2.2.2⟩) (le_e (le_q (by rfl) le_0)) rfl rfl
/-- what the rows of a State say -/
def q_at (I : Nat → Nat → Int32) (a : Nat) : sp_Q := (I (a + 1), I (a + 2), I (a + 3), I (a + 4), I a 5)
theorem q_at_B {t : Nat} {B : sp_B} (h : hs_Bx I J t B) : hs_Qx I (t + 11) (bK B) (bP B) 0 (q_at I (t + 11)) := ⟨rfl, rfl, Or.inl rfl, rfl, h.1.2.2.2.1, rfl, h.2.2.1.2.2.2.2.2.2⟩
theorem hs_Qx_c {a n np : Nat} {fm : Int32} {Q : sp_Q} (h : hs_Qx I a n np fm Q) (g : ∀ b, a ≤ b → b ≤ a + 4 → I' b = I b) : hs_Qx I' a n np fm Q := by
  unfold hs_Qx at h ⊢
  rw [g a (by omega) (by omega), g (a + 1) (by omega) (by omega), g (a + 2) (by omega) (by omega), g (a + 3) (by omega) (by omega), g (a + 4) (by omega) (by omega)]
  exact h
theorem hs_z_c {a : Nat} (h : hs_z I a) (g : ∀ b, a ≤ b → b ≤ a + 4 → I' b = I b) : hs_z I' a := by
  unfold hs_z at h ⊢
  rw [g (a + 1) (by omega) (by omega), g (a + 2) (by omega) (by omega), g (a + 3) (by omega) (by omega), g (a + 4) (by omega) (by omega)]
  exact h
def hs_Zn (I : Nat → Nat → Int32) (J : Nat → Nat → Int64) (R : Nat → Nat → Option Nat) (t t2 l : Nat) (Z : rd × sp_B) (D' : hnD) : Prop := ∃ I3 J3 R3, hs_rn I J R I3 J3 R3 t2 ∧ hs_zn I3 t2 ∧ (Z.1.1 = 0 → hs_Bx I3 J3 t2 Z.2 ∧ hs_Bw Z.2) ∧ ((¬ Z.1.1 = 0 ∧ D' = (hn_u I3 1 1 0, J3, R3)) ∨ (Z.1.1 = 0 ∧ ∃ I4, hs_ba (hn_u I3 1 1 0) I4 l ∧ hs_Qx I4 44 (bK Z.2) (bP Z.2) 0 (q_at I3 (t2 + 11)) ∧ D' = (I4, J3, hn_u (hn_u R3 0 2 (some t2)) 0 3 (some t))))
theorem q_X_net {f : Nat → Nat} {n t t2 l : Nat} (hR : hs_refs R) (r2 : R 0 2 = some t) (r3 : R 0 3 = some t2) (ht : t = 4 ∨ t = 20) (hL : hs_Lr R l) (r4 : R 0 4 = some l) (hSg : hs_Sg I f n) (h1 : I 1 1 = nI n) (hN : hs_Net R t2) (hSt : hs_St R (t2 + 11)) (hzn : hs_zn I t2) (hz : hs_z I 44) : hn_F 6 hm_X_net [.ref 0] (I, J, R) (fun r D' => r = some (.int (nI (p_net f n 1001 ((0, 0), b_0)).1.1)) ∧ (p_net f n 1001 ((0, 0), b_0)).1.1 < 20000 ∧ hs_Zn I J R t t2 l (p_net f n 1001 ((0, 0), b_0)) D') := by
  refine hn_F_of _ hk_X_net rfl (Nat.le_of_ble_eq_true rfl) ?_
  have hR1 : R 1 0 = some 2 := hR (1, 0, 2) (by decide +kernel)
  have hR3 : R 3 0 = some 1 := hR (3, 0, 1) (by decide +kernel)
  have r0 : R 0 0 = some 1 := hR (0, 0, 1) (by decide +kernel)
  have r1 : R 0 1 = some 3 := hR (0, 1, 3) (by decide +kernel)
  have r6 : R 0 6 = some 44 := hR (0, 6, 44) (by decide +kernel)
  have r11 : R 0 11 = some 135 := hR (0, 11, 135) (by decide +kernel)
  have r14 : R 0 14 = some 141 := hR (0, 14, 141) (by decide +kernel)
  have ll := hL.1
  have lk := hL.2.1
  have ht2 := hN.1
  obtain ⟨Z, hZ⟩ : ∃ Z, Z = p_net f n 1001 ((0, 0), b_0) := ⟨_, rfl⟩
  have q0 := q_Reader_readNet (J := J) hR1 hR3 hSg h1 hN hSt hzn
  rw [← hZ] at q0 ⊢
  by_cases h0 : Z.1.1 = 0
  · refine b_aload_n rfl rfl ?_
    refine b_getR rfl (by first | rfl | assumption) rfl (by assumption) ?_
    refine b_aload_n rfl rfl ?_
    refine b_getR rfl (by first | rfl | assumption) rfl (by assumption) ?_
    refine b_callV rfl rfl hk_Reader_readNet rfl rfl rfl (by first | rfl | assumption) rfl (Nat.le_of_ble_eq_true rfl) (q0) (Nat.le_of_ble_eq_true rfl) (fun r_8 D_8 q_8 => ?_)
    obtain ⟨rfl, I3, J3, R3, rfl, g3, k3, z3, b3⟩ := q_8
    have e0 := g3.2.2.1 0 (by omega)
    refine b_istore_n rfl (Nat.le_of_ble_eq_true rfl) ?_
    refine b_aload_n rfl rfl ?_
    refine b_getR rfl (by first | rfl | assumption) rfl (by rw [e0]; exact r0) ?_
    refine b_callV rfl rfl hk_Tape_empty rfl rfl rfl (by first | rfl | assumption) rfl (Nat.le_of_ble_eq_true rfl) (q_Tape_empty) (Nat.le_of_ble_eq_true rfl) (fun r_16 D_16 q_16 => ?_)
    obtain ⟨rfl, rfl⟩ := q_16
    refine b_iload_n rfl rfl ?_
    refine b_if_ne rfl (fun c_20 => ?_) (fun c_20 => ?_)
    · exact absurd (show nI Z.1.1 = 0 by rw [h0]; rfl) c_20
    · refine b_aload_n rfl rfl ?_
      refine b_getR rfl (by first | rfl | assumption) rfl (by rw [e0]; exact r2) ?_
      refine b_astore_n rfl (Nat.le_of_ble_eq_true rfl) ?_
      refine b_aload_n rfl rfl ?_
      refine b_aload_n rfl rfl ?_
      refine b_getR rfl (by first | rfl | assumption) rfl (by rw [e0]; exact r3) ?_
      refine b_putR rfl (by first | rfl | assumption) rfl rfl (fun _ => ⟨rfl, rfl⟩) ?_
      refine b_aload_n rfl rfl ?_
      refine b_aload_n rfl rfl ?_
      refine b_putR rfl (by first | rfl | assumption) rfl rfl (fun _ => ⟨rfl, rfl⟩) ?_
      obtain ⟨R4, hR4⟩ : ∃ z, z = hn_u (hn_u R3 0 2 (some t2)) 0 3 (some t) := ⟨_, rfl⟩
      rw [← hR4]
      have f4 : ∀ b, b ≠ 0 → R4 b = R3 b := fun b hb => by rw [hR4, hn_u_ne _ _ _ hb, hn_u_ne _ _ _ hb]
      have f40 : ∀ i, i ≠ 2 → i ≠ 3 → R4 0 i = R 0 i := fun i h2 h3 => by rw [hR4, hn_u_eq, va_up, if_neg h3, hn_u_eq, va_up, if_neg h2, e0]
      have fR : ∀ b, b ≠ 0 → b ≠ 1 → R4 b = R b := fun b h0 h1 => by rw [f4 b h0, g3.2.2.1 b h1]
      have f42 : R4 0 2 = some t2 := by rw [hR4, hn_u_eq, va_up, if_neg (by omega), hn_u_eq, va_up, if_pos rfl]
      obtain ⟨b4, w4⟩ := b3 h0
      have hNt : hs_Net R4 t2 := by unfold hs_Net at hN ⊢; rw [fR t2 (by omega) (by omega), fR (t2 + 6) (by omega) (by omega)]; exact hN
      have hS4 : hs_St R4 (t2 + 11) := by unfold hs_St at hSt ⊢; rw [fR (t2 + 11) (by omega) (by omega)]; exact hSt
      have h44 : hs_St R 44 := hs_St_of hR (by decide +kernel)
      have h44 : hs_St R4 44 := by unfold hs_St at h44 ⊢; rw [fR 44 (by omega) (by omega)]; exact h44
      have c0 : ∀ b, b ≠ 1 → hn_u I3 1 1 0 b = I3 b := fun b hb => hn_u_ne _ _ _ hb
      have z44 : hs_z (hn_u I3 1 1 0) 44 := hs_z_c hz (fun b h1 h2 => by rw [c0 b (by omega), g3.1 b (by omega) (by omega) (by omega)])
      have zt : hs_z (hn_u I3 1 1 0) (t2 + 11) := hs_z_c z3.1 (fun b h1 h2 => c0 b (by omega))
      have qt : hs_Qx (hn_u I3 1 1 0) (t2 + 11) (bK Z.2) (bP Z.2) 0 (q_at I3 (t2 + 11)) := hs_Qx_c (q_at_B b4) (fun b h1 h2 => c0 b (by omega))
      refine b_aload_n rfl rfl ?_
      refine b_callV rfl rfl hk_X_beginAfternoon rfl rfl rfl (by first | rfl | assumption) rfl (Nat.le_of_ble_eq_true rfl) (q_X_beginAfternoon (by rw [f40 6 (by omega) (by omega)]; exact r6) (by rw [f40 11 (by omega) (by omega)]; exact r11) (by rw [f40 14 (by omega) (by omega)]; exact r14) f42 (by rw [f40 4 (by omega) (by omega)]; exact r4) ll lk hNt h44 hS4 z44 zt qt) (Nat.le_of_ble_eq_true rfl) (fun r_42 D_42 q_42 => ?_)
      obtain ⟨rfl, I4, rfl, ba, qa⟩ := q_42
      refine b_iload_n rfl rfl ?_
      exact b_ireturn rfl trivial (⟨rfl, k3.2.2.2.2.2, I3, J3, R3, g3, z3, b3, Or.inr ⟨h0, I4, ba, qa, by rw [hR4]⟩⟩)
  · refine b_aload_n rfl rfl ?_
    refine b_getR rfl (by first | rfl | assumption) rfl (by assumption) ?_
    refine b_aload_n rfl rfl ?_
    refine b_getR rfl (by first | rfl | assumption) rfl (by assumption) ?_
    refine b_callV rfl rfl hk_Reader_readNet rfl rfl rfl (by first | rfl | assumption) rfl (Nat.le_of_ble_eq_true rfl) (q0) (Nat.le_of_ble_eq_true rfl) (fun r_8 D_8 q_8 => ?_)
    obtain ⟨rfl, I3, J3, R3, rfl, g3, k3, z3, b3⟩ := q_8
    have e0 := g3.2.2.1 0 (by omega)
    have hb := k3.2.2.2.2.2
    refine b_istore_n rfl (Nat.le_of_ble_eq_true rfl) ?_
    refine b_aload_n rfl rfl ?_
    refine b_getR rfl (by first | rfl | assumption) rfl (by rw [e0]; exact r0) ?_
    refine b_callV rfl rfl hk_Tape_empty rfl rfl rfl (by first | rfl | assumption) rfl (Nat.le_of_ble_eq_true rfl) (q_Tape_empty) (Nat.le_of_ble_eq_true rfl) (fun r_16 D_16 q_16 => ?_)
    obtain ⟨rfl, rfl⟩ := q_16
    refine b_iload_n rfl rfl ?_
    refine b_if_ne rfl (fun c_20 => ?_) (fun c_20 => ?_)
    · refine b_iload_n rfl rfl ?_
      exact b_ireturn rfl trivial (⟨rfl, hb, I3, J3, R3, g3, z3, b3, Or.inl ⟨h0, rfl⟩⟩)
    · exact absurd ((hi_nIe (k := 0) (by omega) (by omega)).mp c_20) h0
end HNxnet
