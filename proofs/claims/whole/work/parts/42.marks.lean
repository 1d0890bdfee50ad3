section HNmarks
variable {I I' : Nat → Nat → Int32} {J J' : Nat → Nat → Int64} {R : Nat → Nat → Option Nat} {t : Nat} {N : sp_N} {Q Q' : sp_Q} {U : sp_U} {V : sp_V}
theorem q_Seen_copy {a c : Nat} (ha : hs_Se R a) (hc : hs_Se R c) (hd : a + 3 < c ∨ c + 3 < a) (hV : hs_Vx I c V) : hn_F 0 hm_Seen_copy [.ref a, .ref c] (I, J, R) (fun r D' => r = none ∧ hs_fr I J R D' (fun b => a ≤ b ∧ b ≤ a + 3) ∧ hs_Vx D'.1 a V) := by
  obtain ⟨a1, a2, k0, k1, k2, k3, r2, r3, r4⟩ := ha
  obtain ⟨c1, c2, l0, l1, l2, l3, s2, s3, s4⟩ := hc
  obtain ⟨v1, v2, v3, v4, v5⟩ := hV
  refine hn_F_of _ hk_Seen_copy rfl (Nat.le_of_ble_eq_true rfl) ?_
  obtain ⟨P, hPd⟩ : ∃ P : Option Value → hnD → Prop, P = (fun r D' => r = none ∧ hs_fr I J R D' (fun b => a ≤ b ∧ b ≤ a + 3) ∧ hs_Vx D'.1 a V) := ⟨_, rfl⟩
  rw [← hPd]
  have hca : c ≠ a := by omega
  have L : ∀ I' : Nat → Nat → Int32, (∀ b, ¬ (a ≤ b ∧ b ≤ a + 3) → I' b = I b) → I' a 0 = I c 0 → I' a 1 = I c 1 → (∀ i, i < 0 → I' (a + 1) i = I (c + 1) i ∧ I' (a + 2) i = I (c + 2) i ∧ I' (a + 3) i = I (c + 3) i) → hn_B 0 hm_Seen_copy P 18 [.ref a, .ref c, .int (nI 0)] [] (I', J, R) := by
    refine sp_ind 8 (fun k => ∀ I' : Nat → Nat → Int32, (∀ b, ¬ (a ≤ b ∧ b ≤ a + 3) → I' b = I b) → I' a 0 = I c 0 → I' a 1 = I c 1 → (∀ i, i < k → I' (a + 1) i = I (c + 1) i ∧ I' (a + 2) i = I (c + 2) i ∧ I' (a + 3) i = I (c + 3) i) → hn_B 0 hm_Seen_copy P 18 [.ref a, .ref c, .int (nI k)] [] (I', J, R)) ?_ ?_
    · intro I' hf h0 h1 hi
      refine b_iload_n rfl rfl ?_
      refine b_bipush rfl ?_
      refine b_icmp_ge rfl (fun c_21 => ?_) (fun c_21 => ?_)
      · exact b_return_ rfl trivial ((by rw [hPd]; exact ⟨rfl, ⟨rfl, rfl, hf⟩, h1.trans v1, v2, fun z => h0.trans (v3 z), fun i hi9 => by show I' (a + 1) i = _ ∧ I' (a + 2) i = _ ∧ I' (a + 3) i = _; obtain ⟨e1, e2, e3⟩ := hi i (by omega); rw [e1, e2, e3]; exact v4 i hi9, fun i hi9 => by show I' (a + 3) i = 0 ∨ I' (a + 3) i = 1; rw [(hi i hi9).2.2]; exact v5 i hi9⟩))
      · exact absurd hi_88 c_21
    · intro k hk ih I' hf h0 h1 hi
      obtain ⟨I2, hI2⟩ : ∃ z, z = hn_u (hn_u (hn_u I' (a + 1) k (I (c + 1) k)) (a + 2) k (I (c + 2) k)) (a + 3) k (I (c + 3) k) := ⟨_, rfl⟩
      have f2 : ∀ b, ¬ (a + 1 ≤ b ∧ b ≤ a + 3) → I2 b = I' b := fun b hb => by rw [hI2, hn_u_ne _ _ _ (by omega), hn_u_ne _ _ _ (by omega), hn_u_ne _ _ _ (by omega)]
      have hst : ∀ i, i < k + 1 → I2 (a + 1) i = I (c + 1) i ∧ I2 (a + 2) i = I (c + 2) i ∧ I2 (a + 3) i = I (c + 3) i := by
        intro i hi9
        rw [show I2 (a + 1) = va_up (I' (a + 1)) k (I (c + 1) k) by rw [hI2, hn_u_ne _ _ _ (by omega), hn_u_ne _ _ _ (by omega), hn_u_eq], show I2 (a + 2) = va_up (I' (a + 2)) k (I (c + 2) k) by rw [hI2, hn_u_ne _ _ _ (by omega), hn_u_eq, hn_u_ne _ _ _ (by omega)], show I2 (a + 3) = va_up (I' (a + 3)) k (I (c + 3) k) by rw [hI2, hn_u_eq, hn_u_ne _ _ _ (by omega), hn_u_ne _ _ _ (by omega)]]
        unfold va_up
        by_cases e : i = k
        · rw [if_pos e, if_pos e, if_pos e, e]; exact ⟨rfl, rfl, rfl⟩
        · rw [if_neg e, if_neg e, if_neg e]; exact hi i (by omega)
      refine b_iload_n rfl rfl ?_
      refine b_bipush rfl ?_
      refine b_icmp_ge rfl (fun c_21 => ?_) (fun c_21 => ?_)
      · exact absurd c_21 (hi_ge8 hk)
      · refine b_aload_n rfl rfl ?_
        refine b_getR rfl (by first | rfl | assumption) rfl (by assumption) ?_
        refine b_iload_n rfl rfl ?_
        refine b_aload_n rfl rfl ?_
        refine b_getR rfl (by first | rfl | assumption) rfl (by assumption) ?_
        refine b_iload_n rfl rfl ?_
        refine b_iaload rfl (by first | rfl | assumption) (by first | assumption | exact nI_toInt (by omega) | exact hi_l0 | exact hi_l1 | exact hi_l2 | exact hi_l3 | exact hi_l4 | exact hi_l5 | exact hi_l6) (by omega) ?_
        rw [show I' (c + 1) k = I (c + 1) k by rw [hf _ (by omega)]]
        refine b_iastore rfl (by first | rfl | assumption) (by first | assumption | exact nI_toInt (by omega) | exact hi_l0 | exact hi_l1 | exact hi_l2 | exact hi_l3 | exact hi_l4 | exact hi_l5 | exact hi_l6) (by omega) ?_
        refine b_aload_n rfl rfl ?_
        refine b_getR rfl (by first | rfl | assumption) rfl (by assumption) ?_
        refine b_iload_n rfl rfl ?_
        refine b_aload_n rfl rfl ?_
        refine b_getR rfl (by first | rfl | assumption) rfl (by assumption) ?_
        refine b_iload_n rfl rfl ?_
        refine b_iaload rfl (by first | rfl | assumption) (by first | assumption | exact nI_toInt (by omega) | exact hi_l0 | exact hi_l1 | exact hi_l2 | exact hi_l3 | exact hi_l4 | exact hi_l5 | exact hi_l6) (by omega) ?_
        rw [hn_u_ne _ _ _ (show c + 2 ≠ a + 1 by omega), show I' (c + 2) k = I (c + 2) k by rw [hf _ (by omega)]]
        refine b_iastore rfl (by first | rfl | assumption) (by first | assumption | exact nI_toInt (by omega) | exact hi_l0 | exact hi_l1 | exact hi_l2 | exact hi_l3 | exact hi_l4 | exact hi_l5 | exact hi_l6) (by omega) ?_
        refine b_aload_n rfl rfl ?_
        refine b_getR rfl (by first | rfl | assumption) rfl (by assumption) ?_
        refine b_iload_n rfl rfl ?_
        refine b_aload_n rfl rfl ?_
        refine b_getR rfl (by first | rfl | assumption) rfl (by assumption) ?_
        refine b_iload_n rfl rfl ?_
        refine b_baload rfl (by first | rfl | assumption) (by first | assumption | exact nI_toInt (by omega) | exact hi_l0 | exact hi_l1 | exact hi_l2 | exact hi_l3 | exact hi_l4 | exact hi_l5 | exact hi_l6) (by omega) ?_
        rw [hn_u_ne _ _ _ (show c + 3 ≠ a + 2 by omega), hn_u_ne _ _ _ (show c + 3 ≠ a + 1 by omega), show I' (c + 3) k = I (c + 3) k by rw [hf _ (by omega)]]
        refine b_bastore rfl (by first | rfl | assumption) (by first | assumption | exact nI_toInt (by omega) | exact hi_l0 | exact hi_l1 | exact hi_l2 | exact hi_l3 | exact hi_l4 | exact hi_l5 | exact hi_l6) (by omega) (by rcases v5 k hk with h | h <;> rw [h] <;> rfl) ?_
        rw [← hI2]
        refine b_iinc rfl rfl (Nat.le_of_ble_eq_true rfl) ?_
        refine b_goto rfl ?_
        exact b_eq (ih I2 (fun b hb => by rw [f2 b (by omega)]; exact hf b hb) (by rw [f2 a (by omega)]; exact h0) (by rw [f2 a (by omega)]; exact h1) hst) (by rw [nI_succ]; rfl) rfl rfl
  refine b_aload_n rfl rfl ?_
  refine b_aload_n rfl rfl ?_
  refine b_getI rfl (by first | rfl | assumption) rfl ?_
  refine b_putI rfl (by first | rfl | assumption) rfl rfl ⟨rfl, rfl⟩ ?_
  refine b_aload_n rfl rfl ?_
  refine b_aload_n rfl rfl ?_
  refine b_getI rfl (by first | rfl | assumption) rfl ?_
  rw [hn_u_ne _ _ _ hca]
  refine b_putI rfl (by first | rfl | assumption) rfl rfl ⟨rfl, rfl⟩ ?_
  refine b_iconst rfl ?_
  refine b_istore_n rfl (Nat.le_of_ble_eq_true rfl) ?_
  exact b_eq (L (hn_u (hn_u I a 0 (I c 0)) a 1 (I c 1)) (fun b hb => by rw [hn_u_ne _ _ _ (by omega), hn_u_ne _ _ _ (by omega)]) (by rw [hn_u_eq, va_up, if_neg (by omega), hn_u_eq, va_up, if_pos rfl]) (by rw [hn_u_eq, va_up, if_pos rfl]) (fun i hi => absurd hi (by omega))) (by rw [nI_0]; rfl) rfl rfl
theorem sp_see_01 {x y z b : Int32} : (sp_see V x y z b).2 = 0 ∨ (sp_see V x y z b).2 = 1 := by
  unfold sp_see
  split
  · exact Or.inl rfl
  · exact Or.inr rfl
abbrev sp_w30 (z : Int32) : Prop := 0 ≤ z.toInt ∧ z.toInt ≤ 30
def v_see (N : sp_N) (V : sp_V) (x y z b : Int32) : sp_V × Int32 := if sp_in x N.1 ∧ sp_in y N.1 ∧ sp_w30 z then sp_see V x y z b else (V, 0)
theorem q_X_see {x y z b : Int32} (hA : hs_A I R t N Q) (hV : hs_Vx I 135 V) (hb : b = 0 ∨ b = 1) : hn_F 2 hm_X_see [.ref 0, .int x, .int y, .int z, .int b] (I, J, R) (fun r D' => hs_fr I J R D' (fun c => 135 ≤ c ∧ c ≤ 138) ∧ hs_Vx D'.1 135 (v_see N V x y z b).1 ∧ r = some (.int (v_see N V x y z b).2)) := by
  have hA0 := hA
  obtain ⟨hR, r2, ht, hN, hX, hw, hz, hAw⟩ := hA
  have hN0 := hN
  have hX0 := hX
  have hw0 := hw
  obtain ⟨n0, n8, n4, nk, nh, na, hc, ncd⟩ := hN
  obtain ⟨x1, x2, x3, x4, x5, x6, x7⟩ := hX
  obtain ⟨r6, r7, r8, r11, r12, r13, r14, r15, r16, r17, r18⟩ := hs_x0 hR
  have hSt := hs_St_of hR (show 44 ∈ hs_sc by decide)
  have hNt := hs_Net_of hR ht
  obtain ⟨_, sk0, sk1, sk2, sk3, sk4, g0, g1, g2, g3⟩ := id hSt
  obtain ⟨tt5, tn0, tn1, tn2, tn3, tn4, tn5, tn6, tn7, tn8, tn9, tn10, ts1, ts2, ts3, ts4, ts5, ts7, ts8, tl0, tl2, tl6, tl7⟩ := id hNt
  refine hn_F_of _ hk_X_see rfl (Nat.le_of_ble_eq_true rfl) ?_
  by_cases hx : sp_in x N.1
  · by_cases hy : sp_in y N.1
    · by_cases hz9 : sp_w30 z
      · rw [v_see, if_pos ⟨hx, hy, hz9⟩]
        refine b_aload_n rfl rfl ?_
        refine b_iload_n rfl rfl ?_
        refine b_callV rfl rfl hk_X_isKnot rfl rfl rfl (by first | rfl | assumption) rfl (Nat.le_of_ble_eq_true rfl) (q_X_isKnot hA0) (Nat.le_of_ble_eq_true rfl) (fun r_2 D_2 q_2 => ?_)
        obtain ⟨rfl, hq⟩ := q_2
        rw [if_pos hx] at hq
        subst hq
        refine b_if_eq rfl (fun c_5 => ?_) (fun c_5 => ?_)
        · exact absurd c_5 (by decide)
        · refine b_aload_n rfl rfl ?_
          refine b_iload_n rfl rfl ?_
          refine b_callV rfl rfl hk_X_isKnot rfl rfl rfl (by first | rfl | assumption) rfl (Nat.le_of_ble_eq_true rfl) (q_X_isKnot hA0) (Nat.le_of_ble_eq_true rfl) (fun r_10 D_10 q_10 => ?_)
          obtain ⟨rfl, hq⟩ := q_10
          rw [if_pos hy] at hq
          subst hq
          refine b_if_eq rfl (fun c_13 => ?_) (fun c_13 => ?_)
          · exact absurd c_13 (by decide)
          · refine b_iload_n rfl rfl ?_
            refine b_if_lt rfl (fun c_17 => ?_) (fun c_17 => ?_)
            · exact absurd ((hi_lt rfl hi_t0).mp c_17) (by have := hz9.1; omega)
            · refine b_iload_n rfl rfl ?_
              refine b_bipush rfl ?_
              refine b_icmp_le rfl (fun c_23 => ?_) (fun c_23 => ?_)
              · refine b_aload_n rfl rfl ?_
                refine b_getR rfl (by first | rfl | assumption) rfl (by assumption) ?_
                refine b_iload_n rfl rfl ?_
                refine b_iload_n rfl rfl ?_
                refine b_iload_n rfl rfl ?_
                refine b_iload rfl rfl ?_
                refine b_callV rfl rfl hk_Seen_add rfl rfl rfl (by first | rfl | assumption) rfl (Nat.le_of_ble_eq_true rfl) (q_Seen_add (hs_Se_of hR (by decide)) hV hb) (Nat.le_of_ble_eq_true rfl) (fun r_37 D_37 q_37 => ?_)
                obtain ⟨hf, hq, rfl⟩ := q_37
                obtain ⟨I2, rfl, hI2⟩ := hf.out
                exact b_ireturn rfl sp_see_01 (⟨⟨rfl, rfl, hI2⟩, hq, rfl⟩)
              · exact absurd ((hi_le rfl (show (30 : Int32).toInt = 30 from rfl)).mpr hz9.2) c_23
      · rw [v_see, if_neg (fun e => hz9 e.2.2)]
        refine b_aload_n rfl rfl ?_
        refine b_iload_n rfl rfl ?_
        refine b_callV rfl rfl hk_X_isKnot rfl rfl rfl (by first | rfl | assumption) rfl (Nat.le_of_ble_eq_true rfl) (q_X_isKnot hA0) (Nat.le_of_ble_eq_true rfl) (fun r_2 D_2 q_2 => ?_)
        obtain ⟨rfl, hq⟩ := q_2
        rw [if_pos hx] at hq
        subst hq
        refine b_if_eq rfl (fun c_5 => ?_) (fun c_5 => ?_)
        · exact absurd c_5 (by decide)
        · refine b_aload_n rfl rfl ?_
          refine b_iload_n rfl rfl ?_
          refine b_callV rfl rfl hk_X_isKnot rfl rfl rfl (by first | rfl | assumption) rfl (Nat.le_of_ble_eq_true rfl) (q_X_isKnot hA0) (Nat.le_of_ble_eq_true rfl) (fun r_10 D_10 q_10 => ?_)
          obtain ⟨rfl, hq⟩ := q_10
          rw [if_pos hy] at hq
          subst hq
          refine b_if_eq rfl (fun c_13 => ?_) (fun c_13 => ?_)
          · exact absurd c_13 (by decide)
          · refine b_iload_n rfl rfl ?_
            refine b_if_lt rfl (fun c_17 => ?_) (fun c_17 => ?_)
            · refine b_iconst rfl ?_
              exact b_ireturn rfl (by first | exact Or.inl rfl | exact Or.inr rfl | exact trivial) (⟨⟨rfl, rfl, fun _ _ => rfl⟩, hV, rfl⟩)
            · refine b_iload_n rfl rfl ?_
              refine b_bipush rfl ?_
              refine b_icmp_le rfl (fun c_23 => ?_) (fun c_23 => ?_)
              · exact absurd ⟨by have := mt (hi_lt (x := z) rfl hi_t0).mpr c_17; omega, (hi_le rfl (show (30 : Int32).toInt = 30 from rfl)).mp c_23⟩ hz9
              · refine b_iconst rfl ?_
                exact b_ireturn rfl (by first | exact Or.inl rfl | exact Or.inr rfl | exact trivial) (⟨⟨rfl, rfl, fun _ _ => rfl⟩, hV, rfl⟩)
    · rw [v_see, if_neg (fun e => hy e.2.1)]
      refine b_aload_n rfl rfl ?_
      refine b_iload_n rfl rfl ?_
      refine b_callV rfl rfl hk_X_isKnot rfl rfl rfl (by first | rfl | assumption) rfl (Nat.le_of_ble_eq_true rfl) (q_X_isKnot hA0) (Nat.le_of_ble_eq_true rfl) (fun r_2 D_2 q_2 => ?_)
      obtain ⟨rfl, hq⟩ := q_2
      rw [if_pos hx] at hq
      subst hq
      refine b_if_eq rfl (fun c_5 => ?_) (fun c_5 => ?_)
      · exact absurd c_5 (by decide)
      · refine b_aload_n rfl rfl ?_
        refine b_iload_n rfl rfl ?_
        refine b_callV rfl rfl hk_X_isKnot rfl rfl rfl (by first | rfl | assumption) rfl (Nat.le_of_ble_eq_true rfl) (q_X_isKnot hA0) (Nat.le_of_ble_eq_true rfl) (fun r_10 D_10 q_10 => ?_)
        obtain ⟨rfl, hq⟩ := q_10
        rw [if_neg hy] at hq
        subst hq
        refine b_if_eq rfl (fun c_13 => ?_) (fun c_13 => ?_)
        · refine b_iconst rfl ?_
          exact b_ireturn rfl (by first | exact Or.inl rfl | exact Or.inr rfl | exact trivial) (⟨⟨rfl, rfl, fun _ _ => rfl⟩, hV, rfl⟩)
        · exact absurd rfl c_13
  · rw [v_see, if_neg (fun e => hx e.1)]
    refine b_aload_n rfl rfl ?_
    refine b_iload_n rfl rfl ?_
    refine b_callV rfl rfl hk_X_isKnot rfl rfl rfl (by first | rfl | assumption) rfl (Nat.le_of_ble_eq_true rfl) (q_X_isKnot hA0) (Nat.le_of_ble_eq_true rfl) (fun r_2 D_2 q_2 => ?_)
    obtain ⟨rfl, hq⟩ := q_2
    rw [if_neg hx] at hq
    subst hq
    refine b_if_eq rfl (fun c_5 => ?_) (fun c_5 => ?_)
    · refine b_iconst rfl ?_
      exact b_ireturn rfl (by first | exact Or.inl rfl | exact Or.inr rfl | exact trivial) (⟨⟨rfl, rfl, fun _ _ => rfl⟩, hV, rfl⟩)
    · exact absurd rfl c_5
/-! marks -/
abbrev sp_K : Type := Nat → Option (sp_Q × sp_V)
def hs_Kx (I : Nat → Nat → Int32) (n np : Nat) (K : sp_K) : Prop := ∀ m, m < 4 → match K m with
  | none => I 141 m = 0
  | some q => I 141 m = 1 ∧ hs_Qx I (142 + 9 * m) n np 0 q.1 ∧ hs_Vx I (147 + 9 * m) q.2
def hs_Km (I : Nat → Nat → Int32) (K : sp_K) : Prop := ∀ m, m < 4 → match K m with
  | none => I 205 m = 0
  | some q => I 205 m = 1 ∧ hs_Qm I (47 * (1 + m)) q.1 ∧ hs_Vm I (47 * (1 + m)) q.2
/-- all that is marked, can be undone, is seen -/
abbrev sp_Y : Type := sp_U × sp_V × sp_K
def u_mark (Y : sp_Y) (x b : Int32) : sp_Y × Int32 := if sp_in x 4 then (if b = 0 then ((Y.1, Y.2.1, va_up Y.2.2 x.toNatClampNeg (some (Y.1.1, Y.2.1))), 1) else match Y.2.2 x.toNatClampNeg with
  | none => (Y, 0)
  | some q => (((q.1, 0, Y.1.2.2), q.2, Y.2.2), 1)) else (Y, 0)
def hs_kx (I : Nat → Nat → Int32) (J : Nat → Nat → Int64) (R : Nat → Nat → Option Nat) (N : sp_N) (Y : sp_Y) (D : hnD) : Prop := D.2.1 = J ∧ D.2.2 = R ∧ (∀ b, ¬ (b = 0 ∨ (44 ≤ b ∧ b ≤ 48) ∨ (135 ≤ b ∧ b ≤ 177)) → D.1 b = I b) ∧ (∀ i, i ≠ 9 → D.1 0 i = I 0 i) ∧ D.1 0 9 = nI Y.1.2.1 ∧ hs_Qx D.1 44 N.1 N.2.1 0 Y.1.1 ∧ hs_Vx D.1 135 Y.2.1 ∧ hs_Kx D.1 N.1 N.2.1 Y.2.2 ∧ hs_zs D.1
theorem hs_Vx_fr {a : Nat} (h : hs_Vx I a V) (hf : ∀ b, a ≤ b → b ≤ a + 3 → I' b = I b) : hs_Vx I' a V := by
  unfold hs_Vx
  rw [hf a (by omega) (by omega), hf (a + 1) (by omega) (by omega), hf (a + 2) (by omega) (by omega), hf (a + 3) (by omega) (by omega)]
  exact h
theorem hs_r139 {m : Nat} (hR : hs_refs R) (h : m < 4) : R 139 m = some (142 + 9 * m) ∧ R 140 m = some (147 + 9 * m) := by
  have key : ∀ m, m < 4 → (139, m, 142 + 9 * m) ∈ hn_reft ∧ (140, m, 147 + 9 * m) ∈ hn_reft := by decide +kernel
  exact ⟨hR _ (key m h).1, hR _ (key m h).2⟩
theorem hs_sc_m {m : Nat} (h : m < 4) : 142 + 9 * m ∈ hs_sc := by
  have key : ∀ m, m < 4 → 142 + 9 * m ∈ hs_sc := by decide +kernel
  exact key m h
theorem hs_se_m {m : Nat} (h : m < 4) : 147 + 9 * m ∈ [135, 147, 156, 165, 174] := by
  have key : ∀ m, m < 4 → 147 + 9 * m ∈ [135, 147, 156, 165, 174] := by decide +kernel
  exact key m h
theorem hs_sc_gap {a : Nat} (h : a ∈ hs_sc) : (a + 4 < 44 ∨ a = 44 ∨ 48 < a) ∧ (a + 4 < 135 ∨ 141 < a) ∧ ∀ m, m < 4 → (a + 4 < 142 + 9 * m ∨ a = 142 + 9 * m ∨ 142 + 9 * m + 8 < a) := by
  have key : ∀ a, a ∈ hs_sc → (a + 4 < 44 ∨ a = 44 ∨ 48 < a) ∧ (a + 4 < 135 ∨ 141 < a) ∧ ∀ m, m < 4 → (a + 4 < 142 + 9 * m ∨ a = 142 + 9 * m ∨ 142 + 9 * m + 8 < a) := by decide +kernel
  exact key a h
theorem hs_kx_r {Y : sp_Y} (hX : hs_Qx I 44 N.1 N.2.1 0 Y.1.1) (hp : I 0 9 = nI Y.1.2.1) (hV : hs_Vx I 135 Y.2.1) (hK : hs_Kx I N.1 N.2.1 Y.2.2) (hz : hs_zs I) : hs_kx I J R N Y (I, J, R) := ⟨rfl, rfl, fun _ _ => rfl, fun _ _ => rfl, hp, hX, hV, hK, hz⟩
theorem hs_Kx_fr {n np : Nat} {K : sp_K} (hK : hs_Kx I n np K) (hf : ∀ b, 141 ≤ b → b ≤ 177 → I' b = I b) : hs_Kx I' n np K := by
  intro j hj
  have hKj := hK j hj
  rw [hf 141 (by omega) (by omega)]
  cases hc : K j with
  | none => rw [hc] at hKj; exact hKj
  | some q => rw [hc] at hKj; exact ⟨hKj.1, hs_Qx_fr hKj.2.1 (fun b h1 h2 => hf b (by omega) (by omega)), hs_Vx_fr hKj.2.2 (fun b h1 h2 => hf b (by omega) (by omega))⟩
theorem mark_lay {Y : sp_Y} {m : Nat} (hm : m < 4) (hSt : ∀ {a : Nat}, a ∈ hs_sc → hs_St R a) (hX : hs_Qx I 44 N.1 N.2.1 0 Y.1.1) (hp : I 0 9 = nI Y.1.2.1) (hV : hs_Vx I 135 Y.2.1) (hK : hs_Kx I N.1 N.2.1 Y.2.2) (hz : hs_zs I) (hw : hs_Qw N.1 N.2.1 Y.1.1) (n8 : N.1 ≤ 8) (n4 : N.2.1 ≤ 4)
    (e9 : ∀ b, ¬ (b = 141 ∨ (142 + 9 * m ≤ b ∧ b ≤ 142 + 9 * m + 8)) → I' b = I b) (g1 : hs_Qx I' (142 + 9 * m) N.1 N.2.1 0 Y.1.1) (g3 : hs_Vx I' (147 + 9 * m) Y.2.1) (e141 : I' 141 = va_up (I 141) m 1) : hs_kx I J R N (Y.1, Y.2.1, va_up Y.2.2 m (some (Y.1.1, Y.2.1))) (I', J, R) := by
  refine ⟨rfl, rfl, fun b hb => e9 b (by omega), fun i hi => congrFun (e9 0 (by omega)) i, (congrFun (e9 0 (by omega)) 9).trans hp, hs_Qx_fr hX (fun b h1 h2 => e9 b (by omega)), hs_Vx_fr hV (fun b h1 h2 => e9 b (by omega)), fun j hj => ?_, fun a ha => ?_⟩
  · show match va_up Y.2.2 m (some (Y.1.1, Y.2.1)) j with | none => I' 141 j = 0 | some q => I' 141 j = 1 ∧ hs_Qx I' (142 + 9 * j) N.1 N.2.1 0 q.1 ∧ hs_Vx I' (147 + 9 * j) q.2
    rw [e141]
    by_cases e : j = m
    · subst e
      rw [show va_up Y.2.2 j (some (Y.1.1, Y.2.1)) j = some (Y.1.1, Y.2.1) by rw [va_up, if_pos rfl], show va_up (I 141) j 1 j = 1 by rw [va_up, if_pos rfl]]
      exact ⟨rfl, g1, g3⟩
    · have hKj := hK j hj
      rw [show va_up Y.2.2 m (some (Y.1.1, Y.2.1)) j = Y.2.2 j by rw [va_up, if_neg e], show va_up (I 141) m 1 j = I 141 j by rw [va_up, if_neg e]]
      cases hc : Y.2.2 j with
      | none => rw [hc] at hKj; exact hKj
      | some q => rw [hc] at hKj; exact ⟨hKj.1, hs_Qx_fr hKj.2.1 (fun b h1 h2 => e9 b (by omega)), hs_Vx_fr hKj.2.2 (fun b h1 h2 => e9 b (by omega))⟩
  · show hs_z I' a
    have h15 := (hSt ha).1
    rcases (hs_sc_gap ha).2.2 m hm with h | h | h
    · exact hs_z_fr (hz a ha) (fun b h1 h2 => e9 b (by have := (hs_sc_gap ha).2.1; omega))
    · subst h; exact hs_z_of g1 hw n8 n4
    · exact hs_z_fr (hz a ha) (fun b h1 h2 => e9 b (by omega))
theorem mark_back {K : sp_K} {q : sp_Q × sp_V} (hSt : ∀ {a : Nat}, a ∈ hs_sc → hs_St R a) (hK : hs_Kx I N.1 N.2.1 K) (hz : hs_zs I) (hw : hs_Qw N.1 N.2.1 q.1) (n8 : N.1 ≤ 8) (n4 : N.2.1 ≤ 4)
    (e9 : ∀ b, ¬ (b = 0 ∨ (44 ≤ b ∧ b ≤ 48) ∨ (135 ≤ b ∧ b ≤ 138)) → I' b = I b) (e0 : I' 0 = va_up (I 0) 9 0) (g1 : hs_Qx I' 44 N.1 N.2.1 0 q.1) (g3 : hs_Vx I' 135 q.2) : hs_kx I J R N ((q.1, 0, U.2.2), q.2, K) (I', J, R) := by
  refine ⟨rfl, rfl, fun b hb => e9 b (by omega), fun i hi => ?_, ?_, g1, g3, hs_Kx_fr hK (fun b h1 h2 => e9 b (by omega)), fun a ha => ?_⟩
  · show I' 0 i = I 0 i
    rw [e0, va_up, if_neg hi]
  · show I' 0 9 = nI 0
    rw [e0, va_up, if_pos rfl]; rfl
  · show hs_z I' a
    have hg := hs_sc_gap ha
    have h15 := (hSt ha).1
    rcases hg.1 with h | h | h
    · exact hs_z_fr (hz a ha) (fun b h1 h2 => e9 b (by omega))
    · subst h; exact hs_z_of g1 hw n8 n4
    · exact hs_z_fr (hz a ha) (fun b h1 h2 => e9 b (by have := hg.2.1; omega))
theorem q_X_mark {Y : sp_Y} {x b : Int32} (hA : hs_A I R t N Y.1.1) (hzs : hs_zs I) (hp : I 0 9 = nI Y.1.2.1) (hV : hs_Vx I 135 Y.2.1) (hK : hs_Kx I N.1 N.2.1 Y.2.2) (hKw : ∀ m q, m < 4 → Y.2.2 m = some q → hs_Qw N.1 N.2.1 q.1) (hb : b = 0 ∨ b = 1) : hn_F 2 hm_X_mark [.ref 0, .int x, .int b] (I, J, R) (fun r D' => hs_kx I J R N (u_mark Y x b).1 D' ∧ r = some (.int (u_mark Y x b).2)) := by
  have hA0 := hA
  obtain ⟨hR, r2, ht, hN, hX, hw, hz, hAw⟩ := hA
  have hN0 := hN
  have hX0 := hX
  have hw0 := hw
  obtain ⟨n0, n8, n4, nk, nh, na, hc, ncd⟩ := hN
  obtain ⟨x1, x2, x3, x4, x5, x6, x7⟩ := hX
  obtain ⟨r6, r7, r8, r11, r12, r13, r14, r15, r16, r17, r18⟩ := hs_x0 hR
  have hSt := hs_St_of hR (show 44 ∈ hs_sc by decide)
  have hNt := hs_Net_of hR ht
  obtain ⟨_, sk0, sk1, sk2, sk3, sk4, g0, g1, g2, g3⟩ := id hSt
  obtain ⟨tt5, tn0, tn1, tn2, tn3, tn4, tn5, tn6, tn7, tn8, tn9, tn10, ts1, ts2, ts3, ts4, ts5, ts7, ts8, tl0, tl2, tl6, tl7⟩ := id hNt
  have hSe := hs_Se_of hR (show 135 ∈ [135, 147, 156, 165, 174] by decide)
  have k141 : hn_kind 141 = (3, 4) := rfl
  have k139 : hn_kind 139 = (5, 4) := rfl
  have k140 : hn_kind 140 = (6, 4) := rfl
  refine hn_F_of _ hk_X_mark rfl (Nat.le_of_ble_eq_true rfl) ?_
  by_cases hx : sp_in x 4
  · obtain ⟨m, hm, rfl⟩ := sp_in_nat hx
    obtain ⟨rq, rv⟩ := hs_r139 hR hm
    have hSm := hs_St_of hR (hs_sc_m hm)
    have hVm := hs_Se_of hR (hs_se_m hm)
    have hkm := hSm.2.1
    have hkv := hVm.2.2.1
    have hcm := nI_clamp (n := m) (by omega)
    have hK9 := hK m hm
    rcases hb with rfl | rfl
    · rw [u_mark, if_pos hx, if_pos rfl, hcm]
      refine b_iload_n rfl rfl ?_
      refine b_if_lt rfl (fun c_1 => ?_) (fun c_1 => ?_)
      · exact absurd ((hi_lt rfl hi_t0).mp c_1) (by have := hx.1; omega)
      · refine b_iload_n rfl rfl ?_
        refine b_iconst rfl ?_
        refine b_icmp_ge rfl (fun c_6 => ?_) (fun c_6 => ?_)
        · exact absurd c_6 (nI_ge (b := 4) hm (by omega))
        · refine b_iload_n rfl rfl ?_
          refine b_if_eq rfl (fun c_10 => ?_) (fun c_10 => ?_)
          · refine b_iload_n rfl rfl ?_
            refine b_if_eq rfl (fun c_25 => ?_) (fun c_25 => ?_)
            · refine b_aload_n rfl rfl ?_
              refine b_getR rfl (by first | rfl | assumption) rfl (by assumption) ?_
              refine b_iload_n rfl rfl ?_
              refine b_aaload rfl (by first | assumption | rfl) (by decide) (by first | assumption | exact nI_toInt (by omega) | exact hi_l0 | exact hi_l1 | exact hi_l2 | exact hi_l3 | exact hi_l4 | exact hi_l5 | exact hi_l6) (by omega) (by assumption) ?_
              refine b_aload_n rfl rfl ?_
              refine b_getR rfl (by first | rfl | assumption) rfl (by assumption) ?_
              refine b_callV rfl rfl hk_State_copy rfl rfl rfl (by first | rfl | assumption) rfl (Nat.le_of_ble_eq_true rfl) (qx_copy hSm hSt (by omega) (hzs _ (hs_sc_m hm)) (hzs _ (by decide)) hX0) (Nat.le_of_ble_eq_true rfl) (fun r_72 D_72 q_72 => ?_)
              obtain ⟨rfl, hf, g1⟩ := q_72
              obtain ⟨I2, rfl, hI2⟩ := hf.out
              have hV2 := hs_Vx_fr hV (I' := I2) (fun b h1 h2 => hI2 b (by omega))
              refine b_aload_n rfl rfl ?_
              refine b_getR rfl (by first | rfl | assumption) rfl (by assumption) ?_
              refine b_iload_n rfl rfl ?_
              refine b_aaload rfl (by first | assumption | rfl) (by decide) (by first | assumption | exact nI_toInt (by omega) | exact hi_l0 | exact hi_l1 | exact hi_l2 | exact hi_l3 | exact hi_l4 | exact hi_l5 | exact hi_l6) (by omega) (by assumption) ?_
              refine b_aload_n rfl rfl ?_
              refine b_getR rfl (by first | rfl | assumption) rfl (by assumption) ?_
              refine b_callV rfl rfl hk_Seen_copy rfl rfl rfl (by first | rfl | assumption) rfl (Nat.le_of_ble_eq_true rfl) (q_Seen_copy hVm hSe (by omega) hV2) (Nat.le_of_ble_eq_true rfl) (fun r_85 D_85 q_85 => ?_)
              obtain ⟨rfl, hf3, g3⟩ := q_85
              obtain ⟨I3, rfl, hI3⟩ := hf3.out
              refine b_aload_n rfl rfl ?_
              refine b_getR rfl (by first | rfl | assumption) rfl (by assumption) ?_
              refine b_iload_n rfl rfl ?_
              refine b_iconst rfl ?_
              refine b_bastore rfl (by first | rfl | assumption) (by first | assumption | exact nI_toInt (by omega) | exact hi_l0 | exact hi_l1 | exact hi_l2 | exact hi_l3 | exact hi_l4 | exact hi_l5 | exact hi_l6) (by omega) rfl ?_
              have e9 : ∀ b, ¬ (b = 141 ∨ (142 + 9 * m ≤ b ∧ b ≤ 142 + 9 * m + 8)) → hn_u I3 141 m 1 b = I b := fun b hb => by rw [hn_u_ne _ _ _ (by omega), hI3 b (by omega), hI2 b (by omega)]
              refine b_iconst rfl ?_
              exact b_ireturn rfl (by first | exact Or.inl rfl | exact Or.inr rfl | exact trivial) (⟨mark_lay hm (hs_St_of hR) hX0 hp hV hK hzs hw0 n8 n4 e9 (hs_Qx_fr g1 (fun b h1 h2 => by rw [hn_u_ne _ _ _ (by omega), hI3 b (by omega)])) (hs_Vx_fr g3 (fun b h1 h2 => by rw [hn_u_ne _ _ _ (by omega)])) (by rw [hn_u_eq, hI3 141 (by omega), hI2 141 (by omega)]), rfl⟩)
            · exact absurd rfl c_25
          · exact absurd rfl c_10
    · rw [u_mark, if_pos hx, if_neg (by decide), hcm]
      cases hc : Y.2.2 m with
      | none =>
        rw [hc] at hK9
        refine b_iload_n rfl rfl ?_
        refine b_if_lt rfl (fun c_1 => ?_) (fun c_1 => ?_)
        · exact absurd ((hi_lt rfl hi_t0).mp c_1) (by have := hx.1; omega)
        · refine b_iload_n rfl rfl ?_
          refine b_iconst rfl ?_
          refine b_icmp_ge rfl (fun c_6 => ?_) (fun c_6 => ?_)
          · exact absurd c_6 (nI_ge (b := 4) hm (by omega))
          · refine b_iload_n rfl rfl ?_
            refine b_if_eq rfl (fun c_10 => ?_) (fun c_10 => ?_)
            · exact absurd c_10 (by decide)
            · refine b_aload_n rfl rfl ?_
              refine b_getR rfl (by first | rfl | assumption) rfl (by assumption) ?_
              refine b_iload_n rfl rfl ?_
              refine b_baload rfl (by first | rfl | assumption) (by first | assumption | exact nI_toInt (by omega) | exact hi_l0 | exact hi_l1 | exact hi_l2 | exact hi_l3 | exact hi_l4 | exact hi_l5 | exact hi_l6) (by omega) ?_
              rw [hK9]
              refine b_if_ne rfl (fun c_19 => ?_) (fun c_19 => ?_)
              · exact absurd rfl c_19
              · refine b_iconst rfl ?_
                exact b_ireturn rfl (by first | exact Or.inl rfl | exact Or.inr rfl | exact trivial) (⟨hs_kx_r hX0 hp hV hK hzs, rfl⟩)
      | some q =>
        rw [hc] at hK9
        have hqw := hKw m q hm hc
        refine b_iload_n rfl rfl ?_
        refine b_if_lt rfl (fun c_1 => ?_) (fun c_1 => ?_)
        · exact absurd ((hi_lt rfl hi_t0).mp c_1) (by have := hx.1; omega)
        · refine b_iload_n rfl rfl ?_
          refine b_iconst rfl ?_
          refine b_icmp_ge rfl (fun c_6 => ?_) (fun c_6 => ?_)
          · exact absurd c_6 (nI_ge (b := 4) hm (by omega))
          · refine b_iload_n rfl rfl ?_
            refine b_if_eq rfl (fun c_10 => ?_) (fun c_10 => ?_)
            · exact absurd c_10 (by decide)
            · refine b_aload_n rfl rfl ?_
              refine b_getR rfl (by first | rfl | assumption) rfl (by assumption) ?_
              refine b_iload_n rfl rfl ?_
              refine b_baload rfl (by first | rfl | assumption) (by first | assumption | exact nI_toInt (by omega) | exact hi_l0 | exact hi_l1 | exact hi_l2 | exact hi_l3 | exact hi_l4 | exact hi_l5 | exact hi_l6) (by omega) ?_
              rw [hK9.1]
              refine b_if_ne rfl (fun c_19 => ?_) (fun c_19 => ?_)
              · refine b_iload_n rfl rfl ?_
                refine b_if_eq rfl (fun c_25 => ?_) (fun c_25 => ?_)
                · exact absurd c_25 (by decide)
                · refine b_aload_n rfl rfl ?_
                  refine b_getR rfl (by first | rfl | assumption) rfl (by assumption) ?_
                  refine b_aload_n rfl rfl ?_
                  refine b_getR rfl (by first | rfl | assumption) rfl (by assumption) ?_
                  refine b_iload_n rfl rfl ?_
                  refine b_aaload rfl (by first | assumption | rfl) (by decide) (by first | assumption | exact nI_toInt (by omega) | exact hi_l0 | exact hi_l1 | exact hi_l2 | exact hi_l3 | exact hi_l4 | exact hi_l5 | exact hi_l6) (by omega) (by assumption) ?_
                  refine b_callV rfl rfl hk_State_copy rfl rfl rfl (by first | rfl | assumption) rfl (Nat.le_of_ble_eq_true rfl) (qx_copy hSt hSm (by omega) (hzs _ (by decide)) (hzs _ (hs_sc_m hm)) hK9.2.1) (Nat.le_of_ble_eq_true rfl) (fun r_38 D_38 q_38 => ?_)
                  obtain ⟨rfl, hf, g1⟩ := q_38
                  obtain ⟨I2, rfl, hI2⟩ := hf.out
                  have hV2 := hs_Vx_fr hK9.2.2 (I' := I2) (fun b h1 h2 => hI2 b (by omega))
                  refine b_aload_n rfl rfl ?_
                  refine b_getR rfl (by first | rfl | assumption) rfl (by assumption) ?_
                  refine b_aload_n rfl rfl ?_
                  refine b_getR rfl (by first | rfl | assumption) rfl (by assumption) ?_
                  refine b_iload_n rfl rfl ?_
                  refine b_aaload rfl (by first | assumption | rfl) (by decide) (by first | assumption | exact nI_toInt (by omega) | exact hi_l0 | exact hi_l1 | exact hi_l2 | exact hi_l3 | exact hi_l4 | exact hi_l5 | exact hi_l6) (by omega) (by assumption) ?_
                  refine b_callV rfl rfl hk_Seen_copy rfl rfl rfl (by first | rfl | assumption) rfl (Nat.le_of_ble_eq_true rfl) (q_Seen_copy hSe hVm (by omega) hV2) (Nat.le_of_ble_eq_true rfl) (fun r_51 D_51 q_51 => ?_)
                  obtain ⟨rfl, hf3, g3⟩ := q_51
                  obtain ⟨I3, rfl, hI3⟩ := hf3.out
                  refine b_aload_n rfl rfl ?_
                  refine b_iconst rfl ?_
                  refine b_putI rfl (by first | rfl | assumption) rfl rfl ⟨rfl, rfl⟩ ?_
                  refine b_goto rfl ?_
                  have e9 : ∀ b, ¬ (b = 0 ∨ (44 ≤ b ∧ b ≤ 48) ∨ (135 ≤ b ∧ b ≤ 138)) → hn_u I3 0 9 0 b = I b := fun b hb => by rw [hn_u_ne _ _ _ (by omega), hI3 b (by omega), hI2 b (by omega)]
                  refine b_iconst rfl ?_
                  exact b_ireturn rfl (by first | exact Or.inl rfl | exact Or.inr rfl | exact trivial) (⟨mark_back (U := Y.1) (hs_St_of hR) hK hzs hqw n8 n4 e9 (by rw [hn_u_eq, hI3 0 (by omega), hI2 0 (by omega)]) (hs_Qx_fr g1 (fun b h1 h2 => by rw [hn_u_ne _ _ _ (by omega), hI3 b (by omega)])) (hs_Vx_fr g3 (fun b h1 h2 => hn_u_ne _ _ _ (by omega))), rfl⟩)
              · exact absurd c_19 (by decide)
  · rw [u_mark, if_neg hx]
    refine b_iload_n rfl rfl ?_
    refine b_if_lt rfl (fun c_1 => ?_) (fun c_1 => ?_)
    · refine b_iconst rfl ?_
      exact b_ireturn rfl (by first | exact Or.inl rfl | exact Or.inr rfl | exact trivial) (⟨hs_kx_r hX0 hp hV hK hzs, rfl⟩)
    · refine b_iload_n rfl rfl ?_
      refine b_iconst rfl ?_
      refine b_icmp_ge rfl (fun c_6 => ?_) (fun c_6 => ?_)
      · refine b_iconst rfl ?_
        exact b_ireturn rfl (by first | exact Or.inl rfl | exact Or.inr rfl | exact trivial) (⟨hs_kx_r hX0 hp hV hK hzs, rfl⟩)
      · exact absurd ⟨by have := mt (hi_lt (x := x) rfl hi_t0).mpr c_1; omega, by have := mt (hi_le (x := 4) rfl rfl).mpr c_6; have e : (4 : Int32).toInt = 4 := rfl; omega⟩ hx
end HNmarks
