section HNmline
variable {I I' : Nat → Nat → Int32} {J J' : Nat → Nat → Int64} {R R' : Nat → Nat → Option Nat}
def hs_Le (I : Nat → Nat → Int32) (J : Nat → Nat → Int64) (R : Nat → Nat → Option Nat) (f : Nat → Nat) (n E : Nat) (X : rd × sp_B) (D' : hnD) : Prop := ∃ Q I2 J2, D' = (I2, J2, R) ∧ hs_mn I J I2 J2 ∧ hs_Rm I2 J2 f n E Q ∧ p_e f n Q = X.1 ∧ (X.1.1 = 0 → hs_Bm I2 J2 X.2 ∧ hs_Bq X.2)
theorem hs_Wm_c (h : hs_Wm J) (g : J' 193 = J 193) : hs_Wm J' := by
  unfold hs_Wm at h ⊢
  rw [g]
  exact h
theorem p_e_n {f : Nat → Nat} {n : Nat} {s : rd} (h : ¬ s.1 = 0) : p_e f n s = s := if_neg h
theorem ml_2 {f : Nat → Nat} {n E : Nat} {s : rd} {B : sp_B} (hM : hs_M R) (hW : hs_Wm J) (h : hs_Rm I J f n E s) (h0 : s.1 = 0) (hB : hs_Bm I J B) (hq : hs_Bq B) (w2 : wx (tq f n s.2) = 2) : hn_F 34 hm_M_readLine [.ref 188] (I, J, R) (fun r D' => r = none ∧ hs_Le I J R f n E (p_ln f n (s, B)) D') := by
  refine hn_F_of _ hk_M_readLine rfl (Nat.le_of_ble_eq_true rfl) ?_
  obtain ⟨m1, m4, m5, m6, m9, m10, m11, m12, m14, m15, m16, m17, m20, m21, m22, m23, m25, m27, m28, m29, m30, m31, m32⟩ := id hM
  obtain ⟨hw, hj, hcc⟩ := hq
  have b60 := hB.1
  have hkn := hj.1
  have hpn := hj.2.1
  have hX : p_ln f n (s, B) = (p_kn f n (bNm B) (bK B) (bPm B) (bP B) s, b_k B (tq f n (s.2 + 1)).2.2.2 (wx (tq f n (s.2 + 2)) - 15) (tq f n (s.2 + 4)).2.2.2) := if_pos w2
  obtain ⟨X, hXd⟩ : ∃ X, X = p_ln f n (s, B) := ⟨_, rfl⟩
  rw [← hXd] at hX ⊢
  obtain ⟨Z1, hZ1⟩ : ∃ Z1, Z1 = p_nn f n (bNm B) (bK B) (bPm B) (bP B) (p_u f n (8 ≤ bK B) 5 s) := ⟨_, rfl⟩
  obtain ⟨Q, hQ⟩ : ∃ Q, Q = p_n f n 20 (p_w f n (1 + 2) (p_k f n Z1)) := ⟨_, rfl⟩
  have hX1 : X.1 = p_e f n Q := by rw [hX, hQ, hZ1]; rfl
  have e65 : (65 : Int32) + 4 * nI (bK B) = nI (65 + 4 * bK B) := by rw [nI_ad, nI_ml]; rfl
  have q2 := q_M_isWord (R := R) (w := 0) hM hW h (by omega) rfl
  have q26 := q_M_readName (mc := 0) (mo := 8) (fr := 0) (c := bK B) hM hW h h0 (wx_0 (by omega)) hB.2.2.2.2.2.2.2.1 hj hB.2.2.2.2.2.2.2.2.1 rfl rfl rfl (by omega) b60 hkn (by omega) (by omega) (fun _ => by omega)
  rw [← hZ1] at q26
  have p0 : s.1 = 0 ∧ wx (tq f n s.2) = 0 + 2 := ⟨h0, w2⟩
  by_cases hQ0 : Q.1 = 0
  · have a1 := p_n_1 (hQ ▸ hQ0)
    have a2 := p_w_1 a1.1
    have a3 := p_k_1 a2.1
    have z1 := a3.1
    have a4 := p_nn_1 (hZ1 ▸ z1)
    have a5 := p_u_1 (by omega) a4.1.1
    rw [a5.2] at a4
    have eZ : Z1 = (0, s.2 + 2) := by rw [hZ1, a5.2, a4.2.2.2]
    rw [eZ] at a3
    have ek : p_k f n Z1 = (0, s.2 + 3) := by rw [eZ]; exact a3.2.2
    rw [ek] at a2
    have ew : p_w f n (1 + 2) (p_k f n Z1) = (0, s.2 + 4) := by rw [ek]; exact a2.2.2
    rw [ew] at a1
    have h1 : (tq f n (s.2 + 1)).1 = 1 := a4.1.2.1
    have v27 := ((tq_9 (f := f) (n := n) (s.2 + 1)).2 h1).1
    have hk8 : bK B < 8 := by omega
    have w15 : 15 ≤ wx (tq f n (s.2 + 2)) ∧ wx (tq f n (s.2 + 2)) ≤ 18 := a3.2.1
    refine b_aload_n rfl rfl ?_
    refine b_iconst rfl ?_
    refine b_callV rfl rfl hk_M_isWord rfl rfl rfl (by first | rfl | assumption) rfl (Nat.le_of_ble_eq_true rfl) (q2) (Nat.le_of_ble_eq_true rfl) (fun r_2 D_2 q_2 => ?_)
    obtain ⟨⟨b, rfl, hb⟩, rfl⟩ := q_2
    refine b_if_eq rfl (fun c_5 => ?_) (fun c_5 => ?_)
    · rcases hb with ⟨_, hb⟩ | ⟨hb, _⟩ <;> first | exact absurd p0 hb | (rw [hb] at c_5; exact absurd c_5 (by decide))
    · refine b_bipush rfl ?_
      refine b_iconst rfl ?_
      refine b_aload_n rfl rfl ?_
      refine b_getR rfl (by first | rfl | assumption) rfl (by assumption) ?_
      refine b_bipush rfl ?_
      refine b_iaload rfl (by first | rfl | assumption) (show (60 : Int32).toInt = ((60 : Nat) : Int) by decide) (by omega) ?_
      rw [b60]
      refine b_imul rfl ?_
      refine b_iadd rfl ?_
      rw [e65]
      refine b_istore_n rfl (Nat.le_of_ble_eq_true rfl) ?_
      refine b_aload_n rfl rfl ?_
      refine b_iconst rfl ?_
      refine b_bipush rfl ?_
      refine b_iconst rfl ?_
      refine b_callV rfl rfl hk_M_readName rfl rfl rfl (by first | rfl | assumption) rfl (Nat.le_of_ble_eq_true rfl) (q26) (Nat.le_of_ble_eq_true rfl) (fun r_26 D_26 q_26 => ?_)
      obtain ⟨rfl, I2, J2, rfl, g2, k2, b2⟩ := q_26
      obtain ⟨b21, b22, b23, b24, b25, b26, b27⟩ := b2 z1
      have hW2 := hs_Wm_c hW (g2.2.2.2.2 193 (by omega))
      refine b_aload_n rfl rfl ?_
      refine b_bipush rfl ?_
      refine b_iconst rfl ?_
      refine b_callV rfl rfl hk_M_takeOne rfl rfl rfl (by first | rfl | assumption) rfl (Nat.le_of_ble_eq_true rfl) (q_M_takeOne hM hW2 k2 rfl rfl) (Nat.le_of_ble_eq_true rfl) (fun r_33 D_33 q_33 => ?_)
      obtain ⟨⟨x1, rfl, hx1⟩, I3, rfl, g3, k3⟩ := q_33
      have hx1 := hx1 (by rw [ek])
      rw [eZ] at hx1
      refine b_istore_n rfl (Nat.le_of_ble_eq_true rfl) ?_
      refine b_aload_n rfl rfl ?_
      refine b_iconst rfl ?_
      refine b_iconst rfl ?_
      refine b_bipush rfl ?_
      refine b_callV rfl rfl hk_M_takeAfter rfl rfl rfl (by first | rfl | assumption) rfl (Nat.le_of_ble_eq_true rfl) (q_M_takeAfter (w := 1) (m := 20) hM hW2 k3 (by omega) rfl rfl rfl (by omega)) (Nat.le_of_ble_eq_true rfl) (fun r_42 D_42 q_42 => ?_)
      obtain ⟨⟨x2, rfl, hx2⟩, I4, rfl, g4, k4⟩ := q_42
      rw [← hQ] at k4 hx2
      have hx2 := hx2 hQ0
      rw [ew] at hx2
      have g34 := hs_mf_t g3 g4
      obtain ⟨I5, hI5⟩ : ∃ z, z = hn_u (hn_u I4 194 (65 + 4 * bK B) x1) 194 (66 + 4 * bK B) x2 := ⟨_, rfl⟩
      have e5 : ∀ b, b ≠ 194 → I5 b = I4 b := (fun b hb => by rw [hI5, hn_u_ne _ _ _ hb, hn_u_ne _ _ _ hb])
      have e194 : I5 194 = va_up (va_up (va_up (I 194) 60 (nI (bK B + 1))) (65 + 4 * bK B) (nI (wx (tq f n (s.2 + 2)) - 15))) (66 + 4 * bK B) (nI (tq f n (s.2 + 4)).2.2.2) := (by rw [hI5, hn_u_eq, hn_u_eq, g34.1 194 (by omega), b24, hx1, hx2])
      have hBm : hs_Bm I5 J2 (b_k B (tq f n (s.2 + 1)).2.2.2 (wx (tq f n (s.2 + 2)) - 15) (tq f n (s.2 + 4)).2.2.2) := hs_Bm_k hB hk8 e194 (by rw [e5 200 (by omega), g34.1 200 (by omega), b22, Nat.zero_add]) (by rw [b21, hn_u_eq]) (by rw [e5 188 (by omega), g34.2 19 (by omega) (by omega)]; exact b23) (by rw [e5 188 (by omega), g34.2 13 (by omega) (by omega)]; exact b27) (by rw [e5 195 (by omega), g34.1 195 (by omega)]; exact b25) (by rw [e5 196 (by omega), g34.1 196 (by omega)]; exact b26)
      refine b_istore_n rfl (Nat.le_of_ble_eq_true rfl) ?_
      refine b_aload_n rfl rfl ?_
      refine b_getI rfl (by first | rfl | assumption) rfl ?_
      rw [k4.2.2.2.1, hQ0]
      refine b_if_ne rfl (fun c_50 => ?_) (fun c_50 => ?_)
      · exact absurd rfl c_50
      · refine b_aload_n rfl rfl ?_
        refine b_getR rfl (by first | rfl | assumption) rfl (by assumption) ?_
        refine b_iload_n rfl rfl ?_
        refine b_iload_n rfl rfl ?_
        refine b_iastore rfl (by first | rfl | assumption) (nI_toInt (n := 65 + 4 * bK B) (by omega)) (by omega) ?_
        refine b_aload_n rfl rfl ?_
        refine b_getR rfl (by first | rfl | assumption) rfl (by assumption) ?_
        refine b_iload_n rfl rfl ?_
        refine b_iconst rfl ?_
        refine b_iadd rfl ?_
        rw [show nI (65 + 4 * bK B) + 1 = nI (66 + 4 * bK B) by rw [← nI_succ]; rw [show 65 + 4 * bK B + 1 = 66 + 4 * bK B by omega]]
        refine b_iload_n rfl rfl ?_
        refine b_iastore rfl (by first | rfl | assumption) (nI_toInt (n := 66 + 4 * bK B) (by omega)) (by omega) ?_
        rw [← hI5]
        refine b_goto rfl ?_
        exact b_return_ rfl trivial (⟨rfl, Q, I5, J2, rfl, hs_mn_t g2 (hs_mn_t (hs_mn_f g34) ⟨fun b _ hb _ _ _ => e5 b hb, fun i _ _ _ _ => by rw [e5 188 (by omega)], fun j hj => by rw [hI5, hn_u_eq, va_up, if_neg (by omega), hn_u_eq, va_up, if_neg (by omega)], fun j _ => ⟨by rw [e5 195 (by omega)], by rw [e5 196 (by omega)]⟩, fun _ _ => rfl⟩), ⟨k4.1, hs_tt_c k4.2.1 (e5 190 (by omega)) (e5 191 (by omega)), by rw [e5 188 (by omega)]; exact k4.2.2.1, by rw [e5 188 (by omega)]; exact k4.2.2.2.1, k4.2.2.2.2⟩, hX1.symm, fun _ => by rw [hX]; exact ⟨hBm, hs_Bw_k hw hk8 (by omega) a1.2.2.1, hs_Jw_k hj hk8 v27 a4.2.1 a4.2.2.1, hcc⟩⟩)
  · have hXn : ¬ X.1.1 = 0 := by rw [hX1, p_e_n hQ0]; exact hQ0
    refine b_aload_n rfl rfl ?_
    refine b_iconst rfl ?_
    refine b_callV rfl rfl hk_M_isWord rfl rfl rfl (by first | rfl | assumption) rfl (Nat.le_of_ble_eq_true rfl) (q2) (Nat.le_of_ble_eq_true rfl) (fun r_2 D_2 q_2 => ?_)
    obtain ⟨⟨b, rfl, hb⟩, rfl⟩ := q_2
    refine b_if_eq rfl (fun c_5 => ?_) (fun c_5 => ?_)
    · rcases hb with ⟨_, hb⟩ | ⟨hb, _⟩ <;> first | exact absurd p0 hb | (rw [hb] at c_5; exact absurd c_5 (by decide))
    · refine b_bipush rfl ?_
      refine b_iconst rfl ?_
      refine b_aload_n rfl rfl ?_
      refine b_getR rfl (by first | rfl | assumption) rfl (by assumption) ?_
      refine b_bipush rfl ?_
      refine b_iaload rfl (by first | rfl | assumption) (show (60 : Int32).toInt = ((60 : Nat) : Int) by decide) (by omega) ?_
      rw [b60]
      refine b_imul rfl ?_
      refine b_iadd rfl ?_
      rw [e65]
      refine b_istore_n rfl (Nat.le_of_ble_eq_true rfl) ?_
      refine b_aload_n rfl rfl ?_
      refine b_iconst rfl ?_
      refine b_bipush rfl ?_
      refine b_iconst rfl ?_
      refine b_callV rfl rfl hk_M_readName rfl rfl rfl (by first | rfl | assumption) rfl (Nat.le_of_ble_eq_true rfl) (q26) (Nat.le_of_ble_eq_true rfl) (fun r_26 D_26 q_26 => ?_)
      obtain ⟨rfl, I2, J2, rfl, g2, k2, b2⟩ := q_26
      have hW2 := hs_Wm_c hW (g2.2.2.2.2 193 (by omega))
      refine b_aload_n rfl rfl ?_
      refine b_bipush rfl ?_
      refine b_iconst rfl ?_
      refine b_callV rfl rfl hk_M_takeOne rfl rfl rfl (by first | rfl | assumption) rfl (Nat.le_of_ble_eq_true rfl) (q_M_takeOne hM hW2 k2 rfl rfl) (Nat.le_of_ble_eq_true rfl) (fun r_33 D_33 q_33 => ?_)
      obtain ⟨⟨x1, rfl, hx1⟩, I3, rfl, g3, k3⟩ := q_33
      refine b_istore_n rfl (Nat.le_of_ble_eq_true rfl) ?_
      refine b_aload_n rfl rfl ?_
      refine b_iconst rfl ?_
      refine b_iconst rfl ?_
      refine b_bipush rfl ?_
      refine b_callV rfl rfl hk_M_takeAfter rfl rfl rfl (by first | rfl | assumption) rfl (Nat.le_of_ble_eq_true rfl) (q_M_takeAfter (w := 1) (m := 20) hM hW2 k3 (by omega) rfl rfl rfl (by omega)) (Nat.le_of_ble_eq_true rfl) (fun r_42 D_42 q_42 => ?_)
      obtain ⟨⟨x2, rfl, hx2⟩, I4, rfl, g4, k4⟩ := q_42
      rw [← hQ] at k4
      refine b_istore_n rfl (Nat.le_of_ble_eq_true rfl) ?_
      refine b_aload_n rfl rfl ?_
      refine b_getI rfl (by first | rfl | assumption) rfl ?_
      rw [k4.2.2.2.1]
      refine b_if_ne rfl (fun c_50 => ?_) (fun c_50 => ?_)
      · refine b_goto rfl ?_
        exact b_return_ rfl trivial (⟨rfl, Q, I4, J2, rfl, hs_mn_t g2 (hs_mn_f (hs_mf_t g3 g4)), k4, hX1.symm, fun z => absurd z hXn⟩)
      · exact absurd ((hi_nIe (k := 0) (by have := k4.2.2.2.2.2; omega) (by omega)).mp c_50) hQ0
theorem pair_lt {B : sp_B} {c mo : Nat} {g : Nat → Int32} (hc : sp_cnt g = nI c) (hcm : c ≤ mo) (hmo : mo ≤ 16) (h : ¬ nI mo ≤ sp_cnt g) : c < mo := by
  rw [hc] at h
  have := mt (nI_le_c (c := mo) (k := c) (by omega) (by omega)).mpr h
  omega
theorem ml_4 {f : Nat → Nat} {n E : Nat} {s : rd} {B : sp_B} (hM : hs_M R) (hW : hs_Wm J) (h : hs_Rm I J f n E s) (h0 : s.1 = 0) (hB : hs_Bm I J B) (hq : hs_Bq B) (w2 : ¬ wx (tq f n s.2) = 2) (w4 : wx (tq f n s.2) = 4) : hn_F 34 hm_M_readLine [.ref 188] (I, J, R) (fun r D' => r = none ∧ hs_Le I J R f n E (p_ln f n (s, B)) D') := by
  refine hn_F_of _ hk_M_readLine rfl (Nat.le_of_ble_eq_true rfl) ?_
  obtain ⟨hw, hj, hcc⟩ := hq
  have hkn := hj.1
  obtain ⟨c, hc16, hc61, hcc1⟩ := hB.2.1
  have hX : p_ln f n (s, B) = (p_pr f n (bNm B) (bK B) (bSt B) (nI 16) s, b_s B ((o_k f n (bNm B) (bK B) (0, s.2 + 1)).getD 0) ((o_k f n (bNm B) (bK B) (0, s.2 + 2)).getD 0)) := (if_neg w2).trans (if_pos w4)
  obtain ⟨X, hXd⟩ : ∃ X, X = p_ln f n (s, B) := ⟨_, rfl⟩
  rw [← hXd] at hX ⊢
  have q2 := q_M_isWord (R := R) (w := 0) hM hW h (by omega) rfl
  have q74 := q_M_isWord (R := R) (w := 2) hM hW h (by omega) rfl
  have qp := q_M_readPair (mc := 1) (mo := 16) (wr := 2) (c := c) (g := bSt B) hM hW h h0 (wx_0 (by omega)) hB.2.2.2.2.2.2.2.1 hj hB.2.2.2.2.2.2.2.2.1 rfl rfl rfl (Or.inl rfl) (Or.inl rfl) hc61 hcc1 hc16 (by omega) (fun k hk => by rw [show 65 + 4 * k + 2 = 67 + 4 * k by omega]; exact (hB.2.2.2.2.2.1 k hk).1)
  have p0 : ¬ (s.1 = 0 ∧ wx (tq f n s.2) = 0 + 2) := fun z => w2 z.2
  have p4 : s.1 = 0 ∧ wx (tq f n s.2) = 2 + 2 := ⟨h0, w4⟩
  refine b_aload_n rfl rfl ?_
  refine b_iconst rfl ?_
  refine b_callV rfl rfl hk_M_isWord rfl rfl rfl (by first | rfl | assumption) rfl (Nat.le_of_ble_eq_true rfl) (q2) (Nat.le_of_ble_eq_true rfl) (fun r_2 D_2 q_2 => ?_)
  obtain ⟨⟨b, rfl, hb⟩, rfl⟩ := q_2
  refine b_if_eq rfl (fun c_5 => ?_) (fun c_5 => ?_)
  · refine b_aload_n rfl rfl ?_
    refine b_iconst rfl ?_
    refine b_callV rfl rfl hk_M_isWord rfl rfl rfl (by first | rfl | assumption) rfl (Nat.le_of_ble_eq_true rfl) (q74) (Nat.le_of_ble_eq_true rfl) (fun r_74 D_74 q_74 => ?_)
    obtain ⟨⟨b2, rfl, hb2⟩, rfl⟩ := q_74
    refine b_if_eq rfl (fun c_77 => ?_) (fun c_77 => ?_)
    · rcases hb2 with ⟨_, hb2⟩ | ⟨hb2, _⟩ <;> first | exact absurd p4 hb2 | (rw [hb2] at c_77; exact absurd c_77 (by decide))
    · refine b_aload_n rfl rfl ?_
      refine b_iconst rfl ?_
      refine b_bipush rfl ?_
      refine b_iconst rfl ?_
      refine b_callV rfl rfl hk_M_readPair rfl rfl rfl (by first | rfl | assumption) rfl (Nat.le_of_ble_eq_true rfl) (qp) (Nat.le_of_ble_eq_true rfl) (fun r_85 D_85 q_85 => ?_)
      obtain ⟨rfl, I2, rfl, g2, k2, b2⟩ := q_85
      refine b_goto rfl ?_
      exact b_return_ rfl trivial (⟨rfl, _, I2, J, rfl, g2, k2, by rw [hX]; rfl, fun z => by rw [hX] at z ⊢; obtain ⟨a, b, ha, hak, hb, hbk, hba, hbb, _, _, _, hcm⟩ := p_pr_1 z hkn; have hc := pair_lt (B := B) hcc1 hc16 (by omega) hcm; obtain ⟨a2, b3, ea, eb, e194, e0, e13, e19⟩ := b2 (p_e_1 z).1; (obtain rfl : a = a2 := by rw [ha] at ea; cases ea; rfl); (obtain rfl : b = b3 := by rw [hb] at eb; cases eb; rfl); have lt8 : sp_lt 8 (bSt B a) := (sp_lt_mono hkn (hw.1 a hak)); have hcn := cnt_or (g := bSt B) (b := b) (by omega) lt8 (by omega) hbb; rw [hcc1, ← nI_succ] at hcn; (show hs_Bm I2 J (b_s B ((o_k f n (bNm B) (bK B) (0, s.2 + 1)).getD 0) ((o_k f n (bNm B) (bK B) (0, s.2 + 2)).getD 0)) ∧ hs_Bq (b_s B ((o_k f n (bNm B) (bK B) (0, s.2 + 1)).getD 0) ((o_k f n (bNm B) (bK B) (0, s.2 + 2)).getD 0))); rw [ha, hb]; exact ⟨hs_Bm_s (a := a) (b := b) hB (by omega) hcc1 hc hcn (by rw [e194, show 65 + 4 * a + 2 = 67 + 4 * a by omega]) e0 e13 e19, hs_Bw_s hw hak hbk hba, hj, hcc⟩⟩)
  · rcases hb with ⟨hb, _⟩ | ⟨_, hb⟩ <;> first | exact absurd hb p0 | exact absurd hb c_5
theorem ml_5 {f : Nat → Nat} {n E : Nat} {s : rd} {B : sp_B} (hM : hs_M R) (hW : hs_Wm J) (h : hs_Rm I J f n E s) (h0 : s.1 = 0) (hB : hs_Bm I J B) (hq : hs_Bq B) (w2 : ¬ wx (tq f n s.2) = 2) (w4 : ¬ wx (tq f n s.2) = 4) (w5 : wx (tq f n s.2) = 5) : hn_F 34 hm_M_readLine [.ref 188] (I, J, R) (fun r D' => r = none ∧ hs_Le I J R f n E (p_ln f n (s, B)) D') := by
  refine hn_F_of _ hk_M_readLine rfl (Nat.le_of_ble_eq_true rfl) ?_
  obtain ⟨hw, hj, hcc⟩ := hq
  have hkn := hj.1
  obtain ⟨c, hc16, hc61, hcc1⟩ := hB.2.2.1
  have hX : p_ln f n (s, B) = (p_pr f n (bNm B) (bK B) (bAg B) (nI 12) s, b_a B ((o_k f n (bNm B) (bK B) (0, s.2 + 1)).getD 0) ((o_k f n (bNm B) (bK B) (0, s.2 + 2)).getD 0)) := ((if_neg w2).trans (if_neg w4)).trans (if_pos w5)
  obtain ⟨X, hXd⟩ : ∃ X, X = p_ln f n (s, B) := ⟨_, rfl⟩
  rw [← hXd] at hX ⊢
  have q2 := q_M_isWord (R := R) (w := 0) hM hW h (by omega) rfl
  have q74 := q_M_isWord (R := R) (w := 2) hM hW h (by omega) rfl
  have q93 := q_M_isWord (R := R) (w := 3) hM hW h (by omega) rfl
  have qp := q_M_readPair (mc := 2) (mo := 12) (wr := 3) (c := c) (g := bAg B) hM hW h h0 (wx_0 (by omega)) hB.2.2.2.2.2.2.2.1 hj hB.2.2.2.2.2.2.2.2.1 rfl rfl rfl (Or.inr rfl) (Or.inr rfl) hc61 hcc1 hc16 (by omega) (fun k hk => by rw [show 65 + 4 * k + 3 = 68 + 4 * k by omega]; exact (hB.2.2.2.2.2.1 k hk).2)
  have p0 : ¬ (s.1 = 0 ∧ wx (tq f n s.2) = 0 + 2) := fun z => w2 z.2
  have p4 : ¬ (s.1 = 0 ∧ wx (tq f n s.2) = 2 + 2) := fun z => w4 z.2
  have p5 : s.1 = 0 ∧ wx (tq f n s.2) = 3 + 2 := ⟨h0, w5⟩
  refine b_aload_n rfl rfl ?_
  refine b_iconst rfl ?_
  refine b_callV rfl rfl hk_M_isWord rfl rfl rfl (by first | rfl | assumption) rfl (Nat.le_of_ble_eq_true rfl) (q2) (Nat.le_of_ble_eq_true rfl) (fun r_2 D_2 q_2 => ?_)
  obtain ⟨⟨b, rfl, hb⟩, rfl⟩ := q_2
  refine b_if_eq rfl (fun c_5 => ?_) (fun c_5 => ?_)
  · refine b_aload_n rfl rfl ?_
    refine b_iconst rfl ?_
    refine b_callV rfl rfl hk_M_isWord rfl rfl rfl (by first | rfl | assumption) rfl (Nat.le_of_ble_eq_true rfl) (q74) (Nat.le_of_ble_eq_true rfl) (fun r_74 D_74 q_74 => ?_)
    obtain ⟨⟨b2, rfl, hb2⟩, rfl⟩ := q_74
    refine b_if_eq rfl (fun c_77 => ?_) (fun c_77 => ?_)
    · refine b_aload_n rfl rfl ?_
      refine b_iconst rfl ?_
      refine b_callV rfl rfl hk_M_isWord rfl rfl rfl (by first | rfl | assumption) rfl (Nat.le_of_ble_eq_true rfl) (q93) (Nat.le_of_ble_eq_true rfl) (fun r_93 D_93 q_93 => ?_)
      obtain ⟨⟨b3, rfl, hb3⟩, rfl⟩ := q_93
      refine b_if_eq rfl (fun c_96 => ?_) (fun c_96 => ?_)
      · rcases hb3 with ⟨_, hb3⟩ | ⟨hb3, _⟩ <;> first | exact absurd p5 hb3 | (rw [hb3] at c_96; exact absurd c_96 (by decide))
      · refine b_aload_n rfl rfl ?_
        refine b_iconst rfl ?_
        refine b_bipush rfl ?_
        refine b_iconst rfl ?_
        refine b_callV rfl rfl hk_M_readPair rfl rfl rfl (by first | rfl | assumption) rfl (Nat.le_of_ble_eq_true rfl) (qp) (Nat.le_of_ble_eq_true rfl) (fun r_104 D_104 q_104 => ?_)
        obtain ⟨rfl, I2, rfl, g2, k2, b2⟩ := q_104
        refine b_goto rfl ?_
        exact b_return_ rfl trivial (⟨rfl, _, I2, J, rfl, g2, k2, by rw [hX]; rfl, fun z => by rw [hX] at z ⊢; obtain ⟨a, b, ha, hak, hb, hbk, hba, hbb, _, _, _, hcm⟩ := p_pr_1 z hkn; have hc := pair_lt (B := B) hcc1 hc16 (by omega) hcm; obtain ⟨a2, b3, ea, eb, e194, e0, e13, e19⟩ := b2 (p_e_1 z).1; (obtain rfl : a = a2 := by rw [ha] at ea; cases ea; rfl); (obtain rfl : b = b3 := by rw [hb] at eb; cases eb; rfl); have lt8 : sp_lt 8 (bAg B a) := (sp_lt_mono hkn (hw.2.2.2.1 a hak)); have hcn := cnt_or (g := bAg B) (b := b) (by omega) lt8 (by omega) hbb; rw [hcc1, ← nI_succ] at hcn; (show hs_Bm I2 J (b_a B ((o_k f n (bNm B) (bK B) (0, s.2 + 1)).getD 0) ((o_k f n (bNm B) (bK B) (0, s.2 + 2)).getD 0)) ∧ hs_Bq (b_a B ((o_k f n (bNm B) (bK B) (0, s.2 + 1)).getD 0) ((o_k f n (bNm B) (bK B) (0, s.2 + 2)).getD 0))); rw [ha, hb]; exact ⟨hs_Bm_a (a := a) (b := b) hB (by omega) hcc1 hc hcn (by rw [e194, show 65 + 4 * a + 3 = 68 + 4 * a by omega]) e0 e13 e19, hs_Bw_a hw hak hbk, hj, hcc⟩⟩)
    · rcases hb2 with ⟨hb2, _⟩ | ⟨_, hb2⟩ <;> first | exact absurd hb2 p4 | exact absurd hb2 c_77
  · rcases hb with ⟨hb, _⟩ | ⟨_, hb⟩ <;> first | exact absurd hb p0 | exact absurd hb c_5
end HNmline
