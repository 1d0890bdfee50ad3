section HNmlulls
variable {I I' : Nat → Nat → Int32} {J J' : Nat → Nat → Int64} {R R' : Nat → Nat → Option Nat}
theorem ml_6 {f : Nat → Nat} {n E : Nat} {s : rd} {B : sp_B} (hM : hs_M R) (hW : hs_Wm J) (h : hs_Rm I J f n E s) (h0 : s.1 = 0) (hB : hs_Bm I J B) (hq : hs_Bq B) (w2 : ¬ wx (tq f n s.2) = 2) (w4 : ¬ wx (tq f n s.2) = 4) (w5 : ¬ wx (tq f n s.2) = 5) (w6 : wx (tq f n s.2) = 6) : hn_F 34 hm_M_readLine [.ref 188] (I, J, R) (fun r D' => r = none ∧ hs_Le I J R f n E (p_ln f n (s, B)) D') := by
  refine hn_F_of _ hk_M_readLine rfl (Nat.le_of_ble_eq_true rfl) ?_
  obtain ⟨m1, m4, m5, m6, m9, m10, m11, m12, m14, m15, m16, m17, m20, m21, m22, m23, m25, m27, m28, m29, m30, m31, m32⟩ := id hM
  obtain ⟨hw, hj, hcc⟩ := hq
  have b63 := hB.2.2.2.1
  have hkn := hj.1
  have hpn := hj.2.1
  have hX : p_ln f n (s, B) = (p_pn f n (bNm B) (bK B) (bPm B) (bP B) s, b_p B (tq f n (s.2 + 1)).2.2.2 (tq f n (s.2 + 3)).2.2.2 ((o_k f n (bNm B) (bK B) (0, s.2 + 5)).getD 0)) := (((if_neg w2).trans (if_neg w4)).trans (if_neg w5)).trans (if_pos w6)
  obtain ⟨X, hXd⟩ : ∃ X, X = p_ln f n (s, B) := ⟨_, rfl⟩
  rw [← hXd] at hX ⊢
  obtain ⟨Z1, hZ1⟩ : ∃ Z1, Z1 = p_nn f n (bNm B) (bK B) (bPm B) (bP B) (p_u f n (4 ≤ bP B) 5 s) := ⟨_, rfl⟩
  obtain ⟨U, hU⟩ : ∃ U, U = p_w f n (6 + 2) (p_n f n 40 (p_w f n (5 + 2) Z1)) := ⟨_, rfl⟩
  obtain ⟨Q, hQ⟩ : ∃ Q, Q = p_kt f n (bNm B) (bK B) U := ⟨_, rfl⟩
  have hX1 : X.1 = p_e f n Q := by rw [hX, hQ, hU, hZ1]; rfl
  have e100 : (100 : Int32) + 2 * nI (bP B) = nI (100 + 2 * bP B) := by rw [nI_ad, nI_ml]; rfl
  have q2 := q_M_isWord (R := R) (w := 0) hM hW h (by omega) rfl
  have q74 := q_M_isWord (R := R) (w := 2) hM hW h (by omega) rfl
  have q93 := q_M_isWord (R := R) (w := 3) hM hW h (by omega) rfl
  have q112 := q_M_isWord (R := R) (w := 4) hM hW h (by omega) rfl
  have q136 := q_M_readName (mc := 3) (mo := 4) (fr := 20) (c := bP B) hM hW h h0 (wx_0 (by omega)) hB.2.2.2.2.2.2.2.1 hj hB.2.2.2.2.2.2.2.2.1 rfl rfl rfl (by omega) b63 hpn (by omega) (by omega) (fun _ => by omega)
  rw [← hZ1] at q136
  have p0 : ¬ (s.1 = 0 ∧ wx (tq f n s.2) = 0 + 2) := fun z => w2 z.2
  have p4 : ¬ (s.1 = 0 ∧ wx (tq f n s.2) = 2 + 2) := fun z => w4 z.2
  have p5 : ¬ (s.1 = 0 ∧ wx (tq f n s.2) = 3 + 2) := fun z => w5 z.2
  have p6 : s.1 = 0 ∧ wx (tq f n s.2) = 4 + 2 := ⟨h0, w6⟩
  by_cases hU0 : U.1 = 0
  · have a1 := p_w_1 (hU ▸ hU0)
    have a2 := p_n_1 a1.1
    have a3 := p_w_1 a2.1
    have z1 := a3.1
    have a4 := p_nn_1 (hZ1 ▸ z1)
    have a5 := p_u_1 (by omega) a4.1.1
    rw [a5.2] at a4
    have eZ : Z1 = (0, s.2 + 2) := by rw [hZ1, a5.2, a4.2.2.2]
    rw [eZ] at a3
    have ew : p_w f n (5 + 2) Z1 = (0, s.2 + 3) := by rw [eZ]; exact a3.2.2
    rw [ew] at a2
    have en : p_n f n 40 (p_w f n (5 + 2) Z1) = (0, s.2 + 4) := by rw [ew]; exact a2.2.2.2
    rw [en] at a1
    have eU : U = (0, s.2 + 5) := by rw [hU, en]; exact a1.2.2
    have h1 : (tq f n (s.2 + 1)).1 = 1 := a4.1.2.1
    have v27 := ((tq_9 (f := f) (n := n) (s.2 + 1)).2 h1).1
    have hk4 : bP B < 4 := by omega
    have w40 : (tq f n (s.2 + 3)).2.2.2 ≤ 40 := a2.2.2.1
    have hj' := hs_Jw_p hj hk4 v27 a4.2.1 a4.2.2.1
    by_cases hQ0 : Q.1 = 0
    · obtain ⟨y1, ⟨k, yk, ykl⟩, y3⟩ := p_kt_1 (hQ ▸ hQ0)
      rw [eU] at yk
      refine b_aload_n rfl rfl ?_
      refine b_iconst rfl ?_
      refine b_callV rfl rfl hk_M_isWord rfl rfl rfl (by first | rfl | assumption) rfl (Nat.le_of_ble_eq_true rfl) (q2) (Nat.le_of_ble_eq_true rfl) (fun r_2 D_2 q_2 => ?_)
      obtain ⟨⟨b, rfl, hb⟩, rfl⟩ := q_2
      refine b_if_eq rfl (fun c_5 => ?_) (fun c_5 => ?_)
      · refine b_aload_n rfl rfl ?_
        refine b_iconst rfl ?_
        refine b_callV rfl rfl hk_M_isWord rfl rfl rfl (by first | rfl | assumption) rfl (Nat.le_of_ble_eq_true rfl) (q74) (Nat.le_of_ble_eq_true rfl) (fun r_74 D_74 q_74 => ?_)
        obtain ⟨⟨b2, rfl, hb2⟩, rfl⟩ := q_74
        refine b_if_eq rfl (fun c_77 => ?_) (fun c_77 => ?_)
        · refine b_aload_n rfl rfl ?_
          refine b_iconst rfl ?_
          refine b_callV rfl rfl hk_M_isWord rfl rfl rfl (by first | rfl | assumption) rfl (Nat.le_of_ble_eq_true rfl) (q93) (Nat.le_of_ble_eq_true rfl) (fun r_93 D_93 q_93 => ?_)
          obtain ⟨⟨b3, rfl, hb3⟩, rfl⟩ := q_93
          refine b_if_eq rfl (fun c_96 => ?_) (fun c_96 => ?_)
          · refine b_aload_n rfl rfl ?_
            refine b_iconst rfl ?_
            refine b_callV rfl rfl hk_M_isWord rfl rfl rfl (by first | rfl | assumption) rfl (Nat.le_of_ble_eq_true rfl) (q112) (Nat.le_of_ble_eq_true rfl) (fun r_112 D_112 q_112 => ?_)
            obtain ⟨⟨b4, rfl, hb4⟩, rfl⟩ := q_112
            refine b_if_eq rfl (fun c_115 => ?_) (fun c_115 => ?_)
            · rcases hb4 with ⟨_, hb4⟩ | ⟨hb4, _⟩ <;> first | exact absurd p6 hb4 | (rw [hb4] at c_115; exact absurd c_115 (by decide))
            · refine b_bipush rfl ?_
              refine b_iconst rfl ?_
              refine b_aload_n rfl rfl ?_
              refine b_getR rfl (by first | rfl | assumption) rfl (by assumption) ?_
              refine b_bipush rfl ?_
              refine b_iaload rfl (by first | rfl | assumption) (show (63 : Int32).toInt = ((63 : Nat) : Int) by decide) (by omega) ?_
              rw [b63]
              refine b_imul rfl ?_
              refine b_iadd rfl ?_
              rw [e100]
              refine b_istore_n rfl (Nat.le_of_ble_eq_true rfl) ?_
              refine b_aload_n rfl rfl ?_
              refine b_iconst rfl ?_
              refine b_iconst rfl ?_
              refine b_bipush rfl ?_
              refine b_callV rfl rfl hk_M_readName rfl rfl rfl (by first | rfl | assumption) rfl (Nat.le_of_ble_eq_true rfl) (q136) (Nat.le_of_ble_eq_true rfl) (fun r_136 D_136 q_136 => ?_)
              obtain ⟨rfl, I2, J2, rfl, g2, k2, b2⟩ := q_136
              obtain ⟨b21, b22, b23, b24, b25, b26, b27⟩ := b2 z1
              have hW2 := hs_Wm_c hW (g2.2.2.2.2 193 (by omega))
              refine b_aload_n rfl rfl ?_
              refine b_iconst rfl ?_
              refine b_iconst rfl ?_
              refine b_bipush rfl ?_
              refine b_callV rfl rfl hk_M_takeAfter rfl rfl rfl (by first | rfl | assumption) rfl (Nat.le_of_ble_eq_true rfl) (q_M_takeAfter (w := 5) (m := 40) hM hW2 k2 (by omega) rfl rfl rfl (by omega)) (Nat.le_of_ble_eq_true rfl) (fun r_144 D_144 q_144 => ?_)
              obtain ⟨⟨x2, rfl, hx2⟩, I3, rfl, g3, k3⟩ := q_144
              have hx2 := hx2 (by rw [en])
              rw [ew] at hx2
              refine b_istore_n rfl (Nat.le_of_ble_eq_true rfl) ?_
              refine b_aload_n rfl rfl ?_
              refine b_bipush rfl ?_
              refine b_callV rfl rfl hk_M_takeWord rfl rfl rfl (by first | rfl | assumption) rfl (Nat.le_of_ble_eq_true rfl) (q_M_takeWord (w := 6) hM hW2 k3 (by omega) rfl) (Nat.le_of_ble_eq_true rfl) (fun r_151 D_151 q_151 => ?_)
              obtain ⟨rfl, I4, rfl, g4, k4⟩ := q_151
              rw [← hU] at k4
              have g34 := hs_mf_t g3 g4
              refine b_aload_n rfl rfl ?_
              refine b_iconst rfl ?_
              refine b_iconst rfl ?_
              refine b_iconst rfl ?_
              have hJ2 := hs_Jt_p (v := (tq f n (s.2 + 1)).2.2.2) hB.2.2.2.2.2.2.2.1
              have qT := q_M_takeTold (fr := 0) (tb := bNm B) (tn := bK B) (b := 1) (bu := 0) (V := jo (bNm B) (bK B) (upN (bPm B) (bP B) (tq f n (s.2 + 1)).2.2.2) (bP B + 1) (tq f n U.2).2.2.2) hM hW2 k4 rfl (fun _ hz => q_M_nameAt1 (m := bK B + bP B + 1) hM k4 (by rw [g34.1 200 (by omega), b22, b21, hn_u_eq]; exact hJ2) hj' (by rw [g34.2 19 (by omega) (by omega)]; exact b23) hz) (tbz_0 hj')
              rw [pT_kt, ← hQ] at qT
              refine b_callV rfl rfl hk_M_takeTold rfl rfl rfl (by first | rfl | assumption) rfl (Nat.le_of_ble_eq_true rfl) (qT) (Nat.le_of_ble_eq_true rfl) (fun r_158 D_158 q_158 => ?_)
              obtain ⟨⟨x3, rfl, hx3⟩, _, I5, rfl, g5, k5⟩ := q_158
              have hx3 := hx3 hQ0
              rw [eU, yk] at hx3
              have g35 := hs_mf_t g34 g5
              obtain ⟨I6, hI6⟩ : ∃ z, z = hn_u (hn_u I5 194 (100 + 2 * bP B) x2) 194 (101 + 2 * bP B) x3 := ⟨_, rfl⟩
              have e6 : ∀ b, b ≠ 194 → I6 b = I5 b := (fun b hb => by rw [hI6, hn_u_ne _ _ _ hb, hn_u_ne _ _ _ hb])
              have e194 : I6 194 = va_up (va_up (va_up (I 194) 63 (nI (bP B + 1))) (100 + 2 * bP B) (nI (tq f n (s.2 + 3)).2.2.2)) (101 + 2 * bP B) (nI k) := (by rw [hI6, hn_u_eq, hn_u_eq, g35.1 194 (by omega), b24, hx2, hx3]; rfl)
              have hBm : hs_Bm I6 J2 (b_p B (tq f n (s.2 + 1)).2.2.2 (tq f n (s.2 + 3)).2.2.2 k) := hs_Bm_p hB hkn hk4 e194 (by rw [e6 200 (by omega), g35.1 200 (by omega), b22]) (by rw [b21, hn_u_eq]) (by rw [e6 188 (by omega), g35.2 19 (by omega) (by omega)]; exact b23) (by rw [e6 188 (by omega), g35.2 13 (by omega) (by omega)]; exact b27) (by rw [e6 195 (by omega), g35.1 195 (by omega)]; exact b25) (by rw [e6 196 (by omega), g35.1 196 (by omega)]; exact b26)
              refine b_istore_n rfl (Nat.le_of_ble_eq_true rfl) ?_
              refine b_aload_n rfl rfl ?_
              refine b_getI rfl (by first | rfl | assumption) rfl ?_
              rw [k5.2.2.2.1, hQ0]
              refine b_if_ne rfl (fun c_166 => ?_) (fun c_166 => ?_)
              · exact absurd rfl c_166
              · refine b_aload_n rfl rfl ?_
                refine b_getR rfl (by first | rfl | assumption) rfl (by assumption) ?_
                refine b_iload_n rfl rfl ?_
                refine b_iload_n rfl rfl ?_
                refine b_iastore rfl (by first | rfl | assumption) (nI_toInt (n := 100 + 2 * bP B) (by omega)) (by omega) ?_
                refine b_aload_n rfl rfl ?_
                refine b_getR rfl (by first | rfl | assumption) rfl (by assumption) ?_
                refine b_iload_n rfl rfl ?_
                refine b_iconst rfl ?_
                refine b_iadd rfl ?_
                rw [show nI (100 + 2 * bP B) + 1 = nI (101 + 2 * bP B) by rw [← nI_succ]; rw [show 100 + 2 * bP B + 1 = 101 + 2 * bP B by omega]]
                refine b_iload_n rfl rfl ?_
                refine b_iastore rfl (by first | rfl | assumption) (nI_toInt (n := 101 + 2 * bP B) (by omega)) (by omega) ?_
                rw [← hI6]
                refine b_goto rfl ?_
                exact b_return_ rfl trivial (⟨rfl, Q, I6, J2, rfl, hs_mn_t g2 (hs_mn_t (hs_mn_f g35) ⟨fun b _ hb _ _ _ => e6 b hb, fun i _ _ _ _ => by rw [e6 188 (by omega)], fun j hj => by rw [hI6, hn_u_eq, va_up, if_neg (by omega), hn_u_eq, va_up, if_neg (by omega)], fun j _ => ⟨by rw [e6 195 (by omega)], by rw [e6 196 (by omega)]⟩, fun _ _ => rfl⟩), ⟨k5.1, hs_tt_c k5.2.1 (e6 190 (by omega)) (e6 191 (by omega)), by rw [e6 188 (by omega)]; exact k5.2.2.1, by rw [e6 188 (by omega)]; exact k5.2.2.2.1, k5.2.2.2.2⟩, hX1.symm, fun _ => by rw [hX, yk]; exact ⟨hBm, hs_Bw_p hw hk4 w40 ykl, hj', hcc⟩⟩)
          · rcases hb3 with ⟨hb3, _⟩ | ⟨_, hb3⟩ <;> first | exact absurd hb3 p5 | exact absurd hb3 c_96
        · rcases hb2 with ⟨hb2, _⟩ | ⟨_, hb2⟩ <;> first | exact absurd hb2 p4 | exact absurd hb2 c_77
      · rcases hb with ⟨hb, _⟩ | ⟨_, hb⟩ <;> first | exact absurd hb p0 | exact absurd hb c_5
    · have hXn : ¬ X.1.1 = 0 := by rw [hX1, p_e_n hQ0]; exact hQ0
      refine b_aload_n rfl rfl ?_
      refine b_iconst rfl ?_
      refine b_callV rfl rfl hk_M_isWord rfl rfl rfl (by first | rfl | assumption) rfl (Nat.le_of_ble_eq_true rfl) (q2) (Nat.le_of_ble_eq_true rfl) (fun r_2 D_2 q_2 => ?_)
      obtain ⟨⟨b, rfl, hb⟩, rfl⟩ := q_2
      refine b_if_eq rfl (fun c_5 => ?_) (fun c_5 => ?_)
      · refine b_aload_n rfl rfl ?_
        refine b_iconst rfl ?_
        refine b_callV rfl rfl hk_M_isWord rfl rfl rfl (by first | rfl | assumption) rfl (Nat.le_of_ble_eq_true rfl) (q74) (Nat.le_of_ble_eq_true rfl) (fun r_74 D_74 q_74 => ?_)
        obtain ⟨⟨b2, rfl, hb2⟩, rfl⟩ := q_74
        refine b_if_eq rfl (fun c_77 => ?_) (fun c_77 => ?_)
        · refine b_aload_n rfl rfl ?_
          refine b_iconst rfl ?_
          refine b_callV rfl rfl hk_M_isWord rfl rfl rfl (by first | rfl | assumption) rfl (Nat.le_of_ble_eq_true rfl) (q93) (Nat.le_of_ble_eq_true rfl) (fun r_93 D_93 q_93 => ?_)
          obtain ⟨⟨b3, rfl, hb3⟩, rfl⟩ := q_93
          refine b_if_eq rfl (fun c_96 => ?_) (fun c_96 => ?_)
          · refine b_aload_n rfl rfl ?_
            refine b_iconst rfl ?_
            refine b_callV rfl rfl hk_M_isWord rfl rfl rfl (by first | rfl | assumption) rfl (Nat.le_of_ble_eq_true rfl) (q112) (Nat.le_of_ble_eq_true rfl) (fun r_112 D_112 q_112 => ?_)
            obtain ⟨⟨b4, rfl, hb4⟩, rfl⟩ := q_112
            refine b_if_eq rfl (fun c_115 => ?_) (fun c_115 => ?_)
            · rcases hb4 with ⟨_, hb4⟩ | ⟨hb4, _⟩ <;> first | exact absurd p6 hb4 | (rw [hb4] at c_115; exact absurd c_115 (by decide))
            · refine b_bipush rfl ?_
              refine b_iconst rfl ?_
              refine b_aload_n rfl rfl ?_
              refine b_getR rfl (by first | rfl | assumption) rfl (by assumption) ?_
              refine b_bipush rfl ?_
              refine b_iaload rfl (by first | rfl | assumption) (show (63 : Int32).toInt = ((63 : Nat) : Int) by decide) (by omega) ?_
              rw [b63]
              refine b_imul rfl ?_
              refine b_iadd rfl ?_
              rw [e100]
              refine b_istore_n rfl (Nat.le_of_ble_eq_true rfl) ?_
              refine b_aload_n rfl rfl ?_
              refine b_iconst rfl ?_
              refine b_iconst rfl ?_
              refine b_bipush rfl ?_
              refine b_callV rfl rfl hk_M_readName rfl rfl rfl (by first | rfl | assumption) rfl (Nat.le_of_ble_eq_true rfl) (q136) (Nat.le_of_ble_eq_true rfl) (fun r_136 D_136 q_136 => ?_)
              obtain ⟨rfl, I2, J2, rfl, g2, k2, b2⟩ := q_136
              obtain ⟨b21, b22, b23, b24, b25, b26, b27⟩ := b2 z1
              have hW2 := hs_Wm_c hW (g2.2.2.2.2 193 (by omega))
              refine b_aload_n rfl rfl ?_
              refine b_iconst rfl ?_
              refine b_iconst rfl ?_
              refine b_bipush rfl ?_
              refine b_callV rfl rfl hk_M_takeAfter rfl rfl rfl (by first | rfl | assumption) rfl (Nat.le_of_ble_eq_true rfl) (q_M_takeAfter (w := 5) (m := 40) hM hW2 k2 (by omega) rfl rfl rfl (by omega)) (Nat.le_of_ble_eq_true rfl) (fun r_144 D_144 q_144 => ?_)
              obtain ⟨⟨x2, rfl, hx2⟩, I3, rfl, g3, k3⟩ := q_144
              refine b_istore_n rfl (Nat.le_of_ble_eq_true rfl) ?_
              refine b_aload_n rfl rfl ?_
              refine b_bipush rfl ?_
              refine b_callV rfl rfl hk_M_takeWord rfl rfl rfl (by first | rfl | assumption) rfl (Nat.le_of_ble_eq_true rfl) (q_M_takeWord (w := 6) hM hW2 k3 (by omega) rfl) (Nat.le_of_ble_eq_true rfl) (fun r_151 D_151 q_151 => ?_)
              obtain ⟨rfl, I4, rfl, g4, k4⟩ := q_151
              rw [← hU] at k4
              have g34 := hs_mf_t g3 g4
              refine b_aload_n rfl rfl ?_
              refine b_iconst rfl ?_
              refine b_iconst rfl ?_
              refine b_iconst rfl ?_
              have hJ2 := hs_Jt_p (v := (tq f n (s.2 + 1)).2.2.2) hB.2.2.2.2.2.2.2.1
              have qT := q_M_takeTold (fr := 0) (tb := bNm B) (tn := bK B) (b := 1) (bu := 0) (V := jo (bNm B) (bK B) (upN (bPm B) (bP B) (tq f n (s.2 + 1)).2.2.2) (bP B + 1) (tq f n U.2).2.2.2) hM hW2 k4 rfl (fun _ hz => q_M_nameAt1 (m := bK B + bP B + 1) hM k4 (by rw [g34.1 200 (by omega), b22, b21, hn_u_eq]; exact hJ2) hj' (by rw [g34.2 19 (by omega) (by omega)]; exact b23) hz) (tbz_0 hj')
              rw [pT_kt, ← hQ] at qT
              refine b_callV rfl rfl hk_M_takeTold rfl rfl rfl (by first | rfl | assumption) rfl (Nat.le_of_ble_eq_true rfl) (qT) (Nat.le_of_ble_eq_true rfl) (fun r_158 D_158 q_158 => ?_)
              obtain ⟨⟨x3, rfl, hx3⟩, _, I5, rfl, g5, k5⟩ := q_158
              refine b_istore_n rfl (Nat.le_of_ble_eq_true rfl) ?_
              refine b_aload_n rfl rfl ?_
              refine b_getI rfl (by first | rfl | assumption) rfl ?_
              rw [k5.2.2.2.1]
              refine b_if_ne rfl (fun c_166 => ?_) (fun c_166 => ?_)
              · refine b_goto rfl ?_
                exact b_return_ rfl trivial (⟨rfl, Q, I5, J2, rfl, hs_mn_t g2 (hs_mn_f (hs_mf_t g34 g5)), k5, hX1.symm, fun z => absurd z hXn⟩)
              · exact absurd ((hi_nIe (k := 0) (by have := k5.2.2.2.2.2; omega) (by omega)).mp c_166) hQ0
          · rcases hb3 with ⟨hb3, _⟩ | ⟨_, hb3⟩ <;> first | exact absurd hb3 p5 | exact absurd hb3 c_96
        · rcases hb2 with ⟨hb2, _⟩ | ⟨_, hb2⟩ <;> first | exact absurd hb2 p4 | exact absurd hb2 c_77
      · rcases hb with ⟨hb, _⟩ | ⟨_, hb⟩ <;> first | exact absurd hb p0 | exact absurd hb c_5
  · have eQ : Q = U := by rw [hQ]; exact (if_neg (fun q => hU0 q.1)).trans (if_neg (fun q => hU0 q.1))
    have hQ0 : ¬ Q.1 = 0 := by rw [eQ]; exact hU0
    have hXn : ¬ X.1.1 = 0 := by rw [hX1, p_e_n hQ0]; exact hQ0
    refine b_aload_n rfl rfl ?_
    refine b_iconst rfl ?_
    refine b_callV rfl rfl hk_M_isWord rfl rfl rfl (by first | rfl | assumption) rfl (Nat.le_of_ble_eq_true rfl) (q2) (Nat.le_of_ble_eq_true rfl) (fun r_2 D_2 q_2 => ?_)
    obtain ⟨⟨b, rfl, hb⟩, rfl⟩ := q_2
    refine b_if_eq rfl (fun c_5 => ?_) (fun c_5 => ?_)
    · refine b_aload_n rfl rfl ?_
      refine b_iconst rfl ?_
      refine b_callV rfl rfl hk_M_isWord rfl rfl rfl (by first | rfl | assumption) rfl (Nat.le_of_ble_eq_true rfl) (q74) (Nat.le_of_ble_eq_true rfl) (fun r_74 D_74 q_74 => ?_)
      obtain ⟨⟨b2, rfl, hb2⟩, rfl⟩ := q_74
      refine b_if_eq rfl (fun c_77 => ?_) (fun c_77 => ?_)
      · refine b_aload_n rfl rfl ?_
        refine b_iconst rfl ?_
        refine b_callV rfl rfl hk_M_isWord rfl rfl rfl (by first | rfl | assumption) rfl (Nat.le_of_ble_eq_true rfl) (q93) (Nat.le_of_ble_eq_true rfl) (fun r_93 D_93 q_93 => ?_)
        obtain ⟨⟨b3, rfl, hb3⟩, rfl⟩ := q_93
        refine b_if_eq rfl (fun c_96 => ?_) (fun c_96 => ?_)
        · refine b_aload_n rfl rfl ?_
          refine b_iconst rfl ?_
          refine b_callV rfl rfl hk_M_isWord rfl rfl rfl (by first | rfl | assumption) rfl (Nat.le_of_ble_eq_true rfl) (q112) (Nat.le_of_ble_eq_true rfl) (fun r_112 D_112 q_112 => ?_)
          obtain ⟨⟨b4, rfl, hb4⟩, rfl⟩ := q_112
          refine b_if_eq rfl (fun c_115 => ?_) (fun c_115 => ?_)
          · rcases hb4 with ⟨_, hb4⟩ | ⟨hb4, _⟩ <;> first | exact absurd p6 hb4 | (rw [hb4] at c_115; exact absurd c_115 (by decide))
          · refine b_bipush rfl ?_
            refine b_iconst rfl ?_
            refine b_aload_n rfl rfl ?_
            refine b_getR rfl (by first | rfl | assumption) rfl (by assumption) ?_
            refine b_bipush rfl ?_
            refine b_iaload rfl (by first | rfl | assumption) (show (63 : Int32).toInt = ((63 : Nat) : Int) by decide) (by omega) ?_
            rw [b63]
            refine b_imul rfl ?_
            refine b_iadd rfl ?_
            rw [e100]
            refine b_istore_n rfl (Nat.le_of_ble_eq_true rfl) ?_
            refine b_aload_n rfl rfl ?_
            refine b_iconst rfl ?_
            refine b_iconst rfl ?_
            refine b_bipush rfl ?_
            refine b_callV rfl rfl hk_M_readName rfl rfl rfl (by first | rfl | assumption) rfl (Nat.le_of_ble_eq_true rfl) (q136) (Nat.le_of_ble_eq_true rfl) (fun r_136 D_136 q_136 => ?_)
            obtain ⟨rfl, I2, J2, rfl, g2, k2, b2⟩ := q_136
            have hW2 := hs_Wm_c hW (g2.2.2.2.2 193 (by omega))
            refine b_aload_n rfl rfl ?_
            refine b_iconst rfl ?_
            refine b_iconst rfl ?_
            refine b_bipush rfl ?_
            refine b_callV rfl rfl hk_M_takeAfter rfl rfl rfl (by first | rfl | assumption) rfl (Nat.le_of_ble_eq_true rfl) (q_M_takeAfter (w := 5) (m := 40) hM hW2 k2 (by omega) rfl rfl rfl (by omega)) (Nat.le_of_ble_eq_true rfl) (fun r_144 D_144 q_144 => ?_)
            obtain ⟨⟨x2, rfl, hx2⟩, I3, rfl, g3, k3⟩ := q_144
            refine b_istore_n rfl (Nat.le_of_ble_eq_true rfl) ?_
            refine b_aload_n rfl rfl ?_
            refine b_bipush rfl ?_
            refine b_callV rfl rfl hk_M_takeWord rfl rfl rfl (by first | rfl | assumption) rfl (Nat.le_of_ble_eq_true rfl) (q_M_takeWord (w := 6) hM hW2 k3 (by omega) rfl) (Nat.le_of_ble_eq_true rfl) (fun r_151 D_151 q_151 => ?_)
            obtain ⟨rfl, I4, rfl, g4, k4⟩ := q_151
            rw [← hU] at k4
            have g34 := hs_mf_t g3 g4
            refine b_aload_n rfl rfl ?_
            refine b_iconst rfl ?_
            refine b_iconst rfl ?_
            refine b_iconst rfl ?_
            have qT := q_M_takeTold (fr := 0) (tb := bNm B) (tn := bK B) (b := 1) (bu := 0) (V := jo (bNm B) (bK B) (bPm B) (bP B) (tq f n U.2).2.2.2) hM hW2 k4 rfl (fun z _ => absurd z hU0) (tbz_0 hj)
            rw [pT_kt, ← hQ] at qT
            refine b_callV rfl rfl hk_M_takeTold rfl rfl rfl (by first | rfl | assumption) rfl (Nat.le_of_ble_eq_true rfl) (qT) (Nat.le_of_ble_eq_true rfl) (fun r_158 D_158 q_158 => ?_)
            obtain ⟨⟨x3, rfl, hx3⟩, _, I5, rfl, g5, k5⟩ := q_158
            refine b_istore_n rfl (Nat.le_of_ble_eq_true rfl) ?_
            refine b_aload_n rfl rfl ?_
            refine b_getI rfl (by first | rfl | assumption) rfl ?_
            rw [k5.2.2.2.1]
            refine b_if_ne rfl (fun c_166 => ?_) (fun c_166 => ?_)
            · refine b_goto rfl ?_
              exact b_return_ rfl trivial (⟨rfl, Q, I5, J2, rfl, hs_mn_t g2 (hs_mn_f (hs_mf_t g34 g5)), k5, hX1.symm, fun z => absurd z hXn⟩)
            · exact absurd ((hi_nIe (k := 0) (by have := k5.2.2.2.2.2; omega) (by omega)).mp c_166) hQ0
        · rcases hb3 with ⟨hb3, _⟩ | ⟨_, hb3⟩ <;> first | exact absurd hb3 p5 | exact absurd hb3 c_96
      · rcases hb2 with ⟨hb2, _⟩ | ⟨_, hb2⟩ <;> first | exact absurd hb2 p4 | exact absurd hb2 c_77
    · rcases hb with ⟨hb, _⟩ | ⟨_, hb⟩ <;> first | exact absurd hb p0 | exact absurd hb c_5
/-! the law's line -/
theorem q_M_emit_r {l : Nat} {o a : Int32} (hM : hs_M R) (c1 : I 188 13 = nI l) (hl : l < 1100) : hn_F 0 hm_M_emit [.ref 188, .int o, .int a] (I, J, R) (fun r D' => r = none ∧ D' = (hn_u (hn_u (hn_u I 195 (1100 + l) o) 196 (1100 + l) a) 188 13 (nI (l + 1)), J, R)) := by
  refine hn_F_of _ hk_M_emit rfl (Nat.le_of_ble_eq_true rfl) ?_
  obtain ⟨m1, m4, m5, m6, m9, m10, m11, m12, m14, m15, m16, m17, m20, m21, m22, m23, m25, m27, m28, m29, m30, m31, m32⟩ := id hM
  have e1 : (1100 : Int32) + nI l = nI (1100 + l) := (nI_ad 1100 l).symm
  refine b_aload_n rfl rfl ?_
  refine b_getR rfl (by first | rfl | assumption) rfl (by assumption) ?_
  refine b_sipush rfl ?_
  refine b_aload_n rfl rfl ?_
  refine b_getI rfl (by first | rfl | assumption) rfl ?_
  rw [c1]
  refine b_iadd rfl ?_
  rw [e1]
  refine b_iload_n rfl rfl ?_
  refine b_iastore rfl (by first | rfl | assumption) (nI_toInt (n := 1100 + l) (by omega)) (by omega) ?_
  refine b_aload_n rfl rfl ?_
  refine b_getR rfl (by first | rfl | assumption) rfl (by assumption) ?_
  refine b_sipush rfl ?_
  refine b_aload_n rfl rfl ?_
  refine b_getI rfl (by first | rfl | assumption) rfl ?_
  have d1 : hn_u I 195 (1100 + l) o 188 13 = nI l := (by rw [hn_u_ne _ _ _ (by omega)]; exact c1)
  rw [d1]
  refine b_iadd rfl ?_
  rw [e1]
  refine b_iload_n rfl rfl ?_
  refine b_iastore rfl (by first | rfl | assumption) (nI_toInt (n := 1100 + l) (by omega)) (by omega) ?_
  refine b_aload_n rfl rfl ?_
  refine b_dup rfl rfl ?_
  refine b_getI rfl (by first | rfl | assumption) rfl ?_
  have d2 : hn_u (hn_u I 195 (1100 + l) o) 196 (1100 + l) a 188 13 = nI l := (by rw [hn_u_ne _ _ _ (by omega)]; exact d1)
  rw [d2]
  refine b_iconst rfl ?_
  refine b_iadd rfl ?_
  rw [← nI_succ]
  refine b_putI rfl (by first | rfl | assumption) rfl rfl ⟨rfl, rfl⟩ ?_
  exact b_return_ rfl trivial (⟨rfl, rfl⟩)
theorem p_lu_m {f : Nat → Nat} {n E : Nat} {s : rd} (hE : tE (tq f n) E) (hk : s.2 + 1 ≤ E) {x : mst} (hx : x = m_form (tq f n) (m_part (tq f n) 5) (0, s.2 + 1, [])) : p_e f n (rdx f n x) = p_e f n (if (l_z f n s).1 = 0 then (0, (l_z f n s).2.1) else fl f n (l_z f n s).1 (0, (l_z f n s).2.1)) ∧ ((p_e f n (rdx f n x)).1 = 0 → x.1 = 0 ∧ (l_z f n s).2.2.2.2.2 = x.2.2 ∧ x.2.2.length ≤ 1000) := by
  obtain ⟨y1, y2, y3⟩ := l_rd_m hE hk hx (y := l_z f n s) rfl
  have hE1 := hE.1
  by_cases h0 : x.1 = 0
  · obtain ⟨z1, z2, z3, z4⟩ := y3 h0
    rw [rdx_0 h0]
    by_cases hs : p_isS (tq f n x.2.1) 59
    · obtain ⟨u1, u2⟩ := z3 hs
      rw [if_pos u1, y1]
      exact ⟨rfl, fun _ => ⟨h0, u2, by omega⟩⟩
    · have u1 := z4 hs
      rw [if_neg (by omega), u1, y1]
      have e : p_e f n (0, x.2.1) = fl f n 1 (0, x.2.1) := (if_pos rfl).trans (if_pos hs)
      rw [e]
      refine ⟨(p_e_n (fl_ne (by omega))).symm, fun z => absurd z (fl_ne (by omega))⟩
  · have u := y2 h0
    have e : rdx f n x = fl f n x.1 (0, x.2.1) := if_neg h0
    rw [e, if_neg (by omega), u, y1, p_e_n (fl_ne (by omega))]
    exact ⟨rfl, fun z => absurd z (fl_ne (by omega))⟩
theorem tt_E {f : Nat → Nat} {n E : Nat} (h : hs_tt I J f n E) : tE (tq f n) E := ⟨h.1, tq_00 h.2.2.2.2⟩
theorem q_M_readLulls {f : Nat → Nat} {n E : Nat} {s : rd} {B : sp_B} (hM : hs_M R) (hW : hs_Wm J) (hv : ∀ k, (tq f n k).1 = 3 → (tq f n k).2.2.2 < 128) (h : hs_Rm I J f n E s) (h0 : s.1 = 0) (hB : hs_Bm I J B) (hq : hs_Bq B) (w2 : ¬ wx (tq f n s.2) = 2) (w4 : ¬ wx (tq f n s.2) = 4) (w5 : ¬ wx (tq f n s.2) = 5) (w6 : ¬ wx (tq f n s.2) = 6) : hn_F 33 hm_M_readLulls [.ref 188] (I, J, R) (fun r D' => r = none ∧ hs_Le I J R f n E (p_ln f n (s, B)) D') := by
  refine hn_F_of _ hk_M_readLulls rfl (Nat.le_of_ble_eq_true rfl) ?_
  obtain ⟨m1, m4, m5, m6, m9, m10, m11, m12, m14, m15, m16, m17, m20, m21, m22, m23, m25, m27, m28, m29, m30, m31, m32⟩ := id hM
  obtain ⟨hn, ht, h7, h8, hk, hb⟩ := id h
  have q3 := q_M_isWord (R := R) (w := 7) hM hW h (by omega) rfl
  obtain ⟨X, hXd⟩ : ∃ X, X = p_ln f n (s, B) := ⟨_, rfl⟩
  rw [← hXd]
  by_cases w9 : wx (tq f n s.2) = 9
  · have p9 : s.1 = 0 ∧ wx (tq f n s.2) = 7 + 2 := ⟨h0, w9⟩
    have hX : X = (p_lu f n (¬ bL B = none) s, b_l B (l_z f n s).2.2.2.2.2) := hXd.trans (((((if_neg w2).trans (if_neg w4)).trans (if_neg w5)).trans (if_neg w6)).trans (if_pos w9))
    rcases (show bL B = none ∨ ∃ C, bL B = some C by cases bL B with | none => exact Or.inl rfl | some C => exact Or.inr ⟨C, rfl⟩) with eL | ⟨C, eL⟩
    · have hcl := hB.2.2.2.2.2.2.2.2.2
      rw [eL] at hcl
      obtain ⟨c64, cm⟩ := hcl
      have c13 : I 188 13 = 0 := cm.1
      obtain ⟨I1, d1, g1, k1⟩ := mp_on (R := R) h h0 (wx_0 (by omega))
      have d1 : hn_u I 188 7 (nI (s.2 + 1)) = I1 := congrArg Prod.fst d1
      have hkE := tt_lt ht hk (wx_0 (by omega))
      obtain ⟨I2, hI2⟩ : ∃ z, z = hn_u I1 194 64 0 := ⟨_, rfl⟩
      have f2 : ∀ b, b ≠ 194 → I2 b = I1 b := fun b hb => by rw [hI2, hn_u_ne _ _ _ hb]
      have i13 : I1 188 13 = 0 := by rw [g1.2 13 (by omega) (by omega)]; exact c13
      obtain ⟨x, hx⟩ : ∃ x, x = m_form (tq f n) (m_part (tq f n) 5) (0, s.2 + 1, []) := ⟨_, rfl⟩
      have hln : x.2.2.length + (s.2 + 1) ≤ x.2.1 + 0 ∧ s.2 + 1 ≤ x.2.1 := by rw [hx]; exact hLn_form (hLn_part 5) (0, s.2 + 1, [])
      have k2 : hs_Rm I2 J f n E (rdx f n (0, s.2 + 1, [])) := ⟨k1.1, hs_tt_c k1.2.1 (f2 190 (by omega)) (f2 191 (by omega)), by rw [f2 188 (by omega)]; exact k1.2.2.1, by rw [f2 188 (by omega)]; exact k1.2.2.2.1, k1.2.2.2.2⟩
      have c2 : hs_Cm I2 [] := ⟨by rw [f2 188 (by omega)]; exact i13, fun i hi => absurd hi (Nat.not_lt_zero _)⟩
      have qF := q_M_formula_0 (E := E) hM hW hv I2 (0, s.2 + 1, []) k2 c2 (by show 0 ≤ s.2 + 1; omega)
      rw [← hx] at qF
      have pl := p_lu_m (s := s) (tt_E ht) hkE hx
      have hX1 : X.1 = p_e f n (rdx f n x) := by
        rw [hX]
        exact (if_neg (fun z => z eL)).trans pl.1.symm
      refine b_aload_n rfl rfl ?_
      refine b_bipush rfl ?_
      refine b_callV rfl rfl hk_M_isWord rfl rfl rfl (by first | rfl | assumption) rfl (Nat.le_of_ble_eq_true rfl) (q3) (Nat.le_of_ble_eq_true rfl) (fun r_3 D_3 q_3 => ?_)
      obtain ⟨⟨b, rfl, hb⟩, rfl⟩ := q_3
      refine b_if_ne rfl (fun c_6 => ?_) (fun c_6 => ?_)
      · refine b_aload_n rfl rfl ?_
        refine b_getR rfl (by first | rfl | assumption) rfl (by assumption) ?_
        refine b_bipush rfl ?_
        refine b_iaload rfl (by first | rfl | assumption) (show (64 : Int32).toInt = ((64 : Nat) : Int) by decide) (by omega) ?_
        rw [c64]
        refine b_if_lt rfl (fun c_24 => ?_) (fun c_24 => ?_)
        · refine b_aload_n rfl rfl ?_
          refine b_getI rfl (by first | rfl | assumption) rfl ?_
          rw [h8]
          refine b_if_le rfl (fun c_36 => ?_) (fun c_36 => ?_)
          · refine b_aload_n rfl rfl ?_
            refine b_dup rfl rfl ?_
            refine b_getI rfl (by first | rfl | assumption) rfl ?_
            rw [h7]
            refine b_iconst rfl ?_
            refine b_iadd rfl ?_
            rw [← nI_succ]
            refine b_putI rfl (by first | rfl | assumption) rfl rfl ⟨rfl, rfl⟩ ?_
            rw [d1]
            refine b_aload_n rfl rfl ?_
            refine b_getR rfl (by first | rfl | assumption) rfl (by assumption) ?_
            refine b_bipush rfl ?_
            refine b_aload_n rfl rfl ?_
            refine b_getI rfl (by first | rfl | assumption) rfl ?_
            rw [i13]
            refine b_iastore rfl (by first | rfl | assumption) (show (64 : Int32).toInt = ((64 : Nat) : Int) by decide) (by omega) ?_
            rw [← hI2]
            refine b_aload_n rfl rfl ?_
            refine b_iconst rfl ?_
            refine b_callV rfl rfl hk_M_formula rfl rfl rfl (by first | rfl | assumption) rfl (Nat.le_of_ble_eq_true rfl) (qF) (Nat.le_of_ble_eq_true rfl) (fun r_63 D_63 q_63 => ?_)
            obtain ⟨rfl, I3, rfl, g3, k3, c3⟩ := q_63
            have e3 := k3.2.2.2.2.1
            rw [rdx_2] at e3
            have hE1 := k3.2.1.1
            refine b_aload_n rfl rfl ?_
            refine b_iconst rfl ?_
            refine b_iconst rfl ?_
            refine b_callV rfl rfl hk_M_emit rfl rfl rfl (by first | rfl | assumption) rfl (Nat.le_of_ble_eq_true rfl) (q_M_emit_r hM c3.1 (by omega)) (Nat.le_of_ble_eq_true rfl) (fun r_69 D_69 q_69 => ?_)
            obtain ⟨rfl, hD⟩ := q_69
            obtain ⟨I4, hI4⟩ : ∃ z, z = hn_u (hn_u (hn_u I3 195 (1100 + x.2.2.length) 0) 196 (1100 + x.2.2.length) 0) 188 13 (nI (x.2.2.length + 1)) := ⟨_, rfl⟩
            rw [← hI4] at hD
            subst hD
            have a195 : I4 195 = va_up (I3 195) (1100 + x.2.2.length) 0 := (by rw [hI4, hn_u_ne _ _ _ (by omega), hn_u_ne _ _ _ (by omega), hn_u_eq])
            have a196 : I4 196 = va_up (I3 196) (1100 + x.2.2.length) 0 := (by rw [hI4, hn_u_ne _ _ _ (by omega), hn_u_eq, hn_u_ne _ _ _ (by omega)])
            have a188 : ∀ j, j ≠ 13 → I4 188 j = I3 188 j := (fun j hj => by rw [hI4, hn_u_eq, va_up, if_neg hj, hn_u_ne _ _ _ (by omega), hn_u_ne _ _ _ (by omega)])
            have a13 : I4 188 13 = nI (x.2.2.length + 1) := (by rw [hI4, hn_u_eq, va_up, if_pos rfl])
            have a0 : ∀ b, b ≠ 188 → b ≠ 195 → b ≠ 196 → I4 b = I3 b := (fun b h1 h2 h3 => by rw [hI4, hn_u_ne _ _ _ h1, hn_u_ne _ _ _ h3, hn_u_ne _ _ _ h2])
            have a194 : ∀ j, j ≠ 64 → I4 194 j = I 194 j := (fun j hj => by rw [a0 194 (by omega) (by omega) (by omega), g3.1 194 (by omega) (by omega) (by omega), hI2, hn_u_eq, va_up, if_neg hj, g1.1 194 (by omega)])
            have a64 : I4 194 64 = 0 := (by rw [a0 194 (by omega) (by omega) (by omega), g3.1 194 (by omega) (by omega) (by omega), hI2, hn_u_eq, va_up, if_pos rfl])
            have g12 : hs_mn I J I2 J := (hs_mn_t (hs_mn_f g1) ⟨fun b _ hb _ _ _ => f2 b hb, fun i _ _ _ _ => by rw [f2 188 (by omega)], fun j hj => by rw [hI2, hn_u_eq, va_up, if_neg (by omega)], fun j _ => ⟨by rw [f2 195 (by omega)], by rw [f2 196 (by omega)]⟩, fun _ _ => rfl⟩)
            have g4 : hs_mn I3 J I4 J := ⟨fun b b1 _ b3 b4 _ => a0 b b1 b3 b4, fun i _ _ i13 _ => a188 i i13, fun j _ => by rw [a0 194 (by omega) (by omega) (by omega)], fun j hj => ⟨by rw [a195, va_up, if_neg (by omega)], by rw [a196, va_up, if_neg (by omega)]⟩, fun _ _ => rfl⟩
            exact b_return_ rfl trivial (⟨rfl, rdx f n x, I4, J, rfl, hs_mn_t g12 (hs_mn_t (hs_mn_g g3) g4), ⟨k3.1, hs_tt_c k3.2.1 (a0 190 (by omega) (by omega) (by omega)) (a0 191 (by omega) (by omega) (by omega)), by rw [a188 7 (by omega)]; exact k3.2.2.1, by rw [a188 8 (by omega)]; exact k3.2.2.2.1, k3.2.2.2.2⟩, hX1.symm, fun z => by rw [hX1] at z; obtain ⟨x0, xc, xl⟩ := pl.2 z; rw [hX, xc]; obtain ⟨b1, b2, b3, b4, b5, b6, b7, bj, b9, _⟩ := hB; have hh := hH_law (T := tq f n) (fun k => (tq_9 k).1) (k := s.2 + 1) (by rw [← hx]; exact x0); rw [← hx] at hh; exact ⟨⟨by rw [a194 60 (by omega)]; exact b1, by rw [a194 61 (by omega)]; exact b2, by rw [a194 62 (by omega)]; exact b3, by rw [a194 63 (by omega)]; exact b4, fun k hk => by rw [a194 _ (by omega), a194 _ (by omega)]; exact b5 k hk, fun k hk => by rw [a194 _ (by omega), a194 _ (by omega)]; exact b6 k hk, fun p hp => by rw [a194 _ (by omega), a194 _ (by omega)]; exact b7 p hp, by rw [a0 200 (by omega) (by omega) (by omega), g3.1 200 (by omega) (by omega) (by omega), f2 200 (by omega), g1.1 200 (by omega)]; exact bj, by rw [a188 19 (by omega), g3.2.1 19 (by omega) (by omega) (by omega), f2 188 (by omega), g1.2 19 (by omega) (by omega)]; exact b9, a64, a13, fun i hi => by rw [a195, a196, va_up, va_up, if_neg (by omega), if_neg (by omega)]; exact c3.2 i hi, by rw [a195, va_up, if_pos rfl], xl⟩, hq.1, hq.2.1, hh⟩⟩)
          · exact absurd (show nI s.1 ≤ 0 by rw [h0]; decide) c_36
        · exact absurd c_24 (by decide)
      · rcases hb with ⟨_, hb⟩ | ⟨hb, _⟩ <;> first | exact absurd p9 hb | (rw [hb] at c_6; exact absurd c_6 (by decide))
    · have hcl := hB.2.2.2.2.2.2.2.2.2
      rw [eL] at hcl
      have c64 := hcl.1
      have eX : X.1 = fl f n 3 s := by rw [hX]; exact if_pos (fun z => by rw [eL] at z; cases z)
      have hXn : ¬ X.1.1 = 0 := by rw [eX]; exact fl_ne (by omega)
      refine b_aload_n rfl rfl ?_
      refine b_bipush rfl ?_
      refine b_callV rfl rfl hk_M_isWord rfl rfl rfl (by first | rfl | assumption) rfl (Nat.le_of_ble_eq_true rfl) (q3) (Nat.le_of_ble_eq_true rfl) (fun r_3 D_3 q_3 => ?_)
      obtain ⟨⟨b, rfl, hb⟩, rfl⟩ := q_3
      refine b_if_ne rfl (fun c_6 => ?_) (fun c_6 => ?_)
      · refine b_aload_n rfl rfl ?_
        refine b_getR rfl (by first | rfl | assumption) rfl (by assumption) ?_
        refine b_bipush rfl ?_
        refine b_iaload rfl (by first | rfl | assumption) (show (64 : Int32).toInt = ((64 : Nat) : Int) by decide) (by omega) ?_
        rw [c64]
        refine b_if_lt rfl (fun c_24 => ?_) (fun c_24 => ?_)
        · exact absurd c_24 (by decide)
        · refine b_aload_n rfl rfl ?_
          refine b_iconst rfl ?_
          refine b_callV rfl rfl hk_M_wrong rfl rfl rfl (by first | rfl | assumption) rfl (Nat.le_of_ble_eq_true rfl) (q_M_wrong (c := 3) hM h (by omega)) (Nat.le_of_ble_eq_true rfl) (fun r_29 D_29 q_29 => ?_)
          obtain ⟨rfl, I2, rfl, g2, k2⟩ := q_29
          rw [show p_f f n 3 s = fl f n 3 s from if_pos h0] at k2
          refine b_aload_n rfl rfl ?_
          refine b_getI rfl (by first | rfl | assumption) rfl ?_
          rw [k2.2.2.2.1]
          refine b_if_le rfl (fun c_36 => ?_) (fun c_36 => ?_)
          · exact absurd c_36 (nI_ps (fl_ne (by omega)) (by have := k2.2.2.2.2.2; omega))
          · exact b_return_ rfl trivial (⟨rfl, fl f n 3 s, I2, J, rfl, hs_mn_f g2, k2, by rw [eX]; exact p_e_n (fl_ne (by omega)), fun z => absurd z hXn⟩)
      · rcases hb with ⟨_, hb⟩ | ⟨hb, _⟩ <;> first | exact absurd p9 hb | (rw [hb] at c_6; exact absurd c_6 (by decide))
  · have p9 : ¬ (s.1 = 0 ∧ wx (tq f n s.2) = 7 + 2) := fun z => w9 z.2
    have eX : X = (fl f n 1 s, B) := hXd.trans (((((if_neg w2).trans (if_neg w4)).trans (if_neg w5)).trans (if_neg w6)).trans (if_neg w9))
    have hXn : ¬ X.1.1 = 0 := by rw [eX]; exact fl_ne (by omega)
    refine b_aload_n rfl rfl ?_
    refine b_bipush rfl ?_
    refine b_callV rfl rfl hk_M_isWord rfl rfl rfl (by first | rfl | assumption) rfl (Nat.le_of_ble_eq_true rfl) (q3) (Nat.le_of_ble_eq_true rfl) (fun r_3 D_3 q_3 => ?_)
    obtain ⟨⟨b, rfl, hb⟩, rfl⟩ := q_3
    refine b_if_ne rfl (fun c_6 => ?_) (fun c_6 => ?_)
    · rcases hb with ⟨hb, _⟩ | ⟨_, hb⟩ <;> first | exact absurd hb p9 | exact absurd hb c_6
    · refine b_aload_n rfl rfl ?_
      refine b_iconst rfl ?_
      refine b_callV rfl rfl hk_M_wrong rfl rfl rfl (by first | rfl | assumption) rfl (Nat.le_of_ble_eq_true rfl) (q_M_wrong (c := 1) hM h (by omega)) (Nat.le_of_ble_eq_true rfl) (fun r_11 D_11 q_11 => ?_)
      obtain ⟨rfl, I2, rfl, g2, k2⟩ := q_11
      rw [show p_f f n 1 s = fl f n 1 s from if_pos h0] at k2
      refine b_goto rfl ?_
      refine b_aload_n rfl rfl ?_
      refine b_getI rfl (by first | rfl | assumption) rfl ?_
      rw [k2.2.2.2.1]
      refine b_if_le rfl (fun c_36 => ?_) (fun c_36 => ?_)
      · exact absurd c_36 (nI_ps (fl_ne (by omega)) (by have := k2.2.2.2.2.2; omega))
      · exact b_return_ rfl trivial (⟨rfl, fl f n 1 s, I2, J, rfl, hs_mn_f g2, k2, by rw [eX]; exact p_e_n (fl_ne (by omega)), fun z => absurd z hXn⟩)
theorem q_M_readLine {f : Nat → Nat} {n E : Nat} {s : rd} {B : sp_B} (hM : hs_M R) (hW : hs_Wm J) (hv : ∀ k, (tq f n k).1 = 3 → (tq f n k).2.2.2 < 128) (h : hs_Rm I J f n E s) (h0 : s.1 = 0) (hB : hs_Bm I J B) (hq : hs_Bq B) : hn_F 34 hm_M_readLine [.ref 188] (I, J, R) (fun r D' => r = none ∧ hs_Le I J R f n E (p_ln f n (s, B)) D') := by
  by_cases w2 : wx (tq f n s.2) = 2
  · exact ml_2 hM hW h h0 hB hq w2
  by_cases w4 : wx (tq f n s.2) = 4
  · exact ml_4 hM hW h h0 hB hq w2 w4
  by_cases w5 : wx (tq f n s.2) = 5
  · exact ml_5 hM hW h h0 hB hq w2 w4 w5
  by_cases w6 : wx (tq f n s.2) = 6
  · exact ml_6 hM hW h h0 hB hq w2 w4 w5 w6
  have ql := q_M_readLulls hM hW hv h h0 hB hq w2 w4 w5 w6
  refine hn_F_of _ hk_M_readLine rfl (Nat.le_of_ble_eq_true rfl) ?_
  have q2 := q_M_isWord (R := R) (w := 0) hM hW h (by omega) rfl
  have q74 := q_M_isWord (R := R) (w := 2) hM hW h (by omega) rfl
  have q93 := q_M_isWord (R := R) (w := 3) hM hW h (by omega) rfl
  have q112 := q_M_isWord (R := R) (w := 4) hM hW h (by omega) rfl
  have p0 : ¬ (s.1 = 0 ∧ wx (tq f n s.2) = 0 + 2) := fun z => w2 z.2
  have p4 : ¬ (s.1 = 0 ∧ wx (tq f n s.2) = 2 + 2) := fun z => w4 z.2
  have p5 : ¬ (s.1 = 0 ∧ wx (tq f n s.2) = 3 + 2) := fun z => w5 z.2
  have p6 : ¬ (s.1 = 0 ∧ wx (tq f n s.2) = 4 + 2) := fun z => w6 z.2
  refine b_aload_n rfl rfl ?_
  refine b_iconst rfl ?_
  refine b_callV rfl rfl hk_M_isWord rfl rfl rfl (by first | rfl | assumption) rfl (Nat.le_of_ble_eq_true rfl) (q2) (Nat.le_of_ble_eq_true rfl) (fun r_2 D_2 q_2 => ?_)
  obtain ⟨⟨b, rfl, hb⟩, rfl⟩ := q_2
  refine b_if_eq rfl (fun c_5 => ?_) (fun c_5 => ?_)
  · refine b_aload_n rfl rfl ?_
    refine b_iconst rfl ?_
    refine b_callV rfl rfl hk_M_isWord rfl rfl rfl (by first | rfl | assumption) rfl (Nat.le_of_ble_eq_true rfl) (q74) (Nat.le_of_ble_eq_true rfl) (fun r_74 D_74 q_74 => ?_)
    obtain ⟨⟨b2, rfl, hb2⟩, rfl⟩ := q_74
    refine b_if_eq rfl (fun c_77 => ?_) (fun c_77 => ?_)
    · refine b_aload_n rfl rfl ?_
      refine b_iconst rfl ?_
      refine b_callV rfl rfl hk_M_isWord rfl rfl rfl (by first | rfl | assumption) rfl (Nat.le_of_ble_eq_true rfl) (q93) (Nat.le_of_ble_eq_true rfl) (fun r_93 D_93 q_93 => ?_)
      obtain ⟨⟨b3, rfl, hb3⟩, rfl⟩ := q_93
      refine b_if_eq rfl (fun c_96 => ?_) (fun c_96 => ?_)
      · refine b_aload_n rfl rfl ?_
        refine b_iconst rfl ?_
        refine b_callV rfl rfl hk_M_isWord rfl rfl rfl (by first | rfl | assumption) rfl (Nat.le_of_ble_eq_true rfl) (q112) (Nat.le_of_ble_eq_true rfl) (fun r_112 D_112 q_112 => ?_)
        obtain ⟨⟨b4, rfl, hb4⟩, rfl⟩ := q_112
        refine b_if_eq rfl (fun c_115 => ?_) (fun c_115 => ?_)
        · refine b_aload_n rfl rfl ?_
          refine b_callV rfl rfl hk_M_readLulls rfl rfl rfl (by first | rfl | assumption) rfl (Nat.le_of_ble_eq_true rfl) (ql) (Nat.le_of_ble_eq_true rfl) (fun r_189 D_189 q_189 => ?_)
          obtain ⟨rfl, hl⟩ := q_189
          exact b_return_ rfl trivial (⟨rfl, hl⟩)
        · rcases hb4 with ⟨hb4, _⟩ | ⟨_, hb4⟩ <;> first | exact absurd hb4 p6 | exact absurd hb4 c_115
      · rcases hb3 with ⟨hb3, _⟩ | ⟨_, hb3⟩ <;> first | exact absurd hb3 p5 | exact absurd hb3 c_96
    · rcases hb2 with ⟨hb2, _⟩ | ⟨_, hb2⟩ <;> first | exact absurd hb2 p4 | exact absurd hb2 c_77
  · rcases hb with ⟨hb, _⟩ | ⟨_, hb⟩ <;> first | exact absurd hb p0 | exact absurd hb c_5
end HNmlulls
