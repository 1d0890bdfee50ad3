section HNmtakes
variable {I I' : Nat → Nat → Int32} {J J' : Nat → Nat → Int64} {R R' : Nat → Nat → Option Nat}
theorem nJ_lt_c {a b : Nat} (ha : a < 2147483648) (hb : b < 2147483648) : nJ a < nJ b ↔ a < b := by
  rw [Int64.lt_iff_toInt_lt, nJ_toInt (by omega), nJ_toInt (by omega)]; omega
theorem nJ_le_c {a b : Nat} (ha : a < 2147483648) (hb : b < 2147483648) : nJ a ≤ nJ b ↔ a ≤ b := by
  rw [Int64.le_iff_toInt_le, nJ_toInt (by omega), nJ_toInt (by omega)]; omega
theorem nI_ps {k : Nat} (h : ¬ k = 0) (hk : k < 2147483648) : ¬ nI k ≤ 0 := fun z => by
  have := (nI_le_c (c := k) (k := 0) hk (by omega)).mp z
  omega
theorem q_M_takeNumber {f : Nat → Nat} {n E m : Nat} {x y : Int32} {s : rd} (hM : hs_M R) (h : hs_Rm I J f n E s) (hx : x = nI 0) (hy : y = nI m) (hm : m < 10000) : hn_F 1 hm_M_takeNumber [.ref 188, .int x, .int y] (I, J, R) (fun r D' => (∃ z, r = some (.int z) ∧ ((p_n f n m s).1 = 0 → z = nI (tq f n s.2).2.2.2)) ∧ hs_mp I J R f n E (p_n f n m s) D') := by
  refine hn_F_of _ hk_M_takeNumber rfl (Nat.le_of_ble_eq_true rfl) ?_
  subst hx hy
  obtain ⟨m1, m4, m5, m6, m9, m10, m11, m12, m14, m15, m16, m17, m20, m21, m22, m23, m25, m27, m28, m29, m30, m31, m32⟩ := id hM
  obtain ⟨hn, ht, h7, h8, hk, hb⟩ := id h
  have hE := ht.1
  have hc1 := tt_at ht hk
  have hl4 := (tq_le f n s.2).2.2
  obtain ⟨Z, hZ⟩ : ∃ Z, Z = p_n f n m s := ⟨_, rfl⟩
  rw [← hZ]
  obtain ⟨P, hP⟩ : ∃ P : Option Value → hnD → Prop, P = (fun r D' => (∃ z, r = some (.int z) ∧ (Z.1 = 0 → z = nI (tq f n s.2).2.2.2)) ∧ hs_mp I J R f n E Z D') := ⟨_, rfl⟩
  rw [← hP]
  have S70 : ∀ I2, hs_mf I I2 → hs_Rm I2 J f n E Z → ¬ Z.1 = 0 → hn_B 1 hm_M_takeNumber P 70 [.ref 188, .int (nI 0), .int (nI m)] [] (I2, J, R) := by
    intro I2 g2 k2 hz
    refine b_aload_n rfl rfl ?_
    refine b_getI rfl (by first | rfl | assumption) rfl ?_
    rw [k2.2.2.2.1]
    refine b_if_le rfl (fun c_74 => ?_) (fun c_74 => ?_)
    · exact absurd c_74 (nI_ps hz (by have := k2.2.2.2.2.2; omega))
    · refine b_iconst rfl ?_
      exact b_ireturn rfl trivial ((by rw [hP]; exact ⟨⟨0, rfl, fun z => absurd z hz⟩, I2, rfl, g2, k2⟩))
  by_cases h0 : s.1 = 0
  · by_cases h3 : (tq f n s.2).1 = 2
    · have ev := hc1.2.2.2 (Or.inl h3)
      have hv3 := (tq_9 (f := f) (n := n) s.2).1 h3
      have e1 : Z = p_u f n (m < (tq f n s.2).2.2.2) 4 s := by rw [hZ]; exact (if_pos h0).trans (if_pos h3)
      by_cases hm2 : m < (tq f n s.2).2.2.2
      · have e2 : Z = p_f f n 4 s := by rw [e1]; exact (if_pos hm2).trans (if_pos h0).symm
        have hz : ¬ Z.1 = 0 := by rw [e1, show p_u f n (m < (tq f n s.2).2.2.2) 4 s = fl f n 4 s from if_pos hm2]; exact fl_ne (by omega)
        refine b_aload_n rfl rfl ?_
        refine b_getI rfl (by first | rfl | assumption) rfl ?_
        rw [h8]
        refine b_if_ne rfl (fun c_4 => ?_) (fun c_4 => ?_)
        · exact absurd (show nI s.1 = 0 by rw [h0]; rfl) c_4
        · refine b_aload_n rfl rfl ?_
          refine b_getR rfl (by first | rfl | assumption) rfl (by assumption) ?_
          refine b_aload_n rfl rfl ?_
          refine b_getI rfl (by first | rfl | assumption) rfl ?_
          rw [h7]
          refine b_iaload rfl (by first | rfl | assumption) (nI_toInt (n := s.2) (by omega)) (by omega) ?_
          rw [hc1.1]
          refine b_iconst rfl ?_
          refine b_icmp_eq rfl (fun c_17 => ?_) (fun c_17 => ?_)
          · refine b_aload_n rfl rfl ?_
            refine b_getI rfl (by first | rfl | assumption) rfl ?_
            rw [h8]
            refine b_if_ne rfl (fun c_32 => ?_) (fun c_32 => ?_)
            · exact absurd (show nI s.1 = 0 by rw [h0]; rfl) c_32
            · refine b_aload_n rfl rfl ?_
              refine b_getR rfl (by first | rfl | assumption) rfl (by assumption) ?_
              refine b_aload_n rfl rfl ?_
              refine b_getI rfl (by first | rfl | assumption) rfl ?_
              rw [h7]
              refine b_laload rfl (by first | rfl | assumption) (by decide) (nI_toInt (n := s.2) (by omega)) (by omega) ?_
              rw [ev]
              refine b_iload_n rfl rfl ?_
              refine b_i2l rfl ?_
              rw [nI_J (by omega)]
              refine b_lcmp rfl ?_
              refine b_if_lt rfl (fun c_47 => ?_) (fun c_47 => ?_)
              · refine b_aload_n rfl rfl ?_
                refine b_iconst rfl ?_
                refine b_callV rfl rfl hk_M_wrong rfl rfl rfl (by first | rfl | assumption) rfl (Nat.le_of_ble_eq_true rfl) (q_M_wrong (c := 4) hM h (by omega)) (Nat.le_of_ble_eq_true rfl) (fun r_67 D_67 q_67 => ?_)
                obtain ⟨rfl, I2, rfl, g2, k2⟩ := q_67
                rw [← e2] at k2
                exact S70 I2 g2 k2 hz
              · refine b_aload_n rfl rfl ?_
                refine b_getR rfl (by first | rfl | assumption) rfl (by assumption) ?_
                refine b_aload_n rfl rfl ?_
                refine b_getI rfl (by first | rfl | assumption) rfl ?_
                rw [h7]
                refine b_laload rfl (by first | rfl | assumption) (by decide) (nI_toInt (n := s.2) (by omega)) (by omega) ?_
                rw [ev]
                refine b_iload_n rfl rfl ?_
                refine b_i2l rfl ?_
                rw [nI_J (by omega)]
                refine b_lcmp rfl ?_
                refine b_if_le rfl (fun c_62 => ?_) (fun c_62 => ?_)
                · exact absurd ((nJ_le_c (by omega) (by omega)).mp ((lg_cmp_le _ _).mp c_62)) (by omega)
                · refine b_aload_n rfl rfl ?_
                  refine b_iconst rfl ?_
                  refine b_callV rfl rfl hk_M_wrong rfl rfl rfl (by first | rfl | assumption) rfl (Nat.le_of_ble_eq_true rfl) (q_M_wrong (c := 4) hM h (by omega)) (Nat.le_of_ble_eq_true rfl) (fun r_67 D_67 q_67 => ?_)
                  obtain ⟨rfl, I2, rfl, g2, k2⟩ := q_67
                  rw [← e2] at k2
                  exact S70 I2 g2 k2 hz
          · exact absurd (show nI (tq f n s.2).1 = 2 by rw [h3]; rfl) c_17
      · have e2 : Z = (0, s.2 + 1) := by rw [e1]; exact if_neg hm2
        have on := mp_on (R := R) h h0 (by rw [h3]; omega)
        rw [← e2] at on
        refine b_aload_n rfl rfl ?_
        refine b_getI rfl (by first | rfl | assumption) rfl ?_
        rw [h8]
        refine b_if_ne rfl (fun c_4 => ?_) (fun c_4 => ?_)
        · exact absurd (show nI s.1 = 0 by rw [h0]; rfl) c_4
        · refine b_aload_n rfl rfl ?_
          refine b_getR rfl (by first | rfl | assumption) rfl (by assumption) ?_
          refine b_aload_n rfl rfl ?_
          refine b_getI rfl (by first | rfl | assumption) rfl ?_
          rw [h7]
          refine b_iaload rfl (by first | rfl | assumption) (nI_toInt (n := s.2) (by omega)) (by omega) ?_
          rw [hc1.1]
          refine b_iconst rfl ?_
          refine b_icmp_eq rfl (fun c_17 => ?_) (fun c_17 => ?_)
          · refine b_aload_n rfl rfl ?_
            refine b_getI rfl (by first | rfl | assumption) rfl ?_
            rw [h8]
            refine b_if_ne rfl (fun c_32 => ?_) (fun c_32 => ?_)
            · exact absurd (show nI s.1 = 0 by rw [h0]; rfl) c_32
            · refine b_aload_n rfl rfl ?_
              refine b_getR rfl (by first | rfl | assumption) rfl (by assumption) ?_
              refine b_aload_n rfl rfl ?_
              refine b_getI rfl (by first | rfl | assumption) rfl ?_
              rw [h7]
              refine b_laload rfl (by first | rfl | assumption) (by decide) (nI_toInt (n := s.2) (by omega)) (by omega) ?_
              rw [ev]
              refine b_iload_n rfl rfl ?_
              refine b_i2l rfl ?_
              rw [nI_J (by omega)]
              refine b_lcmp rfl ?_
              refine b_if_lt rfl (fun c_47 => ?_) (fun c_47 => ?_)
              · exact absurd ((nJ_lt_c (by omega) (by omega)).mp ((lg_cmp_lt _ _).mp c_47)) (by omega)
              · refine b_aload_n rfl rfl ?_
                refine b_getR rfl (by first | rfl | assumption) rfl (by assumption) ?_
                refine b_aload_n rfl rfl ?_
                refine b_getI rfl (by first | rfl | assumption) rfl ?_
                rw [h7]
                refine b_laload rfl (by first | rfl | assumption) (by decide) (nI_toInt (n := s.2) (by omega)) (by omega) ?_
                rw [ev]
                refine b_iload_n rfl rfl ?_
                refine b_i2l rfl ?_
                rw [nI_J (by omega)]
                refine b_lcmp rfl ?_
                refine b_if_le rfl (fun c_62 => ?_) (fun c_62 => ?_)
                · refine b_aload_n rfl rfl ?_
                  refine b_getI rfl (by first | rfl | assumption) rfl ?_
                  rw [h8]
                  refine b_if_le rfl (fun c_74 => ?_) (fun c_74 => ?_)
                  · refine b_aload_n rfl rfl ?_
                    refine b_dup rfl rfl ?_
                    refine b_getI rfl (by first | rfl | assumption) rfl ?_
                    refine b_iconst rfl ?_
                    rw [h7]
                    refine b_iadd rfl ?_
                    rw [← nI_succ]
                    refine b_putI rfl (by first | rfl | assumption) rfl rfl ⟨rfl, rfl⟩ ?_
                    refine b_aload_n rfl rfl ?_
                    refine b_getR rfl (by first | rfl | assumption) rfl (by assumption) ?_
                    refine b_aload_n rfl rfl ?_
                    refine b_getI rfl (by first | rfl | assumption) rfl ?_
                    have e7 : hn_u I 188 7 (nI (s.2 + 1)) 188 7 = nI (s.2 + 1) := (by rw [hn_u_eq, va_up, if_pos rfl])
                    rw [e7]
                    refine b_iconst rfl ?_
                    refine b_isub rfl ?_
                    rw [show nI (s.2 + 1) - 1 = nI s.2 by rw [nI_succ, Int32.add_sub_cancel]]
                    refine b_laload rfl (by first | rfl | assumption) (by decide) (nI_toInt (n := s.2) (by omega)) (by omega) ?_
                    rw [ev]
                    refine b_l2i rfl ?_
                    rw [hl_int (nJ_toInt (by omega)) (by omega)]
                    exact b_ireturn rfl trivial ((by rw [hP]; exact ⟨⟨_, rfl, fun _ => rfl⟩, on⟩))
                  · exact absurd (show nI s.1 ≤ 0 by rw [h0]; decide) c_74
                · exact absurd ((lg_cmp_le _ _).mpr ((nJ_le_c (by omega) (by omega)).mpr (by omega))) c_62
          · exact absurd (show nI (tq f n s.2).1 = 2 by rw [h3]; rfl) c_17
    · have e2 : Z = p_f f n 1 s := by rw [hZ]; exact ((if_pos h0).trans (if_neg h3)).trans (if_pos h0).symm
      have hz : ¬ Z.1 = 0 := by rw [e2, show p_f f n 1 s = fl f n 1 s from if_pos h0]; exact fl_ne (by omega)
      refine b_aload_n rfl rfl ?_
      refine b_getI rfl (by first | rfl | assumption) rfl ?_
      rw [h8]
      refine b_if_ne rfl (fun c_4 => ?_) (fun c_4 => ?_)
      · exact absurd (show nI s.1 = 0 by rw [h0]; rfl) c_4
      · refine b_aload_n rfl rfl ?_
        refine b_getR rfl (by first | rfl | assumption) rfl (by assumption) ?_
        refine b_aload_n rfl rfl ?_
        refine b_getI rfl (by first | rfl | assumption) rfl ?_
        rw [h7]
        refine b_iaload rfl (by first | rfl | assumption) (nI_toInt (n := s.2) (by omega)) (by omega) ?_
        rw [hc1.1]
        refine b_iconst rfl ?_
        refine b_icmp_eq rfl (fun c_17 => ?_) (fun c_17 => ?_)
        · exact absurd ((hi_nIe (k := 2) (by omega) (by omega)).mp c_17) h3
        · refine b_aload_n rfl rfl ?_
          refine b_iconst rfl ?_
          refine b_callV rfl rfl hk_M_wrong rfl rfl rfl (by first | rfl | assumption) rfl (Nat.le_of_ble_eq_true rfl) (q_M_wrong (c := 1) hM h (by omega)) (Nat.le_of_ble_eq_true rfl) (fun r_22 D_22 q_22 => ?_)
          obtain ⟨rfl, I2, rfl, g2, k2⟩ := q_22
          rw [← e2] at k2
          refine b_goto rfl ?_
          exact S70 I2 g2 k2 hz
  · have e2 : Z = s := by rw [hZ]; exact if_neg h0
    refine b_aload_n rfl rfl ?_
    refine b_getI rfl (by first | rfl | assumption) rfl ?_
    rw [h8]
    refine b_if_ne rfl (fun c_4 => ?_) (fun c_4 => ?_)
    · refine b_aload_n rfl rfl ?_
      refine b_getI rfl (by first | rfl | assumption) rfl ?_
      rw [h8]
      refine b_if_ne rfl (fun c_32 => ?_) (fun c_32 => ?_)
      · exact S70 I hs_mf_r (by rw [e2]; exact h) (by rw [e2]; exact h0)
      · exact absurd ((hi_nIe (k := 0) (by omega) (by omega)).mp c_32) h0
    · exact absurd ((hi_nIe (k := 0) (by omega) (by omega)).mp c_4) h0
theorem q_M_takeAfter {f : Nat → Nat} {n E m w : Nat} {u x y : Int32} {s : rd} (hM : hs_M R) (hW : hs_Wm J) (h : hs_Rm I J f n E s) (hw : w < 24) (hu : u = nI w) (hx : x = nI 0) (hy : y = nI m) (hm : m < 10000) : hn_F 3 hm_M_takeAfter [.ref 188, .int u, .int x, .int y] (I, J, R) (fun r D' => (∃ z, r = some (.int z) ∧ ((p_n f n m (p_w f n (w + 2) s)).1 = 0 → z = nI (tq f n (p_w f n (w + 2) s).2).2.2.2)) ∧ hs_mp I J R f n E (p_n f n m (p_w f n (w + 2) s)) D') := by
  refine hn_F_of _ hk_M_takeAfter rfl (Nat.le_of_ble_eq_true rfl) ?_
  refine b_aload_n rfl rfl ?_
  refine b_iload_n rfl rfl ?_
  refine b_callV rfl rfl hk_M_takeWord rfl rfl rfl (by first | rfl | assumption) rfl (Nat.le_of_ble_eq_true rfl) (q_M_takeWord hM hW h hw hu) (Nat.le_of_ble_eq_true rfl) (fun r_2 D_2 q_2 => ?_)
  obtain ⟨rfl, I2, rfl, g2, k2⟩ := q_2
  refine b_aload_n rfl rfl ?_
  refine b_iload_n rfl rfl ?_
  refine b_iload_n rfl rfl ?_
  refine b_callV rfl rfl hk_M_takeNumber rfl rfl rfl (by first | rfl | assumption) rfl (Nat.le_of_ble_eq_true rfl) (q_M_takeNumber hM k2 hx hy hm) (Nat.le_of_ble_eq_true rfl) (fun r_8 D_8 q_8 => ?_)
  obtain ⟨⟨z, rfl, hz⟩, I3, rfl, g3, k3⟩ := q_8
  exact b_ireturn rfl trivial (⟨⟨z, rfl, hz⟩, I3, rfl, hs_mf_t g2 g3, k3⟩)
/-- which of so many words stands here -/
def wh (f : Nat → Nat) (n : Nat) (s : rd) (fr m : Nat) : Int32 := if s.1 = 0 ∧ fr + 2 ≤ wx (tq f n s.2) ∧ wx (tq f n s.2) < fr + 2 + m then nI (wx (tq f n s.2) - fr - 2) else -1
theorem q_M_wordHere {f : Nat → Nat} {n E fr m : Nat} {x y : Int32} {s : rd} (hM : hs_M R) (hW : hs_Wm J) (h : hs_Rm I J f n E s) (hm : fr + m ≤ 24) (hx : x = nI fr) (hy : y = nI m) : hn_F 1 hm_M_wordHere [.ref 188, .int x, .int y] (I, J, R) (fun r D' => r = some (.int (wh f n s fr m)) ∧ D' = (I, J, R)) := by
  subst hx hy
  refine hn_F_of _ hk_M_wordHere rfl (Nat.le_of_ble_eq_true rfl) ?_
  obtain ⟨P, hP⟩ : ∃ P : Option Value → hnD → Prop, P = (fun r D' => r = some (.int (wh f n s fr m)) ∧ D' = (I, J, R)) := ⟨_, rfl⟩
  rw [← hP]
  have lp : hn_B 1 hm_M_wordHere P 5 [.ref 188, .int (nI fr), .int (nI m), .int (wh f n s fr 0), .int (nI 0)] [] (I, J, R) := by
    refine sp_ind m (fun k => hn_B 1 hm_M_wordHere P 5 [.ref 188, .int (nI fr), .int (nI m), .int (wh f n s fr k), .int (nI k)] [] (I, J, R)) ?_ ?_
    · refine b_iload rfl rfl ?_
      refine b_iload_n rfl rfl ?_
      refine b_icmp_ge rfl (fun c_8 => ?_) (fun c_8 => ?_)
      · refine b_iload_n rfl rfl ?_
        exact b_ireturn rfl trivial ((by rw [hP]; exact ⟨rfl, rfl⟩))
      · exact absurd (nI_le (Nat.le_refl _) (by omega)) c_8
    · intro k hk ih
      have e0 : nI fr + nI k = nI (fr + k) := (nI_ad fr k).symm
      by_cases hc : s.1 = 0 ∧ wx (tq f n s.2) = fr + k + 2
      · have e1 : wh f n s fr (k + 1) = nI k := by
          unfold wh
          rw [if_pos ⟨hc.1, by omega, by omega⟩, show wx (tq f n s.2) - fr - 2 = k by omega]
        rw [e1] at ih
        refine b_iload rfl rfl ?_
        refine b_iload_n rfl rfl ?_
        refine b_icmp_ge rfl (fun c_8 => ?_) (fun c_8 => ?_)
        · exact absurd c_8 (nI_ge hk (by omega))
        · refine b_aload_n rfl rfl ?_
          refine b_iload_n rfl rfl ?_
          refine b_iload rfl rfl ?_
          refine b_iadd rfl ?_
          rw [e0]
          refine b_callV rfl rfl hk_M_isWord rfl rfl rfl (by first | rfl | assumption) rfl (Nat.le_of_ble_eq_true rfl) (q_M_isWord (w := fr + k) hM hW h (by omega) rfl) (Nat.le_of_ble_eq_true rfl) (fun r_16 D_16 q_16 => ?_)
          obtain ⟨⟨b, rfl, hb⟩, rfl⟩ := q_16
          refine b_if_eq rfl (fun c_19 => ?_) (fun c_19 => ?_)
          · rcases hb with ⟨_, hb⟩ | ⟨hb, _⟩ <;> first | exact absurd hc hb | (rw [hb] at c_19; exact absurd c_19 (by decide))
          · refine b_iload rfl rfl ?_
            refine b_goto rfl ?_
            refine b_istore_n rfl (Nat.le_of_ble_eq_true rfl) ?_
            refine b_iinc rfl rfl (Nat.le_of_ble_eq_true rfl) ?_
            refine b_goto rfl ?_
            exact b_lp ih (le_e (le_e (le_e (le_e (le_q (by rw [nI_succ]) le_0))))) rfl rfl
      · have e1 : wh f n s fr (k + 1) = wh f n s fr k := by
          unfold wh
          by_cases h2 : s.1 = 0 ∧ fr + 2 ≤ wx (tq f n s.2) ∧ wx (tq f n s.2) < fr + 2 + k
          · rw [if_pos h2, if_pos ⟨h2.1, h2.2.1, by omega⟩]
          · rw [if_neg h2, if_neg (fun z => h2 ⟨z.1, z.2.1, by have : ¬ wx (tq f n s.2) = fr + k + 2 := fun zz => hc ⟨z.1, zz⟩; omega⟩)]
        rw [e1] at ih
        refine b_iload rfl rfl ?_
        refine b_iload_n rfl rfl ?_
        refine b_icmp_ge rfl (fun c_8 => ?_) (fun c_8 => ?_)
        · exact absurd c_8 (nI_ge hk (by omega))
        · refine b_aload_n rfl rfl ?_
          refine b_iload_n rfl rfl ?_
          refine b_iload rfl rfl ?_
          refine b_iadd rfl ?_
          rw [e0]
          refine b_callV rfl rfl hk_M_isWord rfl rfl rfl (by first | rfl | assumption) rfl (Nat.le_of_ble_eq_true rfl) (q_M_isWord (w := fr + k) hM hW h (by omega) rfl) (Nat.le_of_ble_eq_true rfl) (fun r_16 D_16 q_16 => ?_)
          obtain ⟨⟨b, rfl, hb⟩, rfl⟩ := q_16
          refine b_if_eq rfl (fun c_19 => ?_) (fun c_19 => ?_)
          · refine b_iload_n rfl rfl ?_
            refine b_istore_n rfl (Nat.le_of_ble_eq_true rfl) ?_
            refine b_iinc rfl rfl (Nat.le_of_ble_eq_true rfl) ?_
            refine b_goto rfl ?_
            exact b_lp ih (le_e (le_e (le_e (le_e (le_q (by rw [nI_succ]) le_0))))) rfl rfl
          · rcases hb with ⟨hb, _⟩ | ⟨_, hb⟩ <;> first | exact absurd hb hc | exact absurd hb c_19
  have e0 : wh f n s fr 0 = -1 := if_neg (fun z => by omega)
  refine b_iconst rfl ?_
  refine b_istore_n rfl (Nat.le_of_ble_eq_true rfl) ?_
  refine b_iconst rfl ?_
  refine b_istore rfl (Nat.le_of_ble_eq_true rfl) ?_
  exact b_lp lp (le_e (le_e (le_e (le_q (by rw [e0]) (le_q (by rfl) le_0))))) rfl rfl
theorem wh_n {f : Nat → Nat} {n fr m : Nat} {s : rd} (hm : fr + m ≤ 24) : wh f n s fr m < 0 ↔ ¬ (s.1 = 0 ∧ fr + 2 ≤ wx (tq f n s.2) ∧ wx (tq f n s.2) < fr + 2 + m) := by
  unfold wh
  by_cases h2 : s.1 = 0 ∧ fr + 2 ≤ wx (tq f n s.2) ∧ wx (tq f n s.2) < fr + 2 + m
  · rw [if_pos h2]
    exact ⟨fun z => absurd ((nI_lt_c (c := wx (tq f n s.2) - fr - 2) (k := 0) (by omega) (by omega)).mp z) (by omega), fun z => absurd h2 z⟩
  · rw [if_neg h2]
    exact ⟨fun _ => h2, fun _ => by decide⟩
theorem q_M_takeOne {f : Nat → Nat} {n E : Nat} {x y : Int32} {s : rd} (hM : hs_M R) (hW : hs_Wm J) (h : hs_Rm I J f n E s) (hx : x = nI 13) (hy : y = nI 4) : hn_F 2 hm_M_takeOne [.ref 188, .int x, .int y] (I, J, R) (fun r D' => (∃ z, r = some (.int z) ∧ ((p_k f n s).1 = 0 → z = nI (wx (tq f n s.2) - 15))) ∧ hs_mp I J R f n E (p_k f n s) D') := by
  refine hn_F_of _ hk_M_takeOne rfl (Nat.le_of_ble_eq_true rfl) ?_
  obtain ⟨hn, ht, h7, h8, hk, hb⟩ := id h
  by_cases h0 : s.1 = 0
  · by_cases hc : 15 ≤ wx (tq f n s.2) ∧ wx (tq f n s.2) ≤ 18
    · have e : p_k f n s = (0, s.2 + 1) := (if_pos h0).trans (if_neg (fun z => z hc))
      have ew : wh f n s 13 4 = nI (wx (tq f n s.2) - 15) := by
        unfold wh
        rw [if_pos ⟨h0, by omega, by omega⟩, show wx (tq f n s.2) - 13 - 2 = wx (tq f n s.2) - 15 by omega]
      have w0 : ¬ wh f n s 13 4 < 0 := fun z => (wh_n (by omega)).mp z ⟨h0, by omega, by omega⟩
      have on := mp_on (R := R) h h0 (wx_0 (by omega))
      rw [e]
      refine b_aload_n rfl rfl ?_
      refine b_getI rfl (by first | rfl | assumption) rfl ?_
      rw [h8]
      refine b_if_le rfl (fun c_4 => ?_) (fun c_4 => ?_)
      · refine b_aload_n rfl rfl ?_
        refine b_iload_n rfl rfl ?_
        refine b_iload_n rfl rfl ?_
        refine b_callV rfl rfl hk_M_wordHere rfl rfl rfl (by first | rfl | assumption) rfl (Nat.le_of_ble_eq_true rfl) (q_M_wordHere hM hW h (by omega) hx hy) (Nat.le_of_ble_eq_true rfl) (fun r_14 D_14 q_14 => ?_)
        obtain ⟨rfl, rfl⟩ := q_14
        refine b_istore_n rfl (Nat.le_of_ble_eq_true rfl) ?_
        refine b_aload_n rfl rfl ?_
        refine b_getI rfl (by first | rfl | assumption) rfl ?_
        rw [h8]
        refine b_if_ne rfl (fun c_22 => ?_) (fun c_22 => ?_)
        · refine b_aload_n rfl rfl ?_
          refine b_dup rfl rfl ?_
          refine b_getI rfl (by first | rfl | assumption) rfl ?_
          refine b_aload_n rfl rfl ?_
          refine b_getI rfl (by first | rfl | assumption) rfl ?_
          rw [h8]
          refine b_if_le rfl (fun c_43 => ?_) (fun c_43 => ?_)
          · refine b_iconst rfl ?_
            refine b_iadd rfl ?_
            rw [h7, ← nI_succ]
            refine b_putI rfl (by first | rfl | assumption) rfl rfl ⟨rfl, rfl⟩ ?_
            refine b_aload_n rfl rfl ?_
            refine b_getI rfl (by first | rfl | assumption) rfl ?_
            have e8 : hn_u I 188 7 (nI (s.2 + 1)) 188 8 = nI s.1 := (by rw [hn_u_eq, va_up, if_neg (by omega)]; exact h8)
            rw [e8]
            refine b_if_le rfl (fun c_59 => ?_) (fun c_59 => ?_)
            · refine b_iload_n rfl rfl ?_
              exact b_ireturn rfl trivial (⟨⟨_, rfl, fun _ => ew⟩, on⟩)
            · exact absurd (show nI s.1 ≤ 0 by rw [h0]; decide) c_59
          · exact absurd (show nI s.1 ≤ 0 by rw [h0]; decide) c_43
        · refine b_iload_n rfl rfl ?_
          refine b_if_ge rfl (fun c_26 => ?_) (fun c_26 => ?_)
          · refine b_aload_n rfl rfl ?_
            refine b_dup rfl rfl ?_
            refine b_getI rfl (by first | rfl | assumption) rfl ?_
            refine b_aload_n rfl rfl ?_
            refine b_getI rfl (by first | rfl | assumption) rfl ?_
            rw [h8]
            refine b_if_le rfl (fun c_43 => ?_) (fun c_43 => ?_)
            · refine b_iconst rfl ?_
              refine b_iadd rfl ?_
              rw [h7, ← nI_succ]
              refine b_putI rfl (by first | rfl | assumption) rfl rfl ⟨rfl, rfl⟩ ?_
              refine b_aload_n rfl rfl ?_
              refine b_getI rfl (by first | rfl | assumption) rfl ?_
              have e8 : hn_u I 188 7 (nI (s.2 + 1)) 188 8 = nI s.1 := (by rw [hn_u_eq, va_up, if_neg (by omega)]; exact h8)
              rw [e8]
              refine b_if_le rfl (fun c_59 => ?_) (fun c_59 => ?_)
              · refine b_iload_n rfl rfl ?_
                exact b_ireturn rfl trivial (⟨⟨_, rfl, fun _ => ew⟩, on⟩)
              · exact absurd (show nI s.1 ≤ 0 by rw [h0]; decide) c_59
            · exact absurd (show nI s.1 ≤ 0 by rw [h0]; decide) c_43
          · exact absurd (Int32.not_le.mp c_26) w0
      · exact absurd (show nI s.1 ≤ 0 by rw [h0]; decide) c_4
    · have e : p_k f n s = p_f f n 1 s := ((if_pos h0).trans (if_pos hc)).trans (if_pos h0).symm
      have hz : ¬ (p_f f n 1 s).1 = 0 := by rw [show p_f f n 1 s = fl f n 1 s from if_pos h0]; exact fl_ne (by omega)
      have w0 : wh f n s 13 4 < 0 := (wh_n (by omega)).mpr (fun z => hc ⟨by omega, by omega⟩)
      rw [e]
      refine b_aload_n rfl rfl ?_
      refine b_getI rfl (by first | rfl | assumption) rfl ?_
      rw [h8]
      refine b_if_le rfl (fun c_4 => ?_) (fun c_4 => ?_)
      · refine b_aload_n rfl rfl ?_
        refine b_iload_n rfl rfl ?_
        refine b_iload_n rfl rfl ?_
        refine b_callV rfl rfl hk_M_wordHere rfl rfl rfl (by first | rfl | assumption) rfl (Nat.le_of_ble_eq_true rfl) (q_M_wordHere hM hW h (by omega) hx hy) (Nat.le_of_ble_eq_true rfl) (fun r_14 D_14 q_14 => ?_)
        obtain ⟨rfl, rfl⟩ := q_14
        refine b_istore_n rfl (Nat.le_of_ble_eq_true rfl) ?_
        refine b_aload_n rfl rfl ?_
        refine b_getI rfl (by first | rfl | assumption) rfl ?_
        rw [h8]
        refine b_if_ne rfl (fun c_22 => ?_) (fun c_22 => ?_)
        · exact absurd (show nI s.1 = 0 by rw [h0]; rfl) c_22
        · refine b_iload_n rfl rfl ?_
          refine b_if_ge rfl (fun c_26 => ?_) (fun c_26 => ?_)
          · exact absurd w0 (Int32.not_lt.mpr c_26)
          · refine b_aload_n rfl rfl ?_
            refine b_iconst rfl ?_
            refine b_callV rfl rfl hk_M_wrong rfl rfl rfl (by first | rfl | assumption) rfl (Nat.le_of_ble_eq_true rfl) (q_M_wrong (c := 1) hM h (by omega)) (Nat.le_of_ble_eq_true rfl) (fun r_31 D_31 q_31 => ?_)
            obtain ⟨rfl, I2, rfl, g2, k2⟩ := q_31
            refine b_aload_n rfl rfl ?_
            refine b_dup rfl rfl ?_
            refine b_getI rfl (by first | rfl | assumption) rfl ?_
            refine b_aload_n rfl rfl ?_
            refine b_getI rfl (by first | rfl | assumption) rfl ?_
            rw [k2.2.2.2.1]
            refine b_if_le rfl (fun c_43 => ?_) (fun c_43 => ?_)
            · exact absurd c_43 (nI_ps hz (by have := k2.2.2.2.2.2; omega))
            · refine b_iconst rfl ?_
              refine b_goto rfl ?_
              refine b_iadd rfl ?_
              rw [k2.2.2.1, Int32.add_zero]
              refine b_putI rfl (by first | rfl | assumption) rfl rfl ⟨rfl, rfl⟩ ?_
              refine b_aload_n rfl rfl ?_
              refine b_getI rfl (by first | rfl | assumption) rfl ?_
              have e8 : hn_u I2 188 7 (nI (p_f f n 1 s).2) 188 8 = nI (p_f f n 1 s).1 := (by rw [hn_u_eq, va_up, if_neg (by omega)]; exact k2.2.2.2.1)
              rw [e8]
              refine b_if_le rfl (fun c_59 => ?_) (fun c_59 => ?_)
              · exact absurd c_59 (nI_ps hz (by have := k2.2.2.2.2.2; omega))
              · refine b_iconst rfl ?_
                refine b_goto rfl ?_
                exact b_ireturn rfl trivial (⟨⟨0, rfl, fun z => absurd z hz⟩, _, rfl, hs_mf_t g2 mf_7, hs_Rm_s k2 mf_7 (by rw [hn_u_eq, va_up, if_pos rfl]) e8 k2.2.2.2.2.1 k2.2.2.2.2.2⟩)
      · exact absurd (show nI s.1 ≤ 0 by rw [h0]; decide) c_4
  · have e : p_k f n s = s := if_neg h0
    rw [e]
    refine b_aload_n rfl rfl ?_
    refine b_getI rfl (by first | rfl | assumption) rfl ?_
    rw [h8]
    refine b_if_le rfl (fun c_4 => ?_) (fun c_4 => ?_)
    · exact absurd c_4 (nI_ps h0 (by omega))
    · refine b_iconst rfl ?_
      refine b_goto rfl ?_
      refine b_istore_n rfl (Nat.le_of_ble_eq_true rfl) ?_
      refine b_aload_n rfl rfl ?_
      refine b_getI rfl (by first | rfl | assumption) rfl ?_
      rw [h8]
      refine b_if_ne rfl (fun c_22 => ?_) (fun c_22 => ?_)
      · refine b_aload_n rfl rfl ?_
        refine b_dup rfl rfl ?_
        refine b_getI rfl (by first | rfl | assumption) rfl ?_
        refine b_aload_n rfl rfl ?_
        refine b_getI rfl (by first | rfl | assumption) rfl ?_
        rw [h8]
        refine b_if_le rfl (fun c_43 => ?_) (fun c_43 => ?_)
        · exact absurd c_43 (nI_ps h0 (by omega))
        · refine b_iconst rfl ?_
          refine b_goto rfl ?_
          refine b_iadd rfl ?_
          rw [h7, Int32.add_zero]
          refine b_putI rfl (by first | rfl | assumption) rfl rfl ⟨rfl, rfl⟩ ?_
          refine b_aload_n rfl rfl ?_
          refine b_getI rfl (by first | rfl | assumption) rfl ?_
          have e8 : hn_u I 188 7 (nI s.2) 188 8 = nI s.1 := (by rw [hn_u_eq, va_up, if_neg (by omega)]; exact h8)
          rw [e8]
          refine b_if_le rfl (fun c_59 => ?_) (fun c_59 => ?_)
          · exact absurd c_59 (nI_ps h0 (by omega))
          · refine b_iconst rfl ?_
            refine b_goto rfl ?_
            exact b_ireturn rfl trivial (⟨⟨0, rfl, fun z => absurd z h0⟩, _, rfl, mf_7, hs_Rm_s h mf_7 (by rw [hn_u_eq, va_up, if_pos rfl]) e8 hk hb⟩)
      · exact absurd ((hi_nIe (k := 0) (by omega) (by omega)).mp c_22) h0
theorem isN_w {f : Nat → Nat} {n k : Nat} (h : (tq f n k).1 = 1) : (hn_wres.getD (wx (tq f n k)) 0 = 0) ↔ ¬ (2 ≤ wx (tq f n k) ∧ wx (tq f n k) < 22) := by
  have hv := ((tq_9 (f := f) (n := n) k).2 h).2
  have ew : wx (tq f n k) = wi (tq f n k).2.2.2 26 := if_pos h
  have hlt := wx_lt (tq f n k)
  have h1 : ¬ wx (tq f n k) = 0 := fun z => by
    rw [ew] at z
    have := wi_of (tq f n k).2.2.2 26
    rw [z] at this
    rcases this with this | this
    · omega
    · have : 0 = (tq f n k).2.2.2 := this
      omega
  have key : ∀ i : Fin 26, ¬ i.val = 0 → ((hn_wres.getD i.val 0 = 0) ↔ ¬ (2 ≤ i.val ∧ i.val < 22)) := by decide +kernel
  exact key ⟨wx (tq f n k), hlt⟩ h1
theorem q_M_isName {f : Nat → Nat} {n E : Nat} {s : rd} (hM : hs_M R) (hW : hs_Wm J) (h : hs_Rm I J f n E s) : hn_F 2 hm_M_isName [.ref 188] (I, J, R) (fun r D' => (∃ b, r = some (.int b) ∧ fg (nAt f n s) b) ∧ D' = (I, J, R)) := by
  refine hn_F_of _ hk_M_isName rfl (Nat.le_of_ble_eq_true rfl) ?_
  obtain ⟨m1, m4, m5, m6, m9, m10, m11, m12, m14, m15, m16, m17, m20, m21, m22, m23, m25, m27, m28, m29, m30, m31, m32⟩ := id hM
  obtain ⟨hn, ht, h7, h8, hk, hb⟩ := id h
  have hE := ht.1
  have hc1 := tt_at ht hk
  have hl4 := (tq_le f n s.2).2.2
  have no : ¬ nAt f n s → (∃ b, some (Value.int 0) = some (.int b) ∧ fg (nAt f n s) b) ∧ (I, J, R) = (I, J, R) := fun z => ⟨⟨0, rfl, Or.inr ⟨z, rfl⟩⟩, rfl⟩
  by_cases h0 : s.1 = 0
  · by_cases h3 : (tq f n s.2).1 = 1
    · have hN := isN_w h3
      by_cases hc : hn_wres.getD (wx (tq f n s.2)) 0 = 0
      · have w0 : wh f n s 0 20 < 0 := (wh_n (by omega)).mpr (fun z => hN.mp hc ⟨by omega, by omega⟩)
        refine b_aload_n rfl rfl ?_
        refine b_getI rfl (by first | rfl | assumption) rfl ?_
        rw [h8]
        refine b_if_ne rfl (fun c_4 => ?_) (fun c_4 => ?_)
        · exact absurd (show nI s.1 = 0 by rw [h0]; rfl) c_4
        · refine b_aload_n rfl rfl ?_
          refine b_getR rfl (by first | rfl | assumption) rfl (by assumption) ?_
          refine b_aload_n rfl rfl ?_
          refine b_getI rfl (by first | rfl | assumption) rfl ?_
          rw [h7]
          refine b_iaload rfl (by first | rfl | assumption) (nI_toInt (n := s.2) (by omega)) (by omega) ?_
          rw [hc1.1]
          refine b_iconst rfl ?_
          refine b_icmp_ne rfl (fun c_17 => ?_) (fun c_17 => ?_)
          · exact absurd (show nI (tq f n s.2).1 = 1 by rw [h3]; rfl) c_17
          · refine b_aload_n rfl rfl ?_
            refine b_iconst rfl ?_
            refine b_bipush rfl ?_
            refine b_callV rfl rfl hk_M_wordHere rfl rfl rfl (by first | rfl | assumption) rfl (Nat.le_of_ble_eq_true rfl) (q_M_wordHere (fr := 0) (m := 20) hM hW h (by omega) rfl rfl) (Nat.le_of_ble_eq_true rfl) (fun r_24 D_24 q_24 => ?_)
            obtain ⟨rfl, rfl⟩ := q_24
            refine b_if_ge rfl (fun c_27 => ?_) (fun c_27 => ?_)
            · exact absurd w0 (Int32.not_lt.mpr c_27)
            · refine b_iconst rfl ?_
              refine b_goto rfl ?_
              exact b_ireturn rfl (by first | exact Or.inl rfl | exact Or.inr rfl | exact trivial) (⟨⟨1, rfl, Or.inl ⟨⟨h0, h3, hc⟩, rfl⟩⟩, rfl⟩)
      · have w0 : ¬ wh f n s 0 20 < 0 := fun z => (wh_n (by omega)).mp z ⟨h0, (Classical.not_not.mp (fun zz => hc (hN.mpr zz))).1, (Classical.not_not.mp (fun zz => hc (hN.mpr zz))).2⟩
        refine b_aload_n rfl rfl ?_
        refine b_getI rfl (by first | rfl | assumption) rfl ?_
        rw [h8]
        refine b_if_ne rfl (fun c_4 => ?_) (fun c_4 => ?_)
        · exact absurd (show nI s.1 = 0 by rw [h0]; rfl) c_4
        · refine b_aload_n rfl rfl ?_
          refine b_getR rfl (by first | rfl | assumption) rfl (by assumption) ?_
          refine b_aload_n rfl rfl ?_
          refine b_getI rfl (by first | rfl | assumption) rfl ?_
          rw [h7]
          refine b_iaload rfl (by first | rfl | assumption) (nI_toInt (n := s.2) (by omega)) (by omega) ?_
          rw [hc1.1]
          refine b_iconst rfl ?_
          refine b_icmp_ne rfl (fun c_17 => ?_) (fun c_17 => ?_)
          · exact absurd (show nI (tq f n s.2).1 = 1 by rw [h3]; rfl) c_17
          · refine b_aload_n rfl rfl ?_
            refine b_iconst rfl ?_
            refine b_bipush rfl ?_
            refine b_callV rfl rfl hk_M_wordHere rfl rfl rfl (by first | rfl | assumption) rfl (Nat.le_of_ble_eq_true rfl) (q_M_wordHere (fr := 0) (m := 20) hM hW h (by omega) rfl rfl) (Nat.le_of_ble_eq_true rfl) (fun r_24 D_24 q_24 => ?_)
            obtain ⟨rfl, rfl⟩ := q_24
            refine b_if_ge rfl (fun c_27 => ?_) (fun c_27 => ?_)
            · refine b_iconst rfl ?_
              exact b_ireturn rfl (by first | exact Or.inl rfl | exact Or.inr rfl | exact trivial) ((no (fun z => hc z.2.2)))
            · exact absurd (Int32.not_le.mp c_27) w0
    · refine b_aload_n rfl rfl ?_
      refine b_getI rfl (by first | rfl | assumption) rfl ?_
      rw [h8]
      refine b_if_ne rfl (fun c_4 => ?_) (fun c_4 => ?_)
      · exact absurd (show nI s.1 = 0 by rw [h0]; rfl) c_4
      · refine b_aload_n rfl rfl ?_
        refine b_getR rfl (by first | rfl | assumption) rfl (by assumption) ?_
        refine b_aload_n rfl rfl ?_
        refine b_getI rfl (by first | rfl | assumption) rfl ?_
        rw [h7]
        refine b_iaload rfl (by first | rfl | assumption) (nI_toInt (n := s.2) (by omega)) (by omega) ?_
        rw [hc1.1]
        refine b_iconst rfl ?_
        refine b_icmp_ne rfl (fun c_17 => ?_) (fun c_17 => ?_)
        · refine b_iconst rfl ?_
          exact b_ireturn rfl (by first | exact Or.inl rfl | exact Or.inr rfl | exact trivial) ((no (fun z => h3 z.2.1)))
        · exact absurd ((hi_nIe (k := 1) (by omega) (by omega)).mp c_17) h3
  · refine b_aload_n rfl rfl ?_
    refine b_getI rfl (by first | rfl | assumption) rfl ?_
    rw [h8]
    refine b_if_ne rfl (fun c_4 => ?_) (fun c_4 => ?_)
    · refine b_iconst rfl ?_
      exact b_ireturn rfl (by first | exact Or.inl rfl | exact Or.inr rfl | exact trivial) ((no (fun z => h0 z.1)))
    · exact absurd ((hi_nIe (k := 0) (by omega) (by omega)).mp c_4) h0
end HNmtakes
