section HNsettle
variable {I I' : Nat → Nat → Int32} {J J' : Nat → Nat → Int64} {R R' : Nat → Nat → Option Nat}
def st_s (r : Nat) : List Int32 → List Int32 → List Int32 × List Int32
  | [], C => ([], C)
  | y :: W, C => if r ≤ lu_rk y then st_s r W (lu_em y C) else (y :: W, C)
def st_n : List Int32 → Int32 → List Int32 → List Int32 × Int32 × List Int32
  | [], w, C => ([], w, C)
  | y :: W, w, C => if y = 10004 then st_n W (w - 1) (lu_em 10004 C) else (y :: W, w, C)
/-- what a step of the law's reading leaves -/
def hs_Lp (I : Nat → Nat → Int32) (J : Nat → Nat → Int64) (R : Nat → Nat → Option Nat) (t : Nat) (W : List Int32) (w o : Int32) (C : List Int32) (D' : hnD) : Prop := ∃ I2, D' = (I2, J, R) ∧ hs_l3 I I2 t ∧ hs_Lu I2 t W w o C
theorem lu_6 {t k : Nat} {v w o : Int32} {W C : List Int32} (hs : hs_Lu I t W w o C) : hs_l3 I (hn_u I (t + 6) k v) t := fun b h6 _ _ => hn_u_ne _ _ _ h6
theorem q_Lu_settle {t r : Nat} {w o : Int32} {W C : List Int32} (hN : hs_Net R t) (hr : r ≤ 4) (hs : hs_Lu I t W w o C) : hn_F 1 hm_Lulls_settle [.ref (t + 6), .int (nI r)] (I, J, R) (fun q D' => q = none ∧ hs_Lp I J R t (st_s r W C).1 w o (st_s r W C).2 D') := by
  refine hn_F_of _ hk_Lulls_settle rfl (Nat.le_of_ble_eq_true rfl) ?_
  have hN0 := hN
  obtain ⟨tt5, tn0, tn1, tn2, tn3, tn4, tn5, tn6, tn7, tn8, tn9, tn10, ts1, ts2, ts3, ts4, ts5, ts7, ts8, tl0, tl2, tl6, tl7⟩ := hN
  obtain ⟨Z, hZ⟩ : ∃ Z, Z = st_s r W C := ⟨_, rfl⟩
  rw [← hZ]
  obtain ⟨P, hP⟩ : ∃ P : Option Value → hnD → Prop, P = (fun q D' => q = none ∧ hs_Lp I J R t Z.1 w o Z.2 D') := ⟨_, rfl⟩
  rw [← hP]
  have lp : ∀ (W C : List Int32) (I' : Nat → Nat → Int32) (x : Int32), hs_Lu I' t W w o C → hs_l3 I I' t → x.toInt = (W.length : Int) - 1 → Z = st_s r W C → hn_B 1 hm_Lulls_settle P 7 [.ref (t + 6), .int (nI r), .int x] [] (I', J, R) := by
    intro W
    induction W with
    | nil =>
      intro C I' x h1 h3 hx hz
      have hx : x.toInt = -1 := by rw [hx]; rfl
      refine b_iload_n rfl rfl ?_
      refine b_if_lt rfl (fun c_8 => ?_) (fun c_8 => ?_)
      · exact b_return_ rfl trivial ((by rw [hP]; exact ⟨rfl, I', rfl, h3, by rw [hz]; exact h1⟩))
      · exact absurd ((hi_lt hx hi_t0).mpr (by omega)) c_8
    | cons y W ih =>
      intro C I' x h1 h3 hx hz
      have hx : x.toInt = ((W.length : Nat) : Int) := by rw [hx]; simp only [List.length_cons]; omega
      have h10 := h1
      obtain ⟨a1, a2, a3, a4, a5, a6, a7, a8⟩ := h1
      have htop := ev_in_top a5
      have hl : W.length < 64 := by simp only [List.length_cons] at a7; omega
      have hy4 := lu_rk_le y
      have hlt : nI (lu_rk y) < nI r ↔ lu_rk y < r := nI_lt_c (by omega) (by omega)
      by_cases hc : r ≤ lu_rk y
      · have hst : st_s r (y :: W) C = st_s r W (lu_em y C) := if_pos hc
        refine b_iload_n rfl rfl ?_
        refine b_if_lt rfl (fun c_8 => ?_) (fun c_8 => ?_)
        · exact absurd c_8 (fun z => by have := (hi_lt hx hi_t0).mp z; omega)
        · refine b_aload_n rfl rfl ?_
          refine b_getR rfl (by first | rfl | assumption) rfl (by assumption) ?_
          refine b_iload_n rfl rfl ?_
          refine b_iaload rfl (by first | rfl | assumption) hx (by omega) ?_
          rw [htop]
          refine b_callS rfl rfl hk_Lulls_rankOf rfl rfl rfl (Nat.le_of_ble_eq_true rfl) (q_Lulls_rankOf) (Nat.le_of_ble_eq_true rfl) (fun r_17 D_17 q_17 => ?_)
          obtain ⟨rfl, rfl⟩ := q_17
          refine b_iload_n rfl rfl ?_
          refine b_icmp_lt rfl (fun c_21 => ?_) (fun c_21 => ?_)
          · exact absurd (hlt.mp c_21) (by omega)
          · refine b_aload_n rfl rfl ?_
            refine b_aload_n rfl rfl ?_
            refine b_getR rfl (by first | rfl | assumption) rfl (by assumption) ?_
            refine b_iload_n rfl rfl ?_
            refine b_iaload rfl (by first | rfl | assumption) hx (by omega) ?_
            rw [htop]
            refine b_callV rfl rfl hk_Lulls_emit rfl rfl rfl (by first | rfl | assumption) rfl (Nat.le_of_ble_eq_true rfl) (q_Lu_emit hN0 h10) (Nat.le_of_ble_eq_true rfl) (fun r_31 D_31 q_31 => ?_)
            obtain ⟨rfl, I2, rfl, g3, k2⟩ := q_31
            obtain ⟨b1, b2, b3, b4, b5, b6, b7, b8⟩ := k2
            refine b_aload_n rfl rfl ?_
            refine b_iload_n rfl rfl ?_
            refine b_putI rfl (by first | rfl | assumption) rfl rfl ⟨rfl, rfl⟩ ?_
            have hd := hi_dec hx (by omega) (by omega)
            refine b_iinc rfl rfl (Nat.le_of_ble_eq_true rfl) ?_
            refine b_goto rfl ?_
            exact ih (lu_em y C) _ _ ⟨by rw [hn_u_eq, va_up, if_neg (by omega)]; exact b1, by rw [hn_u_eq, va_up, if_pos rfl]; exact hi_nI hx, by rw [hn_u_eq, va_up, if_neg (by omega)]; exact b3, by rw [hn_u_eq, va_up, if_neg (by omega)]; exact b4, by rw [hn_u_ne _ _ _ (by omega)]; exact ev_in_tail b5, by rw [hn_u_ne _ _ _ (by omega)]; exact b6, by omega, b8⟩ (fun b h6 h7 h8 => by rw [hn_u_ne _ _ _ h6]; exact (g3 b h6 h7 h8).trans (h3 b h6 h7 h8)) hd (by rw [hz, hst])
      · have hst : st_s r (y :: W) C = (y :: W, C) := if_neg hc
        refine b_iload_n rfl rfl ?_
        refine b_if_lt rfl (fun c_8 => ?_) (fun c_8 => ?_)
        · exact absurd c_8 (fun z => by have := (hi_lt hx hi_t0).mp z; omega)
        · refine b_aload_n rfl rfl ?_
          refine b_getR rfl (by first | rfl | assumption) rfl (by assumption) ?_
          refine b_iload_n rfl rfl ?_
          refine b_iaload rfl (by first | rfl | assumption) hx (by omega) ?_
          rw [htop]
          refine b_callS rfl rfl hk_Lulls_rankOf rfl rfl rfl (Nat.le_of_ble_eq_true rfl) (q_Lulls_rankOf) (Nat.le_of_ble_eq_true rfl) (fun r_17 D_17 q_17 => ?_)
          obtain ⟨rfl, rfl⟩ := q_17
          refine b_iload_n rfl rfl ?_
          refine b_icmp_lt rfl (fun c_21 => ?_) (fun c_21 => ?_)
          · exact b_return_ rfl trivial ((by rw [hP]; exact ⟨rfl, I', rfl, h3, by rw [hz, hst]; exact h10⟩))
          · exact absurd (hlt.mpr (by omega)) c_21
  have hw1 : (nI W.length - 1).toInt = (W.length : Int) - 1 := hi_subc (nI_toInt (by have := hs.2.2.2.2.2.2.1; omega)) hi_t1 (by omega) (by have := hs.2.2.2.2.2.2.1; omega)
  refine b_aload_n rfl rfl ?_
  refine b_getI rfl (by first | rfl | assumption) rfl ?_
  rw [hs.2.1]
  refine b_iconst rfl ?_
  refine b_isub rfl ?_
  refine b_istore_n rfl (Nat.le_of_ble_eq_true rfl) ?_
  exact lp W C I _ hs (fun _ _ _ _ => rfl) hw1 hZ
theorem q_Lu_settleNots {t : Nat} {w o : Int32} {W C : List Int32} (hN : hs_Net R t) (hs : hs_Lu I t W w o C) : hn_F 1 hm_Lulls_settleNots [.ref (t + 6)] (I, J, R) (fun q D' => q = none ∧ hs_Lp I J R t (st_n W w C).1 (st_n W w C).2.1 o (st_n W w C).2.2 D') := by
  refine hn_F_of _ hk_Lulls_settleNots rfl (Nat.le_of_ble_eq_true rfl) ?_
  have hN0 := hN
  obtain ⟨tt5, tn0, tn1, tn2, tn3, tn4, tn5, tn6, tn7, tn8, tn9, tn10, ts1, ts2, ts3, ts4, ts5, ts7, ts8, tl0, tl2, tl6, tl7⟩ := hN
  obtain ⟨Z, hZ⟩ : ∃ Z, Z = st_n W w C := ⟨_, rfl⟩
  rw [← hZ]
  obtain ⟨P, hP⟩ : ∃ P : Option Value → hnD → Prop, P = (fun q D' => q = none ∧ hs_Lp I J R t Z.1 Z.2.1 o Z.2.2 D') := ⟨_, rfl⟩
  rw [← hP]
  have lp : ∀ (W C : List Int32) (w : Int32) (I' : Nat → Nat → Int32) (x : Int32), hs_Lu I' t W w o C → hs_l3 I I' t → x.toInt = (W.length : Int) - 1 → Z = st_n W w C → hn_B 1 hm_Lulls_settleNots P 7 [.ref (t + 6), .int x] [] (I', J, R) := by
    intro W
    induction W with
    | nil =>
      intro C w I' x h1 h3 hx hz
      have hx : x.toInt = -1 := by rw [hx]; rfl
      refine b_iload_n rfl rfl ?_
      refine b_if_lt rfl (fun c_8 => ?_) (fun c_8 => ?_)
      · exact b_return_ rfl trivial ((by rw [hP]; exact ⟨rfl, I', rfl, h3, by rw [hz]; exact h1⟩))
      · exact absurd ((hi_lt hx hi_t0).mpr (by omega)) c_8
    | cons y W ih =>
      intro C w I' x h1 h3 hx hz
      have hx : x.toInt = ((W.length : Nat) : Int) := by rw [hx]; simp only [List.length_cons]; omega
      have h10 := h1
      obtain ⟨a1, a2, a3, a4, a5, a6, a7, a8⟩ := h1
      have htop := ev_in_top a5
      have hl : W.length < 64 := by simp only [List.length_cons] at a7; omega
      by_cases hc : y = 10004
      · have hst : st_n (y :: W) w C = st_n W (w - 1) (lu_em 10004 C) := if_pos hc
        refine b_iload_n rfl rfl ?_
        refine b_if_lt rfl (fun c_8 => ?_) (fun c_8 => ?_)
        · exact absurd c_8 (fun z => by have := (hi_lt hx hi_t0).mp z; omega)
        · refine b_aload_n rfl rfl ?_
          refine b_getR rfl (by first | rfl | assumption) rfl (by assumption) ?_
          refine b_iload_n rfl rfl ?_
          refine b_iaload rfl (by first | rfl | assumption) hx (by omega) ?_
          rw [htop]
          refine b_sipush rfl ?_
          refine b_icmp_ne rfl (fun c_20 => ?_) (fun c_20 => ?_)
          · exact absurd hc c_20
          · refine b_aload_n rfl rfl ?_
            refine b_sipush rfl ?_
            refine b_callV rfl rfl hk_Lulls_emit rfl rfl rfl (by first | rfl | assumption) rfl (Nat.le_of_ble_eq_true rfl) (q_Lu_emit hN0 h10) (Nat.le_of_ble_eq_true rfl) (fun r_27 D_27 q_27 => ?_)
            obtain ⟨rfl, I2, rfl, g3, k2⟩ := q_27
            obtain ⟨b1, b2, b3, b4, b5, b6, b7, b8⟩ := k2
            refine b_aload_n rfl rfl ?_
            refine b_iload_n rfl rfl ?_
            refine b_putI rfl (by first | rfl | assumption) rfl rfl ⟨rfl, rfl⟩ ?_
            refine b_aload_n rfl rfl ?_
            refine b_dup rfl rfl ?_
            refine b_getI rfl (by first | rfl | assumption) rfl ?_
            rw [hn_u_eq, va_up, if_neg (show ¬ (4 : Nat) = 3 by omega), b3]
            refine b_iconst rfl ?_
            refine b_isub rfl ?_
            refine b_putI rfl (by first | rfl | assumption) rfl rfl ⟨rfl, rfl⟩ ?_
            have hd := hi_dec hx (by omega) (by omega)
            refine b_iinc rfl rfl (Nat.le_of_ble_eq_true rfl) ?_
            refine b_goto rfl ?_
            exact ih (lu_em 10004 C) (w - 1) _ _ ⟨by rw [hn_u_eq, va_up, if_neg (by omega), hn_u_eq, va_up, if_neg (by omega)]; exact b1, by rw [hn_u_eq, va_up, if_neg (by omega), hn_u_eq, va_up, if_pos rfl]; exact hi_nI hx, by rw [hn_u_eq, va_up, if_pos rfl], by rw [hn_u_eq, va_up, if_neg (by omega), hn_u_eq, va_up, if_neg (by omega)]; exact b4, by rw [hn_u_ne _ _ _ (by omega), hn_u_ne _ _ _ (by omega)]; exact ev_in_tail b5, by rw [hn_u_ne _ _ _ (by omega), hn_u_ne _ _ _ (by omega)]; exact b6, by omega, b8⟩ (fun b h6 h7 h8 => by rw [hn_u_ne _ _ _ h6, hn_u_ne _ _ _ h6]; exact (g3 b h6 h7 h8).trans (h3 b h6 h7 h8)) hd (by rw [hz, hst])
      · have hst : st_n (y :: W) w C = (y :: W, w, C) := if_neg hc
        refine b_iload_n rfl rfl ?_
        refine b_if_lt rfl (fun c_8 => ?_) (fun c_8 => ?_)
        · exact absurd c_8 (fun z => by have := (hi_lt hx hi_t0).mp z; omega)
        · refine b_aload_n rfl rfl ?_
          refine b_getR rfl (by first | rfl | assumption) rfl (by assumption) ?_
          refine b_iload_n rfl rfl ?_
          refine b_iaload rfl (by first | rfl | assumption) hx (by omega) ?_
          rw [htop]
          refine b_sipush rfl ?_
          refine b_icmp_ne rfl (fun c_20 => ?_) (fun c_20 => ?_)
          · exact b_return_ rfl trivial ((by rw [hP]; exact ⟨rfl, I', rfl, h3, by rw [hz, hst]; exact h10⟩))
          · exact absurd c_20 hc
  have hw1 : (nI W.length - 1).toInt = (W.length : Int) - 1 := hi_subc (nI_toInt (by have := hs.2.2.2.2.2.2.1; omega)) hi_t1 (by omega) (by have := hs.2.2.2.2.2.2.1; omega)
  refine b_aload_n rfl rfl ?_
  refine b_getI rfl (by first | rfl | assumption) rfl ?_
  rw [hs.2.1]
  refine b_iconst rfl ?_
  refine b_isub rfl ?_
  refine b_istore_n rfl (Nat.le_of_ble_eq_true rfl) ?_
  exact lp W C w I _ hs (fun _ _ _ _ => rfl) hw1 hZ
/-- a bracket closed -/
def l_cb (W : List Int32) (w : Int32) (C : List Int32) : List Int32 × Int32 × List Int32 := st_n ((st_s 1 W C).1.drop 1) (w - 1) (st_s 1 W C).2
theorem hs_Lu_w {t : Nat} {w w2 o o2 : Int32} {W C : List Int32} {I2 : Nat → Nat → Int32} (h : hs_Lu I t W w o C) (e : ∀ b, b ≠ t + 6 → I2 b = I b) (e1 : I2 (t + 6) 1 = I (t + 6) 1) (e3 : I2 (t + 6) 3 = I (t + 6) 3) (e4 : I2 (t + 6) 4 = w2) (e5 : I2 (t + 6) 5 = o2) : hs_Lu I2 t W w2 o2 C := by
  obtain ⟨a1, a2, a3, a4, a5, a6, a7, a8⟩ := h
  exact ⟨by rw [e1]; exact a1, by rw [e3]; exact a2, e4, e5, by rw [e _ (by omega)]; exact a5, by rw [e _ (by omega)]; exact a6, a7, a8⟩
theorem q_Lu_closeBracket {t : Nat} {w o : Int32} {W C : List Int32} (hN : hs_Net R t) (hs : hs_Lu I t W w o C) : hn_F 2 hm_Lulls_closeBracket [.ref (t + 6)] (I, J, R) (fun q D' => q = none ∧ hs_Lp I J R t (l_cb W w C).1 (l_cb W w C).2.1 (o - 1) (l_cb W w C).2.2 D') := by
  refine hn_F_of _ hk_Lulls_closeBracket rfl (Nat.le_of_ble_eq_true rfl) ?_
  have hN0 := hN
  obtain ⟨tt5, tn0, tn1, tn2, tn3, tn4, tn5, tn6, tn7, tn8, tn9, tn10, ts1, ts2, ts3, ts4, ts5, ts7, ts8, tl0, tl2, tl6, tl7⟩ := hN
  obtain ⟨Z, hZ⟩ : ∃ Z, Z = st_s 1 W C := ⟨_, rfl⟩
  have hcb : l_cb W w C = st_n (Z.1.drop 1) (w - 1) Z.2 := by rw [hZ]; rfl
  rw [hcb]
  obtain ⟨P, hP⟩ : ∃ P : Option Value → hnD → Prop, P = (fun q D' => q = none ∧ hs_Lp I J R t (st_n (Z.1.drop 1) (w - 1) Z.2).1 (st_n (Z.1.drop 1) (w - 1) Z.2).2.1 (o - 1) (st_n (Z.1.drop 1) (w - 1) Z.2).2.2 D') := ⟨_, rfl⟩
  rw [← hP]
  have S22 : ∀ (W1 C1 : List Int32) (I1 : Nat → Nat → Int32), W1 = Z.1.drop 1 → C1 = Z.2 → hs_l3 I I1 t → hs_Lu I1 t W1 w o C1 → hn_B 2 hm_Lulls_closeBracket P 22 [.ref (t + 6)] [] (I1, J, R) := by
    intro W1 C1 I1 eW eC g1 k1
    obtain ⟨I2, hI2⟩ : ∃ z, z = hn_u (hn_u I1 (t + 6) 5 (o - 1)) (t + 6) 4 (w - 1) := ⟨_, rfl⟩
    have ef : ∀ b, b ≠ t + 6 → I2 b = I1 b := fun b h6 => by rw [hI2, hn_u_ne _ _ _ h6, hn_u_ne _ _ _ h6]
    have k2 : hs_Lu I2 t W1 (w - 1) (o - 1) C1 := hs_Lu_w k1 ef (by rw [hI2, hn_u_eq, va_up, if_neg (by omega), hn_u_eq, va_up, if_neg (by omega)]) (by rw [hI2, hn_u_eq, va_up, if_neg (by omega), hn_u_eq, va_up, if_neg (by omega)]) (by rw [hI2, hn_u_eq, va_up, if_pos rfl]) (by rw [hI2, hn_u_eq, va_up, if_neg (by omega), hn_u_eq, va_up, if_pos rfl])
    refine b_aload_n rfl rfl ?_
    refine b_dup rfl rfl ?_
    refine b_getI rfl (by first | rfl | assumption) rfl ?_
    rw [k1.2.2.2.1]
    refine b_iconst rfl ?_
    refine b_isub rfl ?_
    refine b_putI rfl (by first | rfl | assumption) rfl rfl ⟨rfl, rfl⟩ ?_
    refine b_aload_n rfl rfl ?_
    refine b_dup rfl rfl ?_
    refine b_getI rfl (by first | rfl | assumption) rfl ?_
    rw [hn_u_eq, va_up, if_neg (show ¬ (4 : Nat) = 5 by omega), k1.2.2.1]
    refine b_iconst rfl ?_
    refine b_isub rfl ?_
    refine b_putI rfl (by first | rfl | assumption) rfl rfl ⟨rfl, rfl⟩ ?_
    rw [← hI2]
    refine b_aload_n rfl rfl ?_
    refine b_callV rfl rfl hk_Lulls_settleNots rfl rfl rfl (by first | rfl | assumption) rfl (Nat.le_of_ble_eq_true rfl) (q_Lu_settleNots hN0 k2) (Nat.le_of_ble_eq_true rfl) (fun r_43 D_43 q_43 => ?_)
    obtain ⟨rfl, I3, rfl, g3, k3⟩ := q_43
    exact b_return_ rfl trivial ((by rw [hP, ← eW, ← eC]; exact ⟨rfl, I3, rfl, fun b h6 h7 h8 => (g3 b h6 h7 h8).trans ((ef b h6).trans (g1 b h6 h7 h8)), k3⟩))
  obtain ⟨Z1, Z2⟩ := Z
  cases Z1 with
  | nil =>
    refine b_aload_n rfl rfl ?_
    refine b_iconst rfl ?_
    refine b_callV rfl rfl hk_Lulls_settle rfl rfl rfl (by first | rfl | assumption) rfl (Nat.le_of_ble_eq_true rfl) (q_Lu_settle (r := 1) hN0 (by omega) hs) (Nat.le_of_ble_eq_true rfl) (fun r_2 D_2 q_2 => ?_)
    obtain ⟨rfl, I1, rfl, g1, k1⟩ := q_2
    rw [← hZ] at k1
    refine b_aload_n rfl rfl ?_
    refine b_getI rfl (by first | rfl | assumption) rfl ?_
    rw [k1.2.1]
    refine b_if_le rfl (fun c_9 => ?_) (fun c_9 => ?_)
    · exact S22 [] Z2 I1 rfl rfl g1 k1
    · exact absurd (show nI ([] : List Int32).length ≤ 0 by decide) c_9
  | cons y Z1 =>
    refine b_aload_n rfl rfl ?_
    refine b_iconst rfl ?_
    refine b_callV rfl rfl hk_Lulls_settle rfl rfl rfl (by first | rfl | assumption) rfl (Nat.le_of_ble_eq_true rfl) (q_Lu_settle (r := 1) hN0 (by omega) hs) (Nat.le_of_ble_eq_true rfl) (fun r_2 D_2 q_2 => ?_)
    obtain ⟨rfl, I1, rfl, g1, k1⟩ := q_2
    rw [← hZ] at k1
    have k10 := k1
    obtain ⟨a1, a2, a3, a4, a5, a6, a7, a8⟩ := k1
    have hlen : (y :: Z1).length = Z1.length + 1 := rfl
    have a7' : Z1.length + 1 ≤ 64 := a7
    refine b_aload_n rfl rfl ?_
    refine b_getI rfl (by first | rfl | assumption) rfl ?_
    rw [a2]
    refine b_if_le rfl (fun c_9 => ?_) (fun c_9 => ?_)
    · exact absurd c_9 (fun z => by have := (hi_le (nI_toInt (n := (y :: Z1).length) (by omega)) hi_t0).mp z; omega)
    · refine b_aload_n rfl rfl ?_
      refine b_dup rfl rfl ?_
      refine b_getI rfl (by first | rfl | assumption) rfl ?_
      rw [a2, hlen, nI_succ Z1.length]
      refine b_iconst rfl ?_
      refine b_isub rfl ?_
      rw [show nI Z1.length + 1 - 1 = nI Z1.length from Int32.add_sub_cancel _ _]
      refine b_putI rfl (by first | rfl | assumption) rfl rfl ⟨rfl, rfl⟩ ?_
      exact S22 Z1 Z2 _ rfl rfl (fun b h6 h7 h8 => by rw [hn_u_ne _ _ _ h6]; exact g1 b h6 h7 h8) ⟨by rw [hn_u_eq, va_up, if_neg (by omega)]; exact a1, by rw [hn_u_eq, va_up, if_pos rfl], by rw [hn_u_eq, va_up, if_neg (by omega)]; exact a3, by rw [hn_u_eq, va_up, if_neg (by omega)]; exact a4, by rw [hn_u_ne _ _ _ (by omega)]; exact ev_in_tail a5, by rw [hn_u_ne _ _ _ (by omega)]; exact a6, by omega, a8⟩
/-- a part taken: whether one is due still, the pile, within, open, the code -/
abbrev lst : Type := List Int32 × Int32 × Int32 × List Int32
def l_tp (v : Int32) (s : lst) : lst := if v = 10004 ∨ v = 10012 then (lu_aw v s.1, s.2.1 + 1, s.2.2.1 + (if v = 10012 then 1 else 0), s.2.2.2) else ((st_n s.1 s.2.1 (lu_em v s.2.2.2)).1, (st_n s.1 s.2.1 (lu_em v s.2.2.2)).2.1, s.2.2.1, (st_n s.1 s.2.1 (lu_em v s.2.2.2)).2.2)
abbrev hs_Ls (I : Nat → Nat → Int32) (t : Nat) (s : lst) : Prop := hs_Lu I t s.1 s.2.1 s.2.2.1 s.2.2.2
def hs_Lq (I : Nat → Nat → Int32) (J : Nat → Nat → Int64) (R : Nat → Nat → Option Nat) (t : Nat) (s : lst) (D' : hnD) : Prop := ∃ I2, D' = (I2, J, R) ∧ hs_l3 I I2 t ∧ hs_Ls I2 t s
theorem q_Lu_takePart {t : Nat} {v : Int32} {s : lst} (hN : hs_Net R t) (hs : hs_Ls I t s) : hn_F 2 hm_Lulls_takePart [.ref (t + 6), .int v] (I, J, R) (fun q D' => (∃ b, q = some (.int b) ∧ fg (v = 10004 ∨ v = 10012) b) ∧ hs_Lq I J R t (l_tp v s) D') := by
  refine hn_F_of _ hk_Lulls_takePart rfl (Nat.le_of_ble_eq_true rfl) ?_
  have hN0 := hN
  obtain ⟨tt5, tn0, tn1, tn2, tn3, tn4, tn5, tn6, tn7, tn8, tn9, tn10, ts1, ts2, ts3, ts4, ts5, ts7, ts8, tl0, tl2, tl6, tl7⟩ := hN
  obtain ⟨W, w, o, C⟩ := s
  have hs : hs_Lu I t W w o C := hs
  by_cases hc : v = 10004 ∨ v = 10012
  · have e : l_tp v (W, w, o, C) = (lu_aw v W, w + 1, o + (if v = 10012 then 1 else 0), C) := if_pos hc
    rw [e]
    obtain ⟨P, hP⟩ : ∃ P : Option Value → hnD → Prop, P = (fun q D' => (∃ b, q = some (.int b) ∧ fg (v = 10004 ∨ v = 10012) b) ∧ hs_Lq I J R t (lu_aw v W, w + 1, o + (if v = 10012 then 1 else 0), C) D') := ⟨_, rfl⟩
    rw [← hP]
    have S41 : ∀ b, b = (if v = 10012 then (1 : Int32) else 0) → hn_B 2 hm_Lulls_takePart P 41 [.ref (t + 6), .int v] [.int b, .int o, .ref (t + 6)] (hn_u I (t + 6) 4 (w + 1), J, R) := by
      intro b hb
      obtain ⟨I2, hI2⟩ : ∃ z, z = hn_u (hn_u I (t + 6) 4 (w + 1)) (t + 6) 5 (o + b) := ⟨_, rfl⟩
      have ef : ∀ b, b ≠ t + 6 → I2 b = I b := fun b h6 => by rw [hI2, hn_u_ne _ _ _ h6, hn_u_ne _ _ _ h6]
      have k2 : hs_Lu I2 t W (w + 1) (o + b) C := hs_Lu_w hs ef (by rw [hI2, hn_u_eq, va_up, if_neg (by omega), hn_u_eq, va_up, if_neg (by omega)]) (by rw [hI2, hn_u_eq, va_up, if_neg (by omega), hn_u_eq, va_up, if_neg (by omega)]) (by rw [hI2, hn_u_eq, va_up, if_neg (by omega), hn_u_eq, va_up, if_pos rfl]) (by rw [hI2, hn_u_eq, va_up, if_pos rfl])
      refine b_iadd rfl ?_
      refine b_putI rfl (by first | rfl | assumption) rfl rfl ⟨rfl, rfl⟩ ?_
      rw [← hI2]
      refine b_aload_n rfl rfl ?_
      refine b_iload_n rfl rfl ?_
      refine b_callV rfl rfl hk_Lulls_await rfl rfl rfl (by first | rfl | assumption) rfl (Nat.le_of_ble_eq_true rfl) (q_Lu_await hN0 k2) (Nat.le_of_ble_eq_true rfl) (fun r_47 D_47 q_47 => ?_)
      obtain ⟨rfl, I3, rfl, g3, k3⟩ := q_47
      refine b_iconst rfl ?_
      exact b_ireturn rfl (by first | exact Or.inl rfl | exact Or.inr rfl | exact trivial) ((by rw [hP, ← hb]; exact ⟨⟨1, rfl, Or.inl ⟨hc, rfl⟩⟩, I3, rfl, fun b h6 h7 h8 => (g3 b h6 h7 h8).trans (ef b h6), k3⟩))
    have S14 : hn_B 2 hm_Lulls_takePart P 14 [.ref (t + 6), .int v] [] (I, J, R) := by
      refine b_aload_n rfl rfl ?_
      refine b_dup rfl rfl ?_
      refine b_getI rfl (by first | rfl | assumption) rfl ?_
      rw [hs.2.2.1]
      refine b_iconst rfl ?_
      refine b_iadd rfl ?_
      refine b_putI rfl (by first | rfl | assumption) rfl rfl ⟨rfl, rfl⟩ ?_
      refine b_aload_n rfl rfl ?_
      refine b_dup rfl rfl ?_
      refine b_getI rfl (by first | rfl | assumption) rfl ?_
      rw [hn_u_eq, va_up, if_neg (show ¬ (5 : Nat) = 4 by omega), hs.2.2.2.1]
      refine b_iload_n rfl rfl ?_
      refine b_sipush rfl ?_
      refine b_icmp_ne rfl (fun c_33 => ?_) (fun c_33 => ?_)
      · refine b_iconst rfl ?_
        first | exact S41 1 (if_pos c_33).symm | exact S41 0 (if_neg c_33).symm
      · refine b_iconst rfl ?_
        refine b_goto rfl ?_
        first | exact S41 1 (if_pos c_33).symm | exact S41 0 (if_neg c_33).symm
    rcases hc with hc | hc
    · refine b_iload_n rfl rfl ?_
      refine b_sipush rfl ?_
      refine b_icmp_eq rfl (fun c_4 => ?_) (fun c_4 => ?_)
      · exact S14
      · exact absurd hc c_4
    · refine b_iload_n rfl rfl ?_
      refine b_sipush rfl ?_
      refine b_icmp_eq rfl (fun c_4 => ?_) (fun c_4 => ?_)
      · exact S14
      · refine b_iload_n rfl rfl ?_
        refine b_sipush rfl ?_
        refine b_icmp_ne rfl (fun c_11 => ?_) (fun c_11 => ?_)
        · exact absurd hc c_11
        · exact S14
  · have e : l_tp v (W, w, o, C) = ((st_n W w (lu_em v C)).1, (st_n W w (lu_em v C)).2.1, o, (st_n W w (lu_em v C)).2.2) := if_neg hc
    rw [e]
    refine b_iload_n rfl rfl ?_
    refine b_sipush rfl ?_
    refine b_icmp_eq rfl (fun c_4 => ?_) (fun c_4 => ?_)
    · exact absurd (Or.inl c_4) hc
    · refine b_iload_n rfl rfl ?_
      refine b_sipush rfl ?_
      refine b_icmp_ne rfl (fun c_11 => ?_) (fun c_11 => ?_)
      · refine b_aload_n rfl rfl ?_
        refine b_iload_n rfl rfl ?_
        refine b_callV rfl rfl hk_Lulls_emit rfl rfl rfl (by first | rfl | assumption) rfl (Nat.le_of_ble_eq_true rfl) (q_Lu_emit hN0 hs) (Nat.le_of_ble_eq_true rfl) (fun r_54 D_54 q_54 => ?_)
        obtain ⟨rfl, I1, rfl, g1, k1⟩ := q_54
        refine b_aload_n rfl rfl ?_
        refine b_callV rfl rfl hk_Lulls_settleNots rfl rfl rfl (by first | rfl | assumption) rfl (Nat.le_of_ble_eq_true rfl) (q_Lu_settleNots hN0 k1) (Nat.le_of_ble_eq_true rfl) (fun r_58 D_58 q_58 => ?_)
        obtain ⟨rfl, I2, rfl, g2, k2⟩ := q_58
        refine b_iconst rfl ?_
        exact b_ireturn rfl (by first | exact Or.inl rfl | exact Or.inr rfl | exact trivial) (⟨⟨0, rfl, Or.inr ⟨hc, rfl⟩⟩, I2, rfl, hs_l3_t g1 g2, k2⟩)
      · exact absurd (Or.inr c_11) hc
/-- an operator taken: whether it may be, what is left -/
def l_to1 (v : Int32) (s : lst) : lst := if v = -1 then s else (lu_aw v (st_s (if lu_rk v = 2 then 3 else lu_rk v) s.1 s.2.2.2).1, s.2.1, s.2.2.1, (st_s (if lu_rk v = 2 then 3 else lu_rk v) s.1 s.2.2.2).2)
abbrev tp2 (W : List Int32) : Prop := lu_rk (W.headD 0) = 2
abbrev l_to (v : Int32) (s : lst) : Prop := ¬ v = -1 ∧ ¬ (lu_rk v = 2 ∧ tp2 (st_s 3 s.1 s.2.2.2).1)
theorem q_Lu_takeOperator {t : Nat} {v : Int32} {s : lst} (hN : hs_Net R t) (hs : hs_Ls I t s) : hn_F 2 hm_Lulls_takeOperator [.ref (t + 6), .int v] (I, J, R) (fun q D' => (∃ b, q = some (.int b) ∧ fg (l_to v s) b) ∧ hs_Lq I J R t (l_to1 v s) D') := by
  refine hn_F_of _ hk_Lulls_takeOperator rfl (Nat.le_of_ble_eq_true rfl) ?_
  have hN0 := hN
  obtain ⟨tt5, tn0, tn1, tn2, tn3, tn4, tn5, tn6, tn7, tn8, tn9, tn10, ts1, ts2, ts3, ts4, ts5, ts7, ts8, tl0, tl2, tl6, tl7⟩ := hN
  obtain ⟨W, w, o, C⟩ := s
  have hs : hs_Lu I t W w o C := hs
  by_cases hv : v = -1
  · have e : l_to1 v (W, w, o, C) = (W, w, o, C) := if_pos hv
    rw [e]
    refine b_iload_n rfl rfl ?_
    refine b_iconst rfl ?_
    refine b_icmp_ne rfl (fun c_2 => ?_) (fun c_2 => ?_)
    · exact absurd hv c_2
    · refine b_iconst rfl ?_
      exact b_ireturn rfl (by first | exact Or.inl rfl | exact Or.inr rfl | exact trivial) (⟨⟨0, rfl, Or.inr ⟨fun z => z.1 hv, rfl⟩⟩, I, rfl, fun _ _ _ _ => rfl, hs⟩)
  have hr4 := lu_rk_le v
  obtain ⟨q, hq⟩ : ∃ q, q = (if lu_rk v = 2 then 3 else lu_rk v) := ⟨_, rfl⟩
  have hq4 : q ≤ 4 := by rw [hq]; split <;> omega
  obtain ⟨Z, hZ⟩ : ∃ Z, Z = st_s q W C := ⟨_, rfl⟩
  have e : l_to1 v (W, w, o, C) = (lu_aw v Z.1, w, o, Z.2) := by rw [hZ, hq]; exact if_neg hv
  rw [e]
  have etp : lu_rk v = 2 → (st_s 3 W C).1 = Z.1 := fun z => by rw [hZ, hq, if_pos z]
  obtain ⟨P, hP⟩ : ∃ P : Option Value → hnD → Prop, P = (fun q D' => (∃ b, q = some (.int b) ∧ fg (l_to v (W, w, o, C)) b) ∧ hs_Lq I J R t (lu_aw v Z.1, w, o, Z.2) D') := ⟨_, rfl⟩
  rw [← hP]
  have S63 : ∀ (b : Int32) (I1 : Nat → Nat → Int32), fg (lu_rk v = 2 ∧ tp2 Z.1) b → hs_l3 I I1 t → hs_Lu I1 t Z.1 w o Z.2 → hn_B 2 hm_Lulls_takeOperator P 63 [.ref (t + 6), .int v, .int (nI (lu_rk v)), .null] [.int b] (I1, J, R) := by
    intro b I1 hb g1 k1
    have hto : l_to v (W, w, o, C) ↔ ¬ (lu_rk v = 2 ∧ tp2 Z.1) := ⟨fun z y => z.2 ⟨y.1, by show tp2 (st_s 3 W C).1; rw [etp y.1]; exact y.2⟩, fun z => ⟨hv, fun y => z ⟨y.1, by have := y.2; rw [show (st_s 3 (W, w, o, C).1 (W, w, o, C).2.2.2).1 = Z.1 from etp y.1] at this; exact this⟩⟩⟩
    rcases hb with ⟨hy, rfl⟩ | ⟨hy, rfl⟩
    · refine b_istore_n rfl (Nat.le_of_ble_eq_true rfl) ?_
      refine b_aload_n rfl rfl ?_
      refine b_iload_n rfl rfl ?_
      refine b_callV rfl rfl hk_Lulls_await rfl rfl rfl (by first | rfl | assumption) rfl (Nat.le_of_ble_eq_true rfl) (q_Lu_await hN0 k1) (Nat.le_of_ble_eq_true rfl) (fun r_66 D_66 q_66 => ?_)
      obtain ⟨rfl, I2, rfl, g2, k2⟩ := q_66
      refine b_iload_n rfl rfl ?_
      refine b_if_ne rfl (fun c_70 => ?_) (fun c_70 => ?_)
      · refine b_iconst rfl ?_
        exact b_ireturn rfl (by first | exact Or.inl rfl | exact Or.inr rfl | exact trivial) ((by rw [hP]; exact ⟨⟨0, rfl, Or.inr ⟨fun z => hto.mp z hy, rfl⟩⟩, I2, rfl, hs_l3_t g1 g2, k2⟩))
      · exact absurd c_70 (by decide)
    · refine b_istore_n rfl (Nat.le_of_ble_eq_true rfl) ?_
      refine b_aload_n rfl rfl ?_
      refine b_iload_n rfl rfl ?_
      refine b_callV rfl rfl hk_Lulls_await rfl rfl rfl (by first | rfl | assumption) rfl (Nat.le_of_ble_eq_true rfl) (q_Lu_await hN0 k1) (Nat.le_of_ble_eq_true rfl) (fun r_66 D_66 q_66 => ?_)
      obtain ⟨rfl, I2, rfl, g2, k2⟩ := q_66
      refine b_iload_n rfl rfl ?_
      refine b_if_ne rfl (fun c_70 => ?_) (fun c_70 => ?_)
      · exact absurd rfl c_70
      · refine b_iconst rfl ?_
        refine b_goto rfl ?_
        exact b_ireturn rfl (by first | exact Or.inl rfl | exact Or.inr rfl | exact trivial) ((by rw [hP]; exact ⟨⟨1, rfl, Or.inl ⟨hto.mpr hy, rfl⟩⟩, I2, rfl, hs_l3_t g1 g2, k2⟩))
  have S25 : hn_B 2 hm_Lulls_takeOperator P 25 [.ref (t + 6), .int v, .int (nI (lu_rk v)), .null] [.int (nI q), .ref (t + 6)] (I, J, R) := by
    by_cases h2 : lu_rk v = 2
    · obtain ⟨Z1, Z2⟩ := Z
      cases Z1 with
      | nil =>
        refine b_callV rfl rfl hk_Lulls_settle rfl rfl rfl (by first | rfl | assumption) rfl (Nat.le_of_ble_eq_true rfl) (q_Lu_settle hN0 hq4 hs) (Nat.le_of_ble_eq_true rfl) (fun r_25 D_25 q_25 => ?_)
        obtain ⟨rfl, I1, rfl, g1, k1⟩ := q_25
        rw [← hZ] at k1
        refine b_iload_n rfl rfl ?_
        refine b_iconst rfl ?_
        rw [h2]
        refine b_icmp_ne rfl (fun c_30 => ?_) (fun c_30 => ?_)
        · exact absurd rfl c_30
        · refine b_aload_n rfl rfl ?_
          refine b_getI rfl (by first | rfl | assumption) rfl ?_
          rw [k1.2.1]
          refine b_if_le rfl (fun c_37 => ?_) (fun c_37 => ?_)
          · refine b_iconst rfl ?_
            exact b_lp (S63 0 I1 (Or.inr ⟨fun z => absurd z.2 (show ¬ lu_rk 0 = 2 by decide), rfl⟩) g1 k1) (le_e (le_e (le_q (by rw [h2]) (le_n le_0)))) rfl rfl
          · exact absurd (show nI ([] : List Int32).length ≤ 0 by decide) c_37
      | cons y Z1 =>
        by_cases hy2 : lu_rk y = 2
        · refine b_callV rfl rfl hk_Lulls_settle rfl rfl rfl (by first | rfl | assumption) rfl (Nat.le_of_ble_eq_true rfl) (q_Lu_settle hN0 hq4 hs) (Nat.le_of_ble_eq_true rfl) (fun r_25 D_25 q_25 => ?_)
          obtain ⟨rfl, I1, rfl, g1, k1⟩ := q_25
          rw [← hZ] at k1
          have k10 := k1
          obtain ⟨a1, a2, a3, a4, a5, a6, a7, a8⟩ := k1
          have hlen : (y :: Z1).length = Z1.length + 1 := rfl
          have a7' : Z1.length + 1 ≤ 64 := a7
          have htop := ev_in_top a5
          refine b_iload_n rfl rfl ?_
          refine b_iconst rfl ?_
          rw [h2]
          refine b_icmp_ne rfl (fun c_30 => ?_) (fun c_30 => ?_)
          · exact absurd rfl c_30
          · refine b_aload_n rfl rfl ?_
            refine b_getI rfl (by first | rfl | assumption) rfl ?_
            rw [a2]
            refine b_if_le rfl (fun c_37 => ?_) (fun c_37 => ?_)
            · exact absurd c_37 (fun z => by have := (hi_le (nI_toInt (n := (y :: Z1).length) (by omega)) hi_t0).mp z; omega)
            · refine b_aload_n rfl rfl ?_
              refine b_getR rfl (by first | rfl | assumption) rfl (by assumption) ?_
              refine b_aload_n rfl rfl ?_
              refine b_getI rfl (by first | rfl | assumption) rfl ?_
              rw [a2, hlen, nI_succ Z1.length]
              refine b_iconst rfl ?_
              refine b_isub rfl ?_
              rw [show nI Z1.length + 1 - 1 = nI Z1.length from Int32.add_sub_cancel _ _]
              refine b_iaload rfl (by first | rfl | assumption) (nI_toInt (n := Z1.length) (by omega)) (by omega) ?_
              rw [htop]
              refine b_callS rfl rfl hk_Lulls_rankOf rfl rfl rfl (Nat.le_of_ble_eq_true rfl) (q_Lulls_rankOf) (Nat.le_of_ble_eq_true rfl) (fun r_51 D_51 q_51 => ?_)
              obtain ⟨rfl, rfl⟩ := q_51
              rw [hy2]
              refine b_iconst rfl ?_
              refine b_icmp_ne rfl (fun c_55 => ?_) (fun c_55 => ?_)
              · exact absurd rfl c_55
              · refine b_iconst rfl ?_
                refine b_goto rfl ?_
                exact b_lp (S63 1 I1 (Or.inl ⟨⟨h2, hy2⟩, rfl⟩) g1 k10) (le_e (le_e (le_q (by rw [h2]) (le_n le_0)))) rfl rfl
        · have hy4 := lu_rk_le y
          refine b_callV rfl rfl hk_Lulls_settle rfl rfl rfl (by first | rfl | assumption) rfl (Nat.le_of_ble_eq_true rfl) (q_Lu_settle hN0 hq4 hs) (Nat.le_of_ble_eq_true rfl) (fun r_25 D_25 q_25 => ?_)
          obtain ⟨rfl, I1, rfl, g1, k1⟩ := q_25
          rw [← hZ] at k1
          have k10 := k1
          obtain ⟨a1, a2, a3, a4, a5, a6, a7, a8⟩ := k1
          have hlen : (y :: Z1).length = Z1.length + 1 := rfl
          have a7' : Z1.length + 1 ≤ 64 := a7
          have htop := ev_in_top a5
          refine b_iload_n rfl rfl ?_
          refine b_iconst rfl ?_
          rw [h2]
          refine b_icmp_ne rfl (fun c_30 => ?_) (fun c_30 => ?_)
          · exact absurd rfl c_30
          · refine b_aload_n rfl rfl ?_
            refine b_getI rfl (by first | rfl | assumption) rfl ?_
            rw [a2]
            refine b_if_le rfl (fun c_37 => ?_) (fun c_37 => ?_)
            · exact absurd c_37 (fun z => by have := (hi_le (nI_toInt (n := (y :: Z1).length) (by omega)) hi_t0).mp z; omega)
            · refine b_aload_n rfl rfl ?_
              refine b_getR rfl (by first | rfl | assumption) rfl (by assumption) ?_
              refine b_aload_n rfl rfl ?_
              refine b_getI rfl (by first | rfl | assumption) rfl ?_
              rw [a2, hlen, nI_succ Z1.length]
              refine b_iconst rfl ?_
              refine b_isub rfl ?_
              rw [show nI Z1.length + 1 - 1 = nI Z1.length from Int32.add_sub_cancel _ _]
              refine b_iaload rfl (by first | rfl | assumption) (nI_toInt (n := Z1.length) (by omega)) (by omega) ?_
              rw [htop]
              refine b_callS rfl rfl hk_Lulls_rankOf rfl rfl rfl (Nat.le_of_ble_eq_true rfl) (q_Lulls_rankOf) (Nat.le_of_ble_eq_true rfl) (fun r_51 D_51 q_51 => ?_)
              obtain ⟨rfl, rfl⟩ := q_51
              refine b_iconst rfl ?_
              refine b_icmp_ne rfl (fun c_55 => ?_) (fun c_55 => ?_)
              · refine b_iconst rfl ?_
                exact b_lp (S63 0 I1 (Or.inr ⟨fun z => hy2 z.2, rfl⟩) g1 k10) (le_e (le_e (le_q (by rw [h2]) (le_n le_0)))) rfl rfl
              · exact absurd ((hi_nIe (k := 2) (by omega) (by omega)).mp c_55) hy2
    · refine b_callV rfl rfl hk_Lulls_settle rfl rfl rfl (by first | rfl | assumption) rfl (Nat.le_of_ble_eq_true rfl) (q_Lu_settle hN0 hq4 hs) (Nat.le_of_ble_eq_true rfl) (fun r_25 D_25 q_25 => ?_)
      obtain ⟨rfl, I1, rfl, g1, k1⟩ := q_25
      rw [← hZ] at k1
      refine b_iload_n rfl rfl ?_
      refine b_iconst rfl ?_
      refine b_icmp_ne rfl (fun c_30 => ?_) (fun c_30 => ?_)
      · refine b_iconst rfl ?_
        exact S63 0 I1 (Or.inr ⟨fun z => h2 z.1, rfl⟩) g1 k1
      · exact absurd ((hi_nIe (k := 2) (by omega) (by omega)).mp c_30) h2
  by_cases h2 : lu_rk v = 2
  · have hq3 : q = 3 := by rw [hq, if_pos h2]
    rw [hq3] at S25
    refine b_iload_n rfl rfl ?_
    refine b_iconst rfl ?_
    refine b_icmp_ne rfl (fun c_2 => ?_) (fun c_2 => ?_)
    · refine b_iload_n rfl rfl ?_
      refine b_callS rfl rfl hk_Lulls_rankOf rfl rfl rfl (Nat.le_of_ble_eq_true rfl) (q_Lulls_rankOf) (Nat.le_of_ble_eq_true rfl) (fun r_8 D_8 q_8 => ?_)
      obtain ⟨rfl, rfl⟩ := q_8
      refine b_istore_n rfl (Nat.le_of_ble_eq_true rfl) ?_
      refine b_aload_n rfl rfl ?_
      refine b_iload_n rfl rfl ?_
      refine b_iconst rfl ?_
      refine b_icmp_ne rfl (fun c_15 => ?_) (fun c_15 => ?_)
      · exact absurd (show nI (lu_rk v) = 2 by rw [h2]; rfl) c_15
      · refine b_iload_n rfl rfl ?_
        refine b_iconst rfl ?_
        refine b_iadd rfl ?_
        refine b_goto rfl ?_
        exact b_eq S25 rfl (by rw [h2]; rfl) rfl
    · exact absurd c_2 hv
  · have hq3 : q = lu_rk v := by rw [hq, if_neg h2]
    rw [hq3] at S25
    refine b_iload_n rfl rfl ?_
    refine b_iconst rfl ?_
    refine b_icmp_ne rfl (fun c_2 => ?_) (fun c_2 => ?_)
    · refine b_iload_n rfl rfl ?_
      refine b_callS rfl rfl hk_Lulls_rankOf rfl rfl rfl (Nat.le_of_ble_eq_true rfl) (q_Lulls_rankOf) (Nat.le_of_ble_eq_true rfl) (fun r_8 D_8 q_8 => ?_)
      obtain ⟨rfl, rfl⟩ := q_8
      refine b_istore_n rfl (Nat.le_of_ble_eq_true rfl) ?_
      refine b_aload_n rfl rfl ?_
      refine b_iload_n rfl rfl ?_
      refine b_iconst rfl ?_
      refine b_icmp_ne rfl (fun c_15 => ?_) (fun c_15 => ?_)
      · refine b_iload_n rfl rfl ?_
        exact S25
      · exact absurd ((hi_nIe (k := 2) (by omega) (by omega)).mp c_15) h2
    · exact absurd c_2 hv
end HNsettle
