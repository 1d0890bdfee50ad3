section HNfirst
variable {I : Nat → Nat → Int32} {J : Nat → Nat → Int64} {R : Nat → Nat → Option Nat}
theorem st_ne {a b : Nat} (h : b ≠ a) : st_R R a b = R b := by unfold st_R; rw [hn_u_ne _ _ _ h, hn_u_ne _ _ _ h, hn_u_ne _ _ _ h, hn_u_ne _ _ _ h]
theorem sn_ne {a b : Nat} (h : b ≠ a) : sn_R R a b = R b := by unfold sn_R; rw [hn_u_ne _ _ _ h, hn_u_ne _ _ _ h, hn_u_ne _ _ _ h]
theorem c_Reader_init {a y : Nat} (k0 : hn_kind a = (0, 2)) (ha : a + 1 ≤ 5000) : hn_E true 1 0 0 hm_Reader_init [.ref a, .ref y] (a + 1) (I, J, R) (fun r n' D' => r = none ∧ n' = a + 1 ∧ D' = (I, J, hn_u R a 0 (some y))) := by
  refine hn_E_of _ hk_Reader_init rfl (Nat.le_of_ble_eq_true rfl) ?_
  refine hn_aload_n rfl rfl ?_
  refine hn_objInit rfl rfl (Nat.le_of_ble_eq_true rfl) (by omega) (Nat.le_of_ble_eq_true rfl) ?_
  refine hn_aload_n rfl rfl ?_
  refine hn_aload_n rfl rfl ?_
  refine hn_putRF rfl k0 (by omega) rfl rfl rfl rfl (fun _ => ⟨rfl, rfl⟩) ?_
  exact hn_return_ (st := []) rfl trivial ⟨rfl, rfl, rfl⟩
def xR (R : Nat → Nat → Option Nat) : Nat → Nat → Option Nat := hn_u (hn_u (hn_u (se_R (hn_u (wy_R (hn_u (sn_R (hn_u (st_R (hn_u (sn_R (hn_u (st_R (hn_u (sn_R (hn_u (st_R (hn_u (sn_R (hn_u (st_R (hn_u (hn_u (hn_u (hn_u (sn_R (hn_u (st_R (hn_u (st_R (hn_u (st_R (hn_u (st_R (hn_u (st_R (hn_u (st_R (hn_u (st_R (hn_u (st_R (hn_u (st_R (hn_u (st_R (hn_u (st_R (hn_u (st_R (hn_u (st_R (hn_u (st_R (hn_u (st_R (hn_u (st_R (hn_u (hn_u (st_R (hn_u (st_R (hn_u (re_R (hn_u (re_R (hn_u (nt_R (hn_u (nt_R (hn_u (hn_u (hn_u (ta_R R 1) 0 0 (some 1)) 3 0 (some 1)) 0 1 (some 3)) 4) 0 2 (some 4)) 20) 0 3 (some 20)) 36) 0 4 (some 36)) 40) 0 5 (some 40)) 44) 0 6 (some 44)) 49) 0 7 (some 49)) 0 8 (some 54)) 55) 54 0 (some 55)) 60) 54 1 (some 60)) 65) 54 2 (some 65)) 70) 54 3 (some 70)) 75) 54 4 (some 75)) 80) 54 5 (some 80)) 85) 54 6 (some 85)) 90) 54 7 (some 90)) 95) 54 8 (some 95)) 100) 54 9 (some 100)) 105) 54 10 (some 105)) 110) 54 11 (some 110)) 115) 54 12 (some 115)) 120) 54 13 (some 120)) 125) 54 14 (some 125)) 130) 54 15 (some 130)) 135) 0 11 (some 135)) 0 12 (some 139)) 0 13 (some 140)) 0 14 (some 141)) 142) 139 0 (some 142)) 147) 140 0 (some 147)) 151) 139 1 (some 151)) 156) 140 1 (some 156)) 160) 139 2 (some 160)) 165) 140 2 (some 165)) 169) 139 3 (some 169)) 174) 140 3 (some 174)) 178) 0 15 (some 178)) 183) 0 16 (some 183)) 0 17 (some 186)) 0 18 (some 187)
set_option maxRecDepth 100000 in
theorem c_X_init (hz : hs_z0 I J R 1) : hn_E true 3 187 4815 hm_X_init [.ref 0] 1 (I, J, R) (fun r n' D' => r = none ∧ n' = 188 ∧ D' = (I, J, xR R)) := by
  refine hn_E_of _ hk_X_init rfl (Nat.le_of_ble_eq_true rfl) ?_
  refine hn_aload_n rfl rfl ?_
  refine hn_objInit rfl rfl (Nat.le_of_ble_eq_true rfl) (by omega) (Nat.le_of_ble_eq_true rfl) ?_
  refine hn_aload_n rfl rfl ?_
  refine hn_new (kc2 := 186) (ks2 := 4806) rfl rfl rfl (by omega) (by decide) rfl rfl ?_
  rw [hz_z (a := 1) hz (by omega) (by omega)]
  refine hn_nn (m := 2) rfl ?_
  refine hn_dup rfl rfl ?_
  refine hn_callI (kc2 := 185) (ks2 := 3806) rfl rfl (by decide) hk_Tape_init rfl rfl rfl rfl (Nat.le_of_ble_eq_true rfl) (c_Tape_init (by decide +kernel) (by omega) (z0_m hz (by omega))) (by omega) rfl rfl (fun r n D h _ => by have := h.2.1; omega) (fun r n' D' q => ?_)
  obtain ⟨rfl, rfl, rfl⟩ := q
  refine hn_nn (m := 3) rfl ?_
  obtain ⟨x1, hx1⟩ : ∃ z, z = ta_R R 1 := ⟨_, rfl⟩
  rw [← hx1]
  have zx1 : hs_z0 I J x1 (3) := by rw [hx1]; exact z0_ta (z0_m hz (by omega)) (by omega)
  refine hn_putRF rfl rfl (by omega) rfl rfl rfl rfl (fun _ => ⟨rfl, rfl⟩) ?_
  obtain ⟨x2, hx2⟩ : ∃ z, z = hn_u x1 0 0 (some 1) := ⟨_, rfl⟩
  rw [← hx2]
  have zx2 : hs_z0 I J x2 (3) := by rw [hx2]; exact z0_u (z0_m zx1 (by omega)) (by omega)
  have g0_x2 : x2 0 0 = some 1 := by rw [hx2, hn_u_eq, va_up, if_pos rfl]
  refine hn_aload_n rfl rfl ?_
  refine hn_new (kc2 := 184) (ks2 := 3804) rfl rfl rfl (by omega) (by decide) rfl rfl ?_
  rw [hz_z (a := 3) zx2 (by omega) (by omega)]
  refine hn_nn (m := 4) rfl ?_
  refine hn_dup rfl rfl ?_
  refine hn_aload_n rfl rfl ?_
  refine hn_getR rfl rfl (by omega) rfl g0_x2 ?_
  refine hn_callI (kc2 := 184) (ks2 := 3804) rfl rfl (by decide) hk_Reader_init rfl rfl rfl rfl (Nat.le_of_ble_eq_true rfl) (c_Reader_init rfl (by omega)) (by omega) rfl rfl (fun r n D h _ => by have := h.2.1; omega) (fun r n' D' q => ?_)
  obtain ⟨rfl, rfl, rfl⟩ := q
  obtain ⟨x3, hx3⟩ : ∃ z, z = hn_u x2 3 0 (some 1) := ⟨_, rfl⟩
  rw [← hx3]
  have zx3 : hs_z0 I J x3 (4) := by rw [hx3]; exact z0_u (z0_m zx2 (by omega)) (by omega)
  refine hn_putRF rfl rfl (by omega) rfl rfl rfl rfl (fun _ => ⟨rfl, rfl⟩) ?_
  obtain ⟨x4, hx4⟩ : ∃ z, z = hn_u x3 0 1 (some 3) := ⟨_, rfl⟩
  rw [← hx4]
  have zx4 : hs_z0 I J x4 (4) := by rw [hx4]; exact z0_u (z0_m zx3 (by omega)) (by omega)
  refine hn_aload_n rfl rfl ?_
  refine hn_new (kc2 := 183) (ks2 := 3795) rfl rfl rfl (by omega) (by decide) rfl rfl ?_
  rw [hz_z (a := 4) zx4 (by omega) (by omega)]
  refine hn_nn (m := 5) rfl ?_
  refine hn_dup rfl rfl ?_
  refine hn_callI (kc2 := 168) (ks2 := 2592) rfl rfl (by decide) hk_Net_init rfl rfl rfl rfl (Nat.le_of_ble_eq_true rfl) (c_Net_init (by decide +kernel) (by omega) (z0_m zx4 (by omega))) (by omega) rfl rfl (fun r n D h _ => by have := h.2.1; omega) (fun r n' D' q => ?_)
  obtain ⟨rfl, rfl, rfl⟩ := q
  refine hn_nn (m := 20) rfl ?_
  obtain ⟨x5, hx5⟩ : ∃ z, z = nt_R x4 4 := ⟨_, rfl⟩
  rw [← hx5]
  have zx5 : hs_z0 I J x5 (20) := by rw [hx5]; exact z0_nt (z0_m zx4 (by omega)) (by omega)
  refine hn_putR rfl rfl (by omega) rfl rfl (fun _ => ⟨rfl, rfl⟩) ?_
  obtain ⟨x6, hx6⟩ : ∃ z, z = hn_u x5 0 2 (some 4) := ⟨_, rfl⟩
  rw [← hx6]
  have zx6 : hs_z0 I J x6 (20) := by rw [hx6]; exact z0_u (z0_m zx5 (by omega)) (by omega)
  refine hn_aload_n rfl rfl ?_
  refine hn_new (kc2 := 167) (ks2 := 2583) rfl rfl rfl (by omega) (by decide) rfl rfl ?_
  rw [hz_z (a := 20) zx6 (by omega) (by omega)]
  refine hn_nn (m := 21) rfl ?_
  refine hn_dup rfl rfl ?_
  refine hn_callI (kc2 := 152) (ks2 := 1380) rfl rfl (by decide) hk_Net_init rfl rfl rfl rfl (Nat.le_of_ble_eq_true rfl) (c_Net_init (by decide +kernel) (by omega) (z0_m zx6 (by omega))) (by omega) rfl rfl (fun r n D h _ => by have := h.2.1; omega) (fun r n' D' q => ?_)
  obtain ⟨rfl, rfl, rfl⟩ := q
  refine hn_nn (m := 36) rfl ?_
  obtain ⟨x7, hx7⟩ : ∃ z, z = nt_R x6 20 := ⟨_, rfl⟩
  rw [← hx7]
  have zx7 : hs_z0 I J x7 (36) := by rw [hx7]; exact z0_nt (z0_m zx6 (by omega)) (by omega)
  refine hn_putR rfl rfl (by omega) rfl rfl (fun _ => ⟨rfl, rfl⟩) ?_
  obtain ⟨x8, hx8⟩ : ∃ z, z = hn_u x7 0 3 (some 20) := ⟨_, rfl⟩
  rw [← hx8]
  have zx8 : hs_z0 I J x8 (36) := by rw [hx8]; exact z0_u (z0_m zx7 (by omega)) (by omega)
  refine hn_aload_n rfl rfl ?_
  refine hn_new (kc2 := 151) (ks2 := 1376) rfl rfl rfl (by omega) (by decide) rfl rfl ?_
  rw [hz_z (a := 36) zx8 (by omega) (by omega)]
  refine hn_nn (m := 37) rfl ?_
  refine hn_dup rfl rfl ?_
  refine hn_callI (kc2 := 148) (ks2 := 1256) rfl rfl (by decide) hk_Rest_init rfl rfl rfl rfl (Nat.le_of_ble_eq_true rfl) (c_Rest_init (by decide +kernel) (by omega) (z0_m zx8 (by omega))) (by omega) rfl rfl (fun r n D h _ => by have := h.2.1; omega) (fun r n' D' q => ?_)
  obtain ⟨rfl, rfl, rfl⟩ := q
  refine hn_nn (m := 40) rfl ?_
  obtain ⟨x9, hx9⟩ : ∃ z, z = re_R x8 36 := ⟨_, rfl⟩
  rw [← hx9]
  have zx9 : hs_z0 I J x9 (40) := by rw [hx9]; exact z0_re (z0_m zx8 (by omega)) (by omega)
  refine hn_putR rfl rfl (by omega) rfl rfl (fun _ => ⟨rfl, rfl⟩) ?_
  obtain ⟨x10, hx10⟩ : ∃ z, z = hn_u x9 0 4 (some 36) := ⟨_, rfl⟩
  rw [← hx10]
  have zx10 : hs_z0 I J x10 (40) := by rw [hx10]; exact z0_u (z0_m zx9 (by omega)) (by omega)
  refine hn_aload_n rfl rfl ?_
  refine hn_new (kc2 := 147) (ks2 := 1252) rfl rfl rfl (by omega) (by decide) rfl rfl ?_
  rw [hz_z (a := 40) zx10 (by omega) (by omega)]
  refine hn_nn (m := 41) rfl ?_
  refine hn_dup rfl rfl ?_
  refine hn_callI (kc2 := 144) (ks2 := 1132) rfl rfl (by decide) hk_Rest_init rfl rfl rfl rfl (Nat.le_of_ble_eq_true rfl) (c_Rest_init (by decide +kernel) (by omega) (z0_m zx10 (by omega))) (by omega) rfl rfl (fun r n D h _ => by have := h.2.1; omega) (fun r n' D' q => ?_)
  obtain ⟨rfl, rfl, rfl⟩ := q
  refine hn_nn (m := 44) rfl ?_
  obtain ⟨x11, hx11⟩ : ∃ z, z = re_R x10 40 := ⟨_, rfl⟩
  rw [← hx11]
  have zx11 : hs_z0 I J x11 (44) := by rw [hx11]; exact z0_re (z0_m zx10 (by omega)) (by omega)
  refine hn_putR rfl rfl (by omega) rfl rfl (fun _ => ⟨rfl, rfl⟩) ?_
  obtain ⟨x12, hx12⟩ : ∃ z, z = hn_u x11 0 5 (some 40) := ⟨_, rfl⟩
  rw [← hx12]
  have zx12 : hs_z0 I J x12 (44) := by rw [hx12]; exact z0_u (z0_m zx11 (by omega)) (by omega)
  refine hn_aload_n rfl rfl ?_
  refine hn_new (kc2 := 143) (ks2 := 1125) rfl rfl rfl (by omega) (by decide) rfl rfl ?_
  rw [hz_z (a := 44) zx12 (by omega) (by omega)]
  refine hn_nn (m := 45) rfl ?_
  refine hn_dup rfl rfl ?_
  refine hn_callI (kc2 := 139) (ks2 := 1105) rfl rfl (by decide) hk_State_init rfl rfl rfl rfl (Nat.le_of_ble_eq_true rfl) (c_State_init (by decide +kernel) (by omega) (z0_m zx12 (by omega))) (by omega) rfl rfl (fun r n D h _ => by have := h.2.1; omega) (fun r n' D' q => ?_)
  obtain ⟨rfl, rfl, rfl⟩ := q
  refine hn_nn (m := 49) rfl ?_
  obtain ⟨x13, hx13⟩ : ∃ z, z = st_R x12 44 := ⟨_, rfl⟩
  rw [← hx13]
  have zx13 : hs_z0 I J x13 (49) := by rw [hx13]; exact z0_st (z0_m zx12 (by omega)) (by omega)
  refine hn_putRF rfl rfl (by omega) rfl rfl rfl rfl (fun _ => ⟨rfl, rfl⟩) ?_
  obtain ⟨x14, hx14⟩ : ∃ z, z = hn_u x13 0 6 (some 44) := ⟨_, rfl⟩
  rw [← hx14]
  have zx14 : hs_z0 I J x14 (49) := by rw [hx14]; exact z0_u (z0_m zx13 (by omega)) (by omega)
  refine hn_aload_n rfl rfl ?_
  refine hn_new (kc2 := 138) (ks2 := 1098) rfl rfl rfl (by omega) (by decide) rfl rfl ?_
  rw [hz_z (a := 49) zx14 (by omega) (by omega)]
  refine hn_nn (m := 50) rfl ?_
  refine hn_dup rfl rfl ?_
  refine hn_callI (kc2 := 134) (ks2 := 1078) rfl rfl (by decide) hk_State_init rfl rfl rfl rfl (Nat.le_of_ble_eq_true rfl) (c_State_init (by decide +kernel) (by omega) (z0_m zx14 (by omega))) (by omega) rfl rfl (fun r n D h _ => by have := h.2.1; omega) (fun r n' D' q => ?_)
  obtain ⟨rfl, rfl, rfl⟩ := q
  refine hn_nn (m := 54) rfl ?_
  obtain ⟨x15, hx15⟩ : ∃ z, z = st_R x14 49 := ⟨_, rfl⟩
  rw [← hx15]
  have zx15 : hs_z0 I J x15 (54) := by rw [hx15]; exact z0_st (z0_m zx14 (by omega)) (by omega)
  refine hn_putRF rfl rfl (by omega) rfl rfl rfl rfl (fun _ => ⟨rfl, rfl⟩) ?_
  obtain ⟨x16, hx16⟩ : ∃ z, z = hn_u x15 0 7 (some 49) := ⟨_, rfl⟩
  rw [← hx16]
  have zx16 : hs_z0 I J x16 (54) := by rw [hx16]; exact z0_u (z0_m zx15 (by omega)) (by omega)
  refine hn_aload_n rfl rfl ?_
  refine hn_bipush rfl ?_
  refine hn_anewarray (z := 16) (kc2 := 133) (ks2 := 1062) rfl rfl (by decide) (by decide) (by omega) (by omega) rfl rfl ?_
  rw [hz_z (a := 54) zx16 (by omega) (by omega)]
  refine hn_nn (m := 55) rfl ?_
  refine hn_putRF rfl rfl (by omega) rfl rfl rfl rfl (fun _ => ⟨rfl, rfl⟩) ?_
  obtain ⟨x17, hx17⟩ : ∃ z, z = hn_u x16 0 8 (some 54) := ⟨_, rfl⟩
  rw [← hx17]
  have zx17 : hs_z0 I J x17 (55) := by rw [hx17]; exact z0_u (z0_m zx16 (by omega)) (by omega)
  have g8_x17 : x17 0 8 = some 54 := by rw [hx17, hn_u_eq, va_up, if_pos rfl]
  refine hn_iconst rfl ?_
  refine hn_istore_n rfl (Nat.le_of_ble_eq_true rfl) ?_
  refine hn_iload_n rfl rfl ?_
  refine hn_bipush rfl ?_
  refine hn_icmp_ge rfl (fun c => absurd c (show ¬ (16 : Int32) ≤ 0 by decide)) (fun _ => ?_)
  refine hn_aload_n rfl rfl ?_
  refine hn_getR rfl rfl (by omega) rfl g8_x17 ?_
  refine hn_iload_n rfl rfl ?_
  refine hn_new (kc2 := 132) (ks2 := 1055) rfl rfl rfl (by omega) (by decide) rfl rfl ?_
  rw [hz_z (a := 55) zx17 (by omega) (by omega)]
  refine hn_nn (m := 56) rfl ?_
  refine hn_dup rfl rfl ?_
  refine hn_callI (kc2 := 128) (ks2 := 1035) rfl rfl (by decide) hk_State_init rfl rfl rfl rfl (Nat.le_of_ble_eq_true rfl) (c_State_init (by decide +kernel) (by omega) (z0_m zx17 (by omega))) (by omega) rfl rfl (fun r n D h _ => by have := h.2.1; omega) (fun r n' D' q => ?_)
  obtain ⟨rfl, rfl, rfl⟩ := q
  refine hn_nn (m := 60) rfl ?_
  obtain ⟨x18, hx18⟩ : ∃ z, z = st_R x17 55 := ⟨_, rfl⟩
  rw [← hx18]
  have zx18 : hs_z0 I J x18 (60) := by rw [hx18]; exact z0_st (z0_m zx17 (by omega)) (by omega)
  have g8_x18 : x18 0 8 = some 54 := by rw [hx18, st_ne (by omega)]; exact g8_x17
  refine hn_aastore rfl rfl (by decide) (by omega) (show (0 : Int32).toInt = ((0 : Nat) : Int) by decide) (by omega) (by omega) rfl ?_
  obtain ⟨x19, hx19⟩ : ∃ z, z = hn_u x18 54 0 (some 55) := ⟨_, rfl⟩
  rw [← hx19]
  have zx19 : hs_z0 I J x19 (60) := by rw [hx19]; exact z0_u (z0_m zx18 (by omega)) (by omega)
  have g8_x19 : x19 0 8 = some 54 := by rw [hx19, hn_u_ne _ _ _ (by omega)]; exact g8_x18
  refine hn_iinc (v := .null) rfl rfl (Nat.le_of_ble_eq_true rfl) ?_
  refine hn_goto rfl ?_
  refine hn_iload_n rfl rfl ?_
  refine hn_bipush rfl ?_
  refine hn_icmp_ge rfl (fun c => absurd c (show ¬ (16 : Int32) ≤ 0 + 1 by decide)) (fun _ => ?_)
  refine hn_aload_n rfl rfl ?_
  refine hn_getR rfl rfl (by omega) rfl g8_x19 ?_
  refine hn_iload_n rfl rfl ?_
  refine hn_new (kc2 := 127) (ks2 := 1028) rfl rfl rfl (by omega) (by decide) rfl rfl ?_
  rw [hz_z (a := 60) zx19 (by omega) (by omega)]
  refine hn_nn (m := 61) rfl ?_
  refine hn_dup rfl rfl ?_
  refine hn_callI (kc2 := 123) (ks2 := 1008) rfl rfl (by decide) hk_State_init rfl rfl rfl rfl (Nat.le_of_ble_eq_true rfl) (c_State_init (by decide +kernel) (by omega) (z0_m zx19 (by omega))) (by omega) rfl rfl (fun r n D h _ => by have := h.2.1; omega) (fun r n' D' q => ?_)
  obtain ⟨rfl, rfl, rfl⟩ := q
  refine hn_nn (m := 65) rfl ?_
  obtain ⟨x20, hx20⟩ : ∃ z, z = st_R x19 60 := ⟨_, rfl⟩
  rw [← hx20]
  have zx20 : hs_z0 I J x20 (65) := by rw [hx20]; exact z0_st (z0_m zx19 (by omega)) (by omega)
  have g8_x20 : x20 0 8 = some 54 := by rw [hx20, st_ne (by omega)]; exact g8_x19
  refine hn_aastore rfl rfl (by decide) (by omega) (show (0 + 1 : Int32).toInt = ((1 : Nat) : Int) by decide) (by omega) (by omega) rfl ?_
  obtain ⟨x21, hx21⟩ : ∃ z, z = hn_u x20 54 1 (some 60) := ⟨_, rfl⟩
  rw [← hx21]
  have zx21 : hs_z0 I J x21 (65) := by rw [hx21]; exact z0_u (z0_m zx20 (by omega)) (by omega)
  have g8_x21 : x21 0 8 = some 54 := by rw [hx21, hn_u_ne _ _ _ (by omega)]; exact g8_x20
  refine hn_iinc (v := .null) rfl rfl (Nat.le_of_ble_eq_true rfl) ?_
  refine hn_goto rfl ?_
  refine hn_iload_n rfl rfl ?_
  refine hn_bipush rfl ?_
  refine hn_icmp_ge rfl (fun c => absurd c (show ¬ (16 : Int32) ≤ 0 + 1 + 1 by decide)) (fun _ => ?_)
  refine hn_aload_n rfl rfl ?_
  refine hn_getR rfl rfl (by omega) rfl g8_x21 ?_
  refine hn_iload_n rfl rfl ?_
  refine hn_new (kc2 := 122) (ks2 := 1001) rfl rfl rfl (by omega) (by decide) rfl rfl ?_
  rw [hz_z (a := 65) zx21 (by omega) (by omega)]
  refine hn_nn (m := 66) rfl ?_
  refine hn_dup rfl rfl ?_
  refine hn_callI (kc2 := 118) (ks2 := 981) rfl rfl (by decide) hk_State_init rfl rfl rfl rfl (Nat.le_of_ble_eq_true rfl) (c_State_init (by decide +kernel) (by omega) (z0_m zx21 (by omega))) (by omega) rfl rfl (fun r n D h _ => by have := h.2.1; omega) (fun r n' D' q => ?_)
  obtain ⟨rfl, rfl, rfl⟩ := q
  refine hn_nn (m := 70) rfl ?_
  obtain ⟨x22, hx22⟩ : ∃ z, z = st_R x21 65 := ⟨_, rfl⟩
  rw [← hx22]
  have zx22 : hs_z0 I J x22 (70) := by rw [hx22]; exact z0_st (z0_m zx21 (by omega)) (by omega)
  have g8_x22 : x22 0 8 = some 54 := by rw [hx22, st_ne (by omega)]; exact g8_x21
  refine hn_aastore rfl rfl (by decide) (by omega) (show (0 + 1 + 1 : Int32).toInt = ((2 : Nat) : Int) by decide) (by omega) (by omega) rfl ?_
  obtain ⟨x23, hx23⟩ : ∃ z, z = hn_u x22 54 2 (some 65) := ⟨_, rfl⟩
  rw [← hx23]
  have zx23 : hs_z0 I J x23 (70) := by rw [hx23]; exact z0_u (z0_m zx22 (by omega)) (by omega)
  have g8_x23 : x23 0 8 = some 54 := by rw [hx23, hn_u_ne _ _ _ (by omega)]; exact g8_x22
  refine hn_iinc (v := .null) rfl rfl (Nat.le_of_ble_eq_true rfl) ?_
  refine hn_goto rfl ?_
  refine hn_iload_n rfl rfl ?_
  refine hn_bipush rfl ?_
  refine hn_icmp_ge rfl (fun c => absurd c (show ¬ (16 : Int32) ≤ 0 + 1 + 1 + 1 by decide)) (fun _ => ?_)
  refine hn_aload_n rfl rfl ?_
  refine hn_getR rfl rfl (by omega) rfl g8_x23 ?_
  refine hn_iload_n rfl rfl ?_
  refine hn_new (kc2 := 117) (ks2 := 974) rfl rfl rfl (by omega) (by decide) rfl rfl ?_
  rw [hz_z (a := 70) zx23 (by omega) (by omega)]
  refine hn_nn (m := 71) rfl ?_
  refine hn_dup rfl rfl ?_
  refine hn_callI (kc2 := 113) (ks2 := 954) rfl rfl (by decide) hk_State_init rfl rfl rfl rfl (Nat.le_of_ble_eq_true rfl) (c_State_init (by decide +kernel) (by omega) (z0_m zx23 (by omega))) (by omega) rfl rfl (fun r n D h _ => by have := h.2.1; omega) (fun r n' D' q => ?_)
  obtain ⟨rfl, rfl, rfl⟩ := q
  refine hn_nn (m := 75) rfl ?_
  obtain ⟨x24, hx24⟩ : ∃ z, z = st_R x23 70 := ⟨_, rfl⟩
  rw [← hx24]
  have zx24 : hs_z0 I J x24 (75) := by rw [hx24]; exact z0_st (z0_m zx23 (by omega)) (by omega)
  have g8_x24 : x24 0 8 = some 54 := by rw [hx24, st_ne (by omega)]; exact g8_x23
  refine hn_aastore rfl rfl (by decide) (by omega) (show (0 + 1 + 1 + 1 : Int32).toInt = ((3 : Nat) : Int) by decide) (by omega) (by omega) rfl ?_
  obtain ⟨x25, hx25⟩ : ∃ z, z = hn_u x24 54 3 (some 70) := ⟨_, rfl⟩
  rw [← hx25]
  have zx25 : hs_z0 I J x25 (75) := by rw [hx25]; exact z0_u (z0_m zx24 (by omega)) (by omega)
  have g8_x25 : x25 0 8 = some 54 := by rw [hx25, hn_u_ne _ _ _ (by omega)]; exact g8_x24
  refine hn_iinc (v := .null) rfl rfl (Nat.le_of_ble_eq_true rfl) ?_
  refine hn_goto rfl ?_
  refine hn_iload_n rfl rfl ?_
  refine hn_bipush rfl ?_
  refine hn_icmp_ge rfl (fun c => absurd c (show ¬ (16 : Int32) ≤ 0 + 1 + 1 + 1 + 1 by decide)) (fun _ => ?_)
  refine hn_aload_n rfl rfl ?_
  refine hn_getR rfl rfl (by omega) rfl g8_x25 ?_
  refine hn_iload_n rfl rfl ?_
  refine hn_new (kc2 := 112) (ks2 := 947) rfl rfl rfl (by omega) (by decide) rfl rfl ?_
  rw [hz_z (a := 75) zx25 (by omega) (by omega)]
  refine hn_nn (m := 76) rfl ?_
  refine hn_dup rfl rfl ?_
  refine hn_callI (kc2 := 108) (ks2 := 927) rfl rfl (by decide) hk_State_init rfl rfl rfl rfl (Nat.le_of_ble_eq_true rfl) (c_State_init (by decide +kernel) (by omega) (z0_m zx25 (by omega))) (by omega) rfl rfl (fun r n D h _ => by have := h.2.1; omega) (fun r n' D' q => ?_)
  obtain ⟨rfl, rfl, rfl⟩ := q
  refine hn_nn (m := 80) rfl ?_
  obtain ⟨x26, hx26⟩ : ∃ z, z = st_R x25 75 := ⟨_, rfl⟩
  rw [← hx26]
  have zx26 : hs_z0 I J x26 (80) := by rw [hx26]; exact z0_st (z0_m zx25 (by omega)) (by omega)
  have g8_x26 : x26 0 8 = some 54 := by rw [hx26, st_ne (by omega)]; exact g8_x25
  refine hn_aastore rfl rfl (by decide) (by omega) (show (0 + 1 + 1 + 1 + 1 : Int32).toInt = ((4 : Nat) : Int) by decide) (by omega) (by omega) rfl ?_
  obtain ⟨x27, hx27⟩ : ∃ z, z = hn_u x26 54 4 (some 75) := ⟨_, rfl⟩
  rw [← hx27]
  have zx27 : hs_z0 I J x27 (80) := by rw [hx27]; exact z0_u (z0_m zx26 (by omega)) (by omega)
  have g8_x27 : x27 0 8 = some 54 := by rw [hx27, hn_u_ne _ _ _ (by omega)]; exact g8_x26
  refine hn_iinc (v := .null) rfl rfl (Nat.le_of_ble_eq_true rfl) ?_
  refine hn_goto rfl ?_
  refine hn_iload_n rfl rfl ?_
  refine hn_bipush rfl ?_
  refine hn_icmp_ge rfl (fun c => absurd c (show ¬ (16 : Int32) ≤ 0 + 1 + 1 + 1 + 1 + 1 by decide)) (fun _ => ?_)
  refine hn_aload_n rfl rfl ?_
  refine hn_getR rfl rfl (by omega) rfl g8_x27 ?_
  refine hn_iload_n rfl rfl ?_
  refine hn_new (kc2 := 107) (ks2 := 920) rfl rfl rfl (by omega) (by decide) rfl rfl ?_
  rw [hz_z (a := 80) zx27 (by omega) (by omega)]
  refine hn_nn (m := 81) rfl ?_
  refine hn_dup rfl rfl ?_
  refine hn_callI (kc2 := 103) (ks2 := 900) rfl rfl (by decide) hk_State_init rfl rfl rfl rfl (Nat.le_of_ble_eq_true rfl) (c_State_init (by decide +kernel) (by omega) (z0_m zx27 (by omega))) (by omega) rfl rfl (fun r n D h _ => by have := h.2.1; omega) (fun r n' D' q => ?_)
  obtain ⟨rfl, rfl, rfl⟩ := q
  refine hn_nn (m := 85) rfl ?_
  obtain ⟨x28, hx28⟩ : ∃ z, z = st_R x27 80 := ⟨_, rfl⟩
  rw [← hx28]
  have zx28 : hs_z0 I J x28 (85) := by rw [hx28]; exact z0_st (z0_m zx27 (by omega)) (by omega)
  have g8_x28 : x28 0 8 = some 54 := by rw [hx28, st_ne (by omega)]; exact g8_x27
  refine hn_aastore rfl rfl (by decide) (by omega) (show (0 + 1 + 1 + 1 + 1 + 1 : Int32).toInt = ((5 : Nat) : Int) by decide) (by omega) (by omega) rfl ?_
  obtain ⟨x29, hx29⟩ : ∃ z, z = hn_u x28 54 5 (some 80) := ⟨_, rfl⟩
  rw [← hx29]
  have zx29 : hs_z0 I J x29 (85) := by rw [hx29]; exact z0_u (z0_m zx28 (by omega)) (by omega)
  have g8_x29 : x29 0 8 = some 54 := by rw [hx29, hn_u_ne _ _ _ (by omega)]; exact g8_x28
  refine hn_iinc (v := .null) rfl rfl (Nat.le_of_ble_eq_true rfl) ?_
  refine hn_goto rfl ?_
  refine hn_iload_n rfl rfl ?_
  refine hn_bipush rfl ?_
  refine hn_icmp_ge rfl (fun c => absurd c (show ¬ (16 : Int32) ≤ 0 + 1 + 1 + 1 + 1 + 1 + 1 by decide)) (fun _ => ?_)
  refine hn_aload_n rfl rfl ?_
  refine hn_getR rfl rfl (by omega) rfl g8_x29 ?_
  refine hn_iload_n rfl rfl ?_
  refine hn_new (kc2 := 102) (ks2 := 893) rfl rfl rfl (by omega) (by decide) rfl rfl ?_
  rw [hz_z (a := 85) zx29 (by omega) (by omega)]
  refine hn_nn (m := 86) rfl ?_
  refine hn_dup rfl rfl ?_
  refine hn_callI (kc2 := 98) (ks2 := 873) rfl rfl (by decide) hk_State_init rfl rfl rfl rfl (Nat.le_of_ble_eq_true rfl) (c_State_init (by decide +kernel) (by omega) (z0_m zx29 (by omega))) (by omega) rfl rfl (fun r n D h _ => by have := h.2.1; omega) (fun r n' D' q => ?_)
  obtain ⟨rfl, rfl, rfl⟩ := q
  refine hn_nn (m := 90) rfl ?_
  obtain ⟨x30, hx30⟩ : ∃ z, z = st_R x29 85 := ⟨_, rfl⟩
  rw [← hx30]
  have zx30 : hs_z0 I J x30 (90) := by rw [hx30]; exact z0_st (z0_m zx29 (by omega)) (by omega)
  have g8_x30 : x30 0 8 = some 54 := by rw [hx30, st_ne (by omega)]; exact g8_x29
  refine hn_aastore rfl rfl (by decide) (by omega) (show (0 + 1 + 1 + 1 + 1 + 1 + 1 : Int32).toInt = ((6 : Nat) : Int) by decide) (by omega) (by omega) rfl ?_
  obtain ⟨x31, hx31⟩ : ∃ z, z = hn_u x30 54 6 (some 85) := ⟨_, rfl⟩
  rw [← hx31]
  have zx31 : hs_z0 I J x31 (90) := by rw [hx31]; exact z0_u (z0_m zx30 (by omega)) (by omega)
  have g8_x31 : x31 0 8 = some 54 := by rw [hx31, hn_u_ne _ _ _ (by omega)]; exact g8_x30
  refine hn_iinc (v := .null) rfl rfl (Nat.le_of_ble_eq_true rfl) ?_
  refine hn_goto rfl ?_
  refine hn_iload_n rfl rfl ?_
  refine hn_bipush rfl ?_
  refine hn_icmp_ge rfl (fun c => absurd c (show ¬ (16 : Int32) ≤ 0 + 1 + 1 + 1 + 1 + 1 + 1 + 1 by decide)) (fun _ => ?_)
  refine hn_aload_n rfl rfl ?_
  refine hn_getR rfl rfl (by omega) rfl g8_x31 ?_
  refine hn_iload_n rfl rfl ?_
  refine hn_new (kc2 := 97) (ks2 := 866) rfl rfl rfl (by omega) (by decide) rfl rfl ?_
  rw [hz_z (a := 90) zx31 (by omega) (by omega)]
  refine hn_nn (m := 91) rfl ?_
  refine hn_dup rfl rfl ?_
  refine hn_callI (kc2 := 93) (ks2 := 846) rfl rfl (by decide) hk_State_init rfl rfl rfl rfl (Nat.le_of_ble_eq_true rfl) (c_State_init (by decide +kernel) (by omega) (z0_m zx31 (by omega))) (by omega) rfl rfl (fun r n D h _ => by have := h.2.1; omega) (fun r n' D' q => ?_)
  obtain ⟨rfl, rfl, rfl⟩ := q
  refine hn_nn (m := 95) rfl ?_
  obtain ⟨x32, hx32⟩ : ∃ z, z = st_R x31 90 := ⟨_, rfl⟩
  rw [← hx32]
  have zx32 : hs_z0 I J x32 (95) := by rw [hx32]; exact z0_st (z0_m zx31 (by omega)) (by omega)
  have g8_x32 : x32 0 8 = some 54 := by rw [hx32, st_ne (by omega)]; exact g8_x31
  refine hn_aastore rfl rfl (by decide) (by omega) (show (0 + 1 + 1 + 1 + 1 + 1 + 1 + 1 : Int32).toInt = ((7 : Nat) : Int) by decide) (by omega) (by omega) rfl ?_
  obtain ⟨x33, hx33⟩ : ∃ z, z = hn_u x32 54 7 (some 90) := ⟨_, rfl⟩
  rw [← hx33]
  have zx33 : hs_z0 I J x33 (95) := by rw [hx33]; exact z0_u (z0_m zx32 (by omega)) (by omega)
  have g8_x33 : x33 0 8 = some 54 := by rw [hx33, hn_u_ne _ _ _ (by omega)]; exact g8_x32
  refine hn_iinc (v := .null) rfl rfl (Nat.le_of_ble_eq_true rfl) ?_
  refine hn_goto rfl ?_
  refine hn_iload_n rfl rfl ?_
  refine hn_bipush rfl ?_
  refine hn_icmp_ge rfl (fun c => absurd c (show ¬ (16 : Int32) ≤ 0 + 1 + 1 + 1 + 1 + 1 + 1 + 1 + 1 by decide)) (fun _ => ?_)
  refine hn_aload_n rfl rfl ?_
  refine hn_getR rfl rfl (by omega) rfl g8_x33 ?_
  refine hn_iload_n rfl rfl ?_
  refine hn_new (kc2 := 92) (ks2 := 839) rfl rfl rfl (by omega) (by decide) rfl rfl ?_
  rw [hz_z (a := 95) zx33 (by omega) (by omega)]
  refine hn_nn (m := 96) rfl ?_
  refine hn_dup rfl rfl ?_
  refine hn_callI (kc2 := 88) (ks2 := 819) rfl rfl (by decide) hk_State_init rfl rfl rfl rfl (Nat.le_of_ble_eq_true rfl) (c_State_init (by decide +kernel) (by omega) (z0_m zx33 (by omega))) (by omega) rfl rfl (fun r n D h _ => by have := h.2.1; omega) (fun r n' D' q => ?_)
  obtain ⟨rfl, rfl, rfl⟩ := q
  refine hn_nn (m := 100) rfl ?_
  obtain ⟨x34, hx34⟩ : ∃ z, z = st_R x33 95 := ⟨_, rfl⟩
  rw [← hx34]
  have zx34 : hs_z0 I J x34 (100) := by rw [hx34]; exact z0_st (z0_m zx33 (by omega)) (by omega)
  have g8_x34 : x34 0 8 = some 54 := by rw [hx34, st_ne (by omega)]; exact g8_x33
  refine hn_aastore rfl rfl (by decide) (by omega) (show (0 + 1 + 1 + 1 + 1 + 1 + 1 + 1 + 1 : Int32).toInt = ((8 : Nat) : Int) by decide) (by omega) (by omega) rfl ?_
  obtain ⟨x35, hx35⟩ : ∃ z, z = hn_u x34 54 8 (some 95) := ⟨_, rfl⟩
  rw [← hx35]
  have zx35 : hs_z0 I J x35 (100) := by rw [hx35]; exact z0_u (z0_m zx34 (by omega)) (by omega)
  have g8_x35 : x35 0 8 = some 54 := by rw [hx35, hn_u_ne _ _ _ (by omega)]; exact g8_x34
  refine hn_iinc (v := .null) rfl rfl (Nat.le_of_ble_eq_true rfl) ?_
  refine hn_goto rfl ?_
  refine hn_iload_n rfl rfl ?_
  refine hn_bipush rfl ?_
  refine hn_icmp_ge rfl (fun c => absurd c (show ¬ (16 : Int32) ≤ 0 + 1 + 1 + 1 + 1 + 1 + 1 + 1 + 1 + 1 by decide)) (fun _ => ?_)
  refine hn_aload_n rfl rfl ?_
  refine hn_getR rfl rfl (by omega) rfl g8_x35 ?_
  refine hn_iload_n rfl rfl ?_
  refine hn_new (kc2 := 87) (ks2 := 812) rfl rfl rfl (by omega) (by decide) rfl rfl ?_
  rw [hz_z (a := 100) zx35 (by omega) (by omega)]
  refine hn_nn (m := 101) rfl ?_
  refine hn_dup rfl rfl ?_
  refine hn_callI (kc2 := 83) (ks2 := 792) rfl rfl (by decide) hk_State_init rfl rfl rfl rfl (Nat.le_of_ble_eq_true rfl) (c_State_init (by decide +kernel) (by omega) (z0_m zx35 (by omega))) (by omega) rfl rfl (fun r n D h _ => by have := h.2.1; omega) (fun r n' D' q => ?_)
  obtain ⟨rfl, rfl, rfl⟩ := q
  refine hn_nn (m := 105) rfl ?_
  obtain ⟨x36, hx36⟩ : ∃ z, z = st_R x35 100 := ⟨_, rfl⟩
  rw [← hx36]
  have zx36 : hs_z0 I J x36 (105) := by rw [hx36]; exact z0_st (z0_m zx35 (by omega)) (by omega)
  have g8_x36 : x36 0 8 = some 54 := by rw [hx36, st_ne (by omega)]; exact g8_x35
  refine hn_aastore rfl rfl (by decide) (by omega) (show (0 + 1 + 1 + 1 + 1 + 1 + 1 + 1 + 1 + 1 : Int32).toInt = ((9 : Nat) : Int) by decide) (by omega) (by omega) rfl ?_
  obtain ⟨x37, hx37⟩ : ∃ z, z = hn_u x36 54 9 (some 100) := ⟨_, rfl⟩
  rw [← hx37]
  have zx37 : hs_z0 I J x37 (105) := by rw [hx37]; exact z0_u (z0_m zx36 (by omega)) (by omega)
  have g8_x37 : x37 0 8 = some 54 := by rw [hx37, hn_u_ne _ _ _ (by omega)]; exact g8_x36
  refine hn_iinc (v := .null) rfl rfl (Nat.le_of_ble_eq_true rfl) ?_
  refine hn_goto rfl ?_
  refine hn_iload_n rfl rfl ?_
  refine hn_bipush rfl ?_
  refine hn_icmp_ge rfl (fun c => absurd c (show ¬ (16 : Int32) ≤ 0 + 1 + 1 + 1 + 1 + 1 + 1 + 1 + 1 + 1 + 1 by decide)) (fun _ => ?_)
  refine hn_aload_n rfl rfl ?_
  refine hn_getR rfl rfl (by omega) rfl g8_x37 ?_
  refine hn_iload_n rfl rfl ?_
  refine hn_new (kc2 := 82) (ks2 := 785) rfl rfl rfl (by omega) (by decide) rfl rfl ?_
  rw [hz_z (a := 105) zx37 (by omega) (by omega)]
  refine hn_nn (m := 106) rfl ?_
  refine hn_dup rfl rfl ?_
  refine hn_callI (kc2 := 78) (ks2 := 765) rfl rfl (by decide) hk_State_init rfl rfl rfl rfl (Nat.le_of_ble_eq_true rfl) (c_State_init (by decide +kernel) (by omega) (z0_m zx37 (by omega))) (by omega) rfl rfl (fun r n D h _ => by have := h.2.1; omega) (fun r n' D' q => ?_)
  obtain ⟨rfl, rfl, rfl⟩ := q
  refine hn_nn (m := 110) rfl ?_
  obtain ⟨x38, hx38⟩ : ∃ z, z = st_R x37 105 := ⟨_, rfl⟩
  rw [← hx38]
  have zx38 : hs_z0 I J x38 (110) := by rw [hx38]; exact z0_st (z0_m zx37 (by omega)) (by omega)
  have g8_x38 : x38 0 8 = some 54 := by rw [hx38, st_ne (by omega)]; exact g8_x37
  refine hn_aastore rfl rfl (by decide) (by omega) (show (0 + 1 + 1 + 1 + 1 + 1 + 1 + 1 + 1 + 1 + 1 : Int32).toInt = ((10 : Nat) : Int) by decide) (by omega) (by omega) rfl ?_
  obtain ⟨x39, hx39⟩ : ∃ z, z = hn_u x38 54 10 (some 105) := ⟨_, rfl⟩
  rw [← hx39]
  have zx39 : hs_z0 I J x39 (110) := by rw [hx39]; exact z0_u (z0_m zx38 (by omega)) (by omega)
  have g8_x39 : x39 0 8 = some 54 := by rw [hx39, hn_u_ne _ _ _ (by omega)]; exact g8_x38
  refine hn_iinc (v := .null) rfl rfl (Nat.le_of_ble_eq_true rfl) ?_
  refine hn_goto rfl ?_
  refine hn_iload_n rfl rfl ?_
  refine hn_bipush rfl ?_
  refine hn_icmp_ge rfl (fun c => absurd c (show ¬ (16 : Int32) ≤ 0 + 1 + 1 + 1 + 1 + 1 + 1 + 1 + 1 + 1 + 1 + 1 by decide)) (fun _ => ?_)
  refine hn_aload_n rfl rfl ?_
  refine hn_getR rfl rfl (by omega) rfl g8_x39 ?_
  refine hn_iload_n rfl rfl ?_
  refine hn_new (kc2 := 77) (ks2 := 758) rfl rfl rfl (by omega) (by decide) rfl rfl ?_
  rw [hz_z (a := 110) zx39 (by omega) (by omega)]
  refine hn_nn (m := 111) rfl ?_
  refine hn_dup rfl rfl ?_
  refine hn_callI (kc2 := 73) (ks2 := 738) rfl rfl (by decide) hk_State_init rfl rfl rfl rfl (Nat.le_of_ble_eq_true rfl) (c_State_init (by decide +kernel) (by omega) (z0_m zx39 (by omega))) (by omega) rfl rfl (fun r n D h _ => by have := h.2.1; omega) (fun r n' D' q => ?_)
  obtain ⟨rfl, rfl, rfl⟩ := q
  refine hn_nn (m := 115) rfl ?_
  obtain ⟨x40, hx40⟩ : ∃ z, z = st_R x39 110 := ⟨_, rfl⟩
  rw [← hx40]
  have zx40 : hs_z0 I J x40 (115) := by rw [hx40]; exact z0_st (z0_m zx39 (by omega)) (by omega)
  have g8_x40 : x40 0 8 = some 54 := by rw [hx40, st_ne (by omega)]; exact g8_x39
  refine hn_aastore rfl rfl (by decide) (by omega) (show (0 + 1 + 1 + 1 + 1 + 1 + 1 + 1 + 1 + 1 + 1 + 1 : Int32).toInt = ((11 : Nat) : Int) by decide) (by omega) (by omega) rfl ?_
  obtain ⟨x41, hx41⟩ : ∃ z, z = hn_u x40 54 11 (some 110) := ⟨_, rfl⟩
  rw [← hx41]
  have zx41 : hs_z0 I J x41 (115) := by rw [hx41]; exact z0_u (z0_m zx40 (by omega)) (by omega)
  have g8_x41 : x41 0 8 = some 54 := by rw [hx41, hn_u_ne _ _ _ (by omega)]; exact g8_x40
  refine hn_iinc (v := .null) rfl rfl (Nat.le_of_ble_eq_true rfl) ?_
  refine hn_goto rfl ?_
  refine hn_iload_n rfl rfl ?_
  refine hn_bipush rfl ?_
  refine hn_icmp_ge rfl (fun c => absurd c (show ¬ (16 : Int32) ≤ 0 + 1 + 1 + 1 + 1 + 1 + 1 + 1 + 1 + 1 + 1 + 1 + 1 by decide)) (fun _ => ?_)
  refine hn_aload_n rfl rfl ?_
  refine hn_getR rfl rfl (by omega) rfl g8_x41 ?_
  refine hn_iload_n rfl rfl ?_
  refine hn_new (kc2 := 72) (ks2 := 731) rfl rfl rfl (by omega) (by decide) rfl rfl ?_
  rw [hz_z (a := 115) zx41 (by omega) (by omega)]
  refine hn_nn (m := 116) rfl ?_
  refine hn_dup rfl rfl ?_
  refine hn_callI (kc2 := 68) (ks2 := 711) rfl rfl (by decide) hk_State_init rfl rfl rfl rfl (Nat.le_of_ble_eq_true rfl) (c_State_init (by decide +kernel) (by omega) (z0_m zx41 (by omega))) (by omega) rfl rfl (fun r n D h _ => by have := h.2.1; omega) (fun r n' D' q => ?_)
  obtain ⟨rfl, rfl, rfl⟩ := q
  refine hn_nn (m := 120) rfl ?_
  obtain ⟨x42, hx42⟩ : ∃ z, z = st_R x41 115 := ⟨_, rfl⟩
  rw [← hx42]
  have zx42 : hs_z0 I J x42 (120) := by rw [hx42]; exact z0_st (z0_m zx41 (by omega)) (by omega)
  have g8_x42 : x42 0 8 = some 54 := by rw [hx42, st_ne (by omega)]; exact g8_x41
  refine hn_aastore rfl rfl (by decide) (by omega) (show (0 + 1 + 1 + 1 + 1 + 1 + 1 + 1 + 1 + 1 + 1 + 1 + 1 : Int32).toInt = ((12 : Nat) : Int) by decide) (by omega) (by omega) rfl ?_
  obtain ⟨x43, hx43⟩ : ∃ z, z = hn_u x42 54 12 (some 115) := ⟨_, rfl⟩
  rw [← hx43]
  have zx43 : hs_z0 I J x43 (120) := by rw [hx43]; exact z0_u (z0_m zx42 (by omega)) (by omega)
  have g8_x43 : x43 0 8 = some 54 := by rw [hx43, hn_u_ne _ _ _ (by omega)]; exact g8_x42
  refine hn_iinc (v := .null) rfl rfl (Nat.le_of_ble_eq_true rfl) ?_
  refine hn_goto rfl ?_
  refine hn_iload_n rfl rfl ?_
  refine hn_bipush rfl ?_
  refine hn_icmp_ge rfl (fun c => absurd c (show ¬ (16 : Int32) ≤ 0 + 1 + 1 + 1 + 1 + 1 + 1 + 1 + 1 + 1 + 1 + 1 + 1 + 1 by decide)) (fun _ => ?_)
  refine hn_aload_n rfl rfl ?_
  refine hn_getR rfl rfl (by omega) rfl g8_x43 ?_
  refine hn_iload_n rfl rfl ?_
  refine hn_new (kc2 := 67) (ks2 := 704) rfl rfl rfl (by omega) (by decide) rfl rfl ?_
  rw [hz_z (a := 120) zx43 (by omega) (by omega)]
  refine hn_nn (m := 121) rfl ?_
  refine hn_dup rfl rfl ?_
  refine hn_callI (kc2 := 63) (ks2 := 684) rfl rfl (by decide) hk_State_init rfl rfl rfl rfl (Nat.le_of_ble_eq_true rfl) (c_State_init (by decide +kernel) (by omega) (z0_m zx43 (by omega))) (by omega) rfl rfl (fun r n D h _ => by have := h.2.1; omega) (fun r n' D' q => ?_)
  obtain ⟨rfl, rfl, rfl⟩ := q
  refine hn_nn (m := 125) rfl ?_
  obtain ⟨x44, hx44⟩ : ∃ z, z = st_R x43 120 := ⟨_, rfl⟩
  rw [← hx44]
  have zx44 : hs_z0 I J x44 (125) := by rw [hx44]; exact z0_st (z0_m zx43 (by omega)) (by omega)
  have g8_x44 : x44 0 8 = some 54 := by rw [hx44, st_ne (by omega)]; exact g8_x43
  refine hn_aastore rfl rfl (by decide) (by omega) (show (0 + 1 + 1 + 1 + 1 + 1 + 1 + 1 + 1 + 1 + 1 + 1 + 1 + 1 : Int32).toInt = ((13 : Nat) : Int) by decide) (by omega) (by omega) rfl ?_
  obtain ⟨x45, hx45⟩ : ∃ z, z = hn_u x44 54 13 (some 120) := ⟨_, rfl⟩
  rw [← hx45]
  have zx45 : hs_z0 I J x45 (125) := by rw [hx45]; exact z0_u (z0_m zx44 (by omega)) (by omega)
  have g8_x45 : x45 0 8 = some 54 := by rw [hx45, hn_u_ne _ _ _ (by omega)]; exact g8_x44
  refine hn_iinc (v := .null) rfl rfl (Nat.le_of_ble_eq_true rfl) ?_
  refine hn_goto rfl ?_
  refine hn_iload_n rfl rfl ?_
  refine hn_bipush rfl ?_
  refine hn_icmp_ge rfl (fun c => absurd c (show ¬ (16 : Int32) ≤ 0 + 1 + 1 + 1 + 1 + 1 + 1 + 1 + 1 + 1 + 1 + 1 + 1 + 1 + 1 by decide)) (fun _ => ?_)
  refine hn_aload_n rfl rfl ?_
  refine hn_getR rfl rfl (by omega) rfl g8_x45 ?_
  refine hn_iload_n rfl rfl ?_
  refine hn_new (kc2 := 62) (ks2 := 677) rfl rfl rfl (by omega) (by decide) rfl rfl ?_
  rw [hz_z (a := 125) zx45 (by omega) (by omega)]
  refine hn_nn (m := 126) rfl ?_
  refine hn_dup rfl rfl ?_
  refine hn_callI (kc2 := 58) (ks2 := 657) rfl rfl (by decide) hk_State_init rfl rfl rfl rfl (Nat.le_of_ble_eq_true rfl) (c_State_init (by decide +kernel) (by omega) (z0_m zx45 (by omega))) (by omega) rfl rfl (fun r n D h _ => by have := h.2.1; omega) (fun r n' D' q => ?_)
  obtain ⟨rfl, rfl, rfl⟩ := q
  refine hn_nn (m := 130) rfl ?_
  obtain ⟨x46, hx46⟩ : ∃ z, z = st_R x45 125 := ⟨_, rfl⟩
  rw [← hx46]
  have zx46 : hs_z0 I J x46 (130) := by rw [hx46]; exact z0_st (z0_m zx45 (by omega)) (by omega)
  have g8_x46 : x46 0 8 = some 54 := by rw [hx46, st_ne (by omega)]; exact g8_x45
  refine hn_aastore rfl rfl (by decide) (by omega) (show (0 + 1 + 1 + 1 + 1 + 1 + 1 + 1 + 1 + 1 + 1 + 1 + 1 + 1 + 1 : Int32).toInt = ((14 : Nat) : Int) by decide) (by omega) (by omega) rfl ?_
  obtain ⟨x47, hx47⟩ : ∃ z, z = hn_u x46 54 14 (some 125) := ⟨_, rfl⟩
  rw [← hx47]
  have zx47 : hs_z0 I J x47 (130) := by rw [hx47]; exact z0_u (z0_m zx46 (by omega)) (by omega)
  have g8_x47 : x47 0 8 = some 54 := by rw [hx47, hn_u_ne _ _ _ (by omega)]; exact g8_x46
  refine hn_iinc (v := .null) rfl rfl (Nat.le_of_ble_eq_true rfl) ?_
  refine hn_goto rfl ?_
  refine hn_iload_n rfl rfl ?_
  refine hn_bipush rfl ?_
  refine hn_icmp_ge rfl (fun c => absurd c (show ¬ (16 : Int32) ≤ 0 + 1 + 1 + 1 + 1 + 1 + 1 + 1 + 1 + 1 + 1 + 1 + 1 + 1 + 1 + 1 by decide)) (fun _ => ?_)
  refine hn_aload_n rfl rfl ?_
  refine hn_getR rfl rfl (by omega) rfl g8_x47 ?_
  refine hn_iload_n rfl rfl ?_
  refine hn_new (kc2 := 57) (ks2 := 650) rfl rfl rfl (by omega) (by decide) rfl rfl ?_
  rw [hz_z (a := 130) zx47 (by omega) (by omega)]
  refine hn_nn (m := 131) rfl ?_
  refine hn_dup rfl rfl ?_
  refine hn_callI (kc2 := 53) (ks2 := 630) rfl rfl (by decide) hk_State_init rfl rfl rfl rfl (Nat.le_of_ble_eq_true rfl) (c_State_init (by decide +kernel) (by omega) (z0_m zx47 (by omega))) (by omega) rfl rfl (fun r n D h _ => by have := h.2.1; omega) (fun r n' D' q => ?_)
  obtain ⟨rfl, rfl, rfl⟩ := q
  refine hn_nn (m := 135) rfl ?_
  obtain ⟨x48, hx48⟩ : ∃ z, z = st_R x47 130 := ⟨_, rfl⟩
  rw [← hx48]
  have zx48 : hs_z0 I J x48 (135) := by rw [hx48]; exact z0_st (z0_m zx47 (by omega)) (by omega)
  have g8_x48 : x48 0 8 = some 54 := by rw [hx48, st_ne (by omega)]; exact g8_x47
  refine hn_aastore rfl rfl (by decide) (by omega) (show (0 + 1 + 1 + 1 + 1 + 1 + 1 + 1 + 1 + 1 + 1 + 1 + 1 + 1 + 1 + 1 : Int32).toInt = ((15 : Nat) : Int) by decide) (by omega) (by omega) rfl ?_
  obtain ⟨x49, hx49⟩ : ∃ z, z = hn_u x48 54 15 (some 130) := ⟨_, rfl⟩
  rw [← hx49]
  have zx49 : hs_z0 I J x49 (135) := by rw [hx49]; exact z0_u (z0_m zx48 (by omega)) (by omega)
  have g8_x49 : x49 0 8 = some 54 := by rw [hx49, hn_u_ne _ _ _ (by omega)]; exact g8_x48
  refine hn_iinc (v := .null) rfl rfl (Nat.le_of_ble_eq_true rfl) ?_
  refine hn_goto rfl ?_
  refine hn_iload_n rfl rfl ?_
  refine hn_bipush rfl ?_
  refine hn_icmp_ge rfl (fun _ => ?_) (fun c => absurd (show (16 : Int32) ≤ 0 + 1 + 1 + 1 + 1 + 1 + 1 + 1 + 1 + 1 + 1 + 1 + 1 + 1 + 1 + 1 + 1 by decide) c)
  refine hn_aload_n rfl rfl ?_
  refine hn_new (kc2 := 52) (ks2 := 625) rfl rfl rfl (by omega) (by decide) rfl rfl ?_
  rw [hz_z (a := 135) zx49 (by omega) (by omega)]
  refine hn_nn (m := 136) rfl ?_
  refine hn_dup rfl rfl ?_
  refine hn_callI (kc2 := 49) (ks2 := 601) rfl rfl (by decide) hk_Seen_init rfl rfl rfl rfl (Nat.le_of_ble_eq_true rfl) (c_Seen_init (by decide +kernel) (by omega) (z0_m zx49 (by omega))) (by omega) rfl rfl (fun r n D h _ => by have := h.2.1; omega) (fun r n' D' q => ?_)
  obtain ⟨rfl, rfl, rfl⟩ := q
  refine hn_nn (m := 139) rfl ?_
  obtain ⟨x50, hx50⟩ : ∃ z, z = sn_R x49 135 := ⟨_, rfl⟩
  rw [← hx50]
  have zx50 : hs_z0 I J x50 (139) := by rw [hx50]; exact z0_sn (z0_m zx49 (by omega)) (by omega)
  refine hn_putRF rfl rfl (by omega) rfl rfl rfl rfl (fun _ => ⟨rfl, rfl⟩) ?_
  obtain ⟨x51, hx51⟩ : ∃ z, z = hn_u x50 0 11 (some 135) := ⟨_, rfl⟩
  rw [← hx51]
  have zx51 : hs_z0 I J x51 (139) := by rw [hx51]; exact z0_u (z0_m zx50 (by omega)) (by omega)
  refine hn_aload_n rfl rfl ?_
  refine hn_iconst rfl ?_
  refine hn_anewarray (z := 4) (kc2 := 48) (ks2 := 597) rfl rfl (by decide) (by decide) (by omega) (by omega) rfl rfl ?_
  rw [hz_z (a := 139) zx51 (by omega) (by omega)]
  refine hn_nn (m := 140) rfl ?_
  refine hn_putRF rfl rfl (by omega) rfl rfl rfl rfl (fun _ => ⟨rfl, rfl⟩) ?_
  obtain ⟨x52, hx52⟩ : ∃ z, z = hn_u x51 0 12 (some 139) := ⟨_, rfl⟩
  rw [← hx52]
  have zx52 : hs_z0 I J x52 (140) := by rw [hx52]; exact z0_u (z0_m zx51 (by omega)) (by omega)
  have g12_x52 : x52 0 12 = some 139 := by rw [hx52, hn_u_eq, va_up, if_pos rfl]
  refine hn_aload_n rfl rfl ?_
  refine hn_iconst rfl ?_
  refine hn_anewarray (z := 4) (kc2 := 47) (ks2 := 593) rfl rfl (by decide) (by decide) (by omega) (by omega) rfl rfl ?_
  rw [hz_z (a := 140) zx52 (by omega) (by omega)]
  refine hn_nn (m := 141) rfl ?_
  refine hn_putRF rfl rfl (by omega) rfl rfl rfl rfl (fun _ => ⟨rfl, rfl⟩) ?_
  obtain ⟨x53, hx53⟩ : ∃ z, z = hn_u x52 0 13 (some 140) := ⟨_, rfl⟩
  rw [← hx53]
  have zx53 : hs_z0 I J x53 (141) := by rw [hx53]; exact z0_u (z0_m zx52 (by omega)) (by omega)
  have g12_x53 : x53 0 12 = some 139 := by rw [hx53, hn_u_eq, va_up, if_neg (by omega)]; exact g12_x52
  have g13_x53 : x53 0 13 = some 140 := by rw [hx53, hn_u_eq, va_up, if_pos rfl]
  refine hn_aload_n rfl rfl ?_
  refine hn_iconst rfl ?_
  refine hn_newarray3 (z := 4) (kc2 := 46) (ks2 := 589) rfl rfl (by decide) (by omega) (by omega) rfl rfl ?_
  rw [hz_z (a := 141) zx53 (by omega) (by omega)]
  refine hn_nn (m := 142) rfl ?_
  refine hn_putRF rfl rfl (by omega) rfl rfl rfl rfl (fun _ => ⟨rfl, rfl⟩) ?_
  obtain ⟨x54, hx54⟩ : ∃ z, z = hn_u x53 0 14 (some 141) := ⟨_, rfl⟩
  rw [← hx54]
  have zx54 : hs_z0 I J x54 (142) := by rw [hx54]; exact z0_u (z0_m zx53 (by omega)) (by omega)
  have g12_x54 : x54 0 12 = some 139 := by rw [hx54, hn_u_eq, va_up, if_neg (by omega)]; exact g12_x53
  have g13_x54 : x54 0 13 = some 140 := by rw [hx54, hn_u_eq, va_up, if_neg (by omega)]; exact g13_x53
  have g14_x54 : x54 0 14 = some 141 := by rw [hx54, hn_u_eq, va_up, if_pos rfl]
  refine hn_iconst rfl ?_
  refine hn_istore_n rfl (Nat.le_of_ble_eq_true rfl) ?_
  refine hn_iload_n rfl rfl ?_
  refine hn_iconst rfl ?_
  refine hn_icmp_ge rfl (fun c => absurd c (show ¬ (4 : Int32) ≤ 0 by decide)) (fun _ => ?_)
  refine hn_aload_n rfl rfl ?_
  refine hn_getR rfl rfl (by omega) rfl g12_x54 ?_
  refine hn_iload_n rfl rfl ?_
  refine hn_new (kc2 := 45) (ks2 := 582) rfl rfl rfl (by omega) (by decide) rfl rfl ?_
  rw [hz_z (a := 142) zx54 (by omega) (by omega)]
  refine hn_nn (m := 143) rfl ?_
  refine hn_dup rfl rfl ?_
  refine hn_callI (kc2 := 41) (ks2 := 562) rfl rfl (by decide) hk_State_init rfl rfl rfl rfl (Nat.le_of_ble_eq_true rfl) (c_State_init (by decide +kernel) (by omega) (z0_m zx54 (by omega))) (by omega) rfl rfl (fun r n D h _ => by have := h.2.1; omega) (fun r n' D' q => ?_)
  obtain ⟨rfl, rfl, rfl⟩ := q
  refine hn_nn (m := 147) rfl ?_
  obtain ⟨x55, hx55⟩ : ∃ z, z = st_R x54 142 := ⟨_, rfl⟩
  rw [← hx55]
  have zx55 : hs_z0 I J x55 (147) := by rw [hx55]; exact z0_st (z0_m zx54 (by omega)) (by omega)
  have g12_x55 : x55 0 12 = some 139 := by rw [hx55, st_ne (by omega)]; exact g12_x54
  have g13_x55 : x55 0 13 = some 140 := by rw [hx55, st_ne (by omega)]; exact g13_x54
  refine hn_aastore rfl rfl (by decide) (by omega) (show (0 : Int32).toInt = ((0 : Nat) : Int) by decide) (by omega) (by omega) rfl ?_
  obtain ⟨x56, hx56⟩ : ∃ z, z = hn_u x55 139 0 (some 142) := ⟨_, rfl⟩
  rw [← hx56]
  have zx56 : hs_z0 I J x56 (147) := by rw [hx56]; exact z0_u (z0_m zx55 (by omega)) (by omega)
  have g12_x56 : x56 0 12 = some 139 := by rw [hx56, hn_u_ne _ _ _ (by omega)]; exact g12_x55
  have g13_x56 : x56 0 13 = some 140 := by rw [hx56, hn_u_ne _ _ _ (by omega)]; exact g13_x55
  refine hn_aload_n rfl rfl ?_
  refine hn_getR rfl rfl (by omega) rfl g13_x56 ?_
  refine hn_iload_n rfl rfl ?_
  refine hn_new (kc2 := 40) (ks2 := 557) rfl rfl rfl (by omega) (by decide) rfl rfl ?_
  rw [hz_z (a := 147) zx56 (by omega) (by omega)]
  refine hn_nn (m := 148) rfl ?_
  refine hn_dup rfl rfl ?_
  refine hn_callI (kc2 := 37) (ks2 := 533) rfl rfl (by decide) hk_Seen_init rfl rfl rfl rfl (Nat.le_of_ble_eq_true rfl) (c_Seen_init (by decide +kernel) (by omega) (z0_m zx56 (by omega))) (by omega) rfl rfl (fun r n D h _ => by have := h.2.1; omega) (fun r n' D' q => ?_)
  obtain ⟨rfl, rfl, rfl⟩ := q
  refine hn_nn (m := 151) rfl ?_
  obtain ⟨x57, hx57⟩ : ∃ z, z = sn_R x56 147 := ⟨_, rfl⟩
  rw [← hx57]
  have zx57 : hs_z0 I J x57 (151) := by rw [hx57]; exact z0_sn (z0_m zx56 (by omega)) (by omega)
  have g12_x57 : x57 0 12 = some 139 := by rw [hx57, sn_ne (by omega)]; exact g12_x56
  have g13_x57 : x57 0 13 = some 140 := by rw [hx57, sn_ne (by omega)]; exact g13_x56
  refine hn_aastore rfl rfl (by decide) (by omega) (show (0 : Int32).toInt = ((0 : Nat) : Int) by decide) (by omega) (by omega) rfl ?_
  obtain ⟨x58, hx58⟩ : ∃ z, z = hn_u x57 140 0 (some 147) := ⟨_, rfl⟩
  rw [← hx58]
  have zx58 : hs_z0 I J x58 (151) := by rw [hx58]; exact z0_u (z0_m zx57 (by omega)) (by omega)
  have g12_x58 : x58 0 12 = some 139 := by rw [hx58, hn_u_ne _ _ _ (by omega)]; exact g12_x57
  have g13_x58 : x58 0 13 = some 140 := by rw [hx58, hn_u_ne _ _ _ (by omega)]; exact g13_x57
  refine hn_iinc (v := .null) rfl rfl (Nat.le_of_ble_eq_true rfl) ?_
  refine hn_goto rfl ?_
  refine hn_iload_n rfl rfl ?_
  refine hn_iconst rfl ?_
  refine hn_icmp_ge rfl (fun c => absurd c (show ¬ (4 : Int32) ≤ 0 + 1 by decide)) (fun _ => ?_)
  refine hn_aload_n rfl rfl ?_
  refine hn_getR rfl rfl (by omega) rfl g12_x58 ?_
  refine hn_iload_n rfl rfl ?_
  refine hn_new (kc2 := 36) (ks2 := 526) rfl rfl rfl (by omega) (by decide) rfl rfl ?_
  rw [hz_z (a := 151) zx58 (by omega) (by omega)]
  refine hn_nn (m := 152) rfl ?_
  refine hn_dup rfl rfl ?_
  refine hn_callI (kc2 := 32) (ks2 := 506) rfl rfl (by decide) hk_State_init rfl rfl rfl rfl (Nat.le_of_ble_eq_true rfl) (c_State_init (by decide +kernel) (by omega) (z0_m zx58 (by omega))) (by omega) rfl rfl (fun r n D h _ => by have := h.2.1; omega) (fun r n' D' q => ?_)
  obtain ⟨rfl, rfl, rfl⟩ := q
  refine hn_nn (m := 156) rfl ?_
  obtain ⟨x59, hx59⟩ : ∃ z, z = st_R x58 151 := ⟨_, rfl⟩
  rw [← hx59]
  have zx59 : hs_z0 I J x59 (156) := by rw [hx59]; exact z0_st (z0_m zx58 (by omega)) (by omega)
  have g12_x59 : x59 0 12 = some 139 := by rw [hx59, st_ne (by omega)]; exact g12_x58
  have g13_x59 : x59 0 13 = some 140 := by rw [hx59, st_ne (by omega)]; exact g13_x58
  refine hn_aastore rfl rfl (by decide) (by omega) (show (0 + 1 : Int32).toInt = ((1 : Nat) : Int) by decide) (by omega) (by omega) rfl ?_
  obtain ⟨x60, hx60⟩ : ∃ z, z = hn_u x59 139 1 (some 151) := ⟨_, rfl⟩
  rw [← hx60]
  have zx60 : hs_z0 I J x60 (156) := by rw [hx60]; exact z0_u (z0_m zx59 (by omega)) (by omega)
  have g12_x60 : x60 0 12 = some 139 := by rw [hx60, hn_u_ne _ _ _ (by omega)]; exact g12_x59
  have g13_x60 : x60 0 13 = some 140 := by rw [hx60, hn_u_ne _ _ _ (by omega)]; exact g13_x59
  refine hn_aload_n rfl rfl ?_
  refine hn_getR rfl rfl (by omega) rfl g13_x60 ?_
  refine hn_iload_n rfl rfl ?_
  refine hn_new (kc2 := 31) (ks2 := 501) rfl rfl rfl (by omega) (by decide) rfl rfl ?_
  rw [hz_z (a := 156) zx60 (by omega) (by omega)]
  refine hn_nn (m := 157) rfl ?_
  refine hn_dup rfl rfl ?_
  refine hn_callI (kc2 := 28) (ks2 := 477) rfl rfl (by decide) hk_Seen_init rfl rfl rfl rfl (Nat.le_of_ble_eq_true rfl) (c_Seen_init (by decide +kernel) (by omega) (z0_m zx60 (by omega))) (by omega) rfl rfl (fun r n D h _ => by have := h.2.1; omega) (fun r n' D' q => ?_)
  obtain ⟨rfl, rfl, rfl⟩ := q
  refine hn_nn (m := 160) rfl ?_
  obtain ⟨x61, hx61⟩ : ∃ z, z = sn_R x60 156 := ⟨_, rfl⟩
  rw [← hx61]
  have zx61 : hs_z0 I J x61 (160) := by rw [hx61]; exact z0_sn (z0_m zx60 (by omega)) (by omega)
  have g12_x61 : x61 0 12 = some 139 := by rw [hx61, sn_ne (by omega)]; exact g12_x60
  have g13_x61 : x61 0 13 = some 140 := by rw [hx61, sn_ne (by omega)]; exact g13_x60
  refine hn_aastore rfl rfl (by decide) (by omega) (show (0 + 1 : Int32).toInt = ((1 : Nat) : Int) by decide) (by omega) (by omega) rfl ?_
  obtain ⟨x62, hx62⟩ : ∃ z, z = hn_u x61 140 1 (some 156) := ⟨_, rfl⟩
  rw [← hx62]
  have zx62 : hs_z0 I J x62 (160) := by rw [hx62]; exact z0_u (z0_m zx61 (by omega)) (by omega)
  have g12_x62 : x62 0 12 = some 139 := by rw [hx62, hn_u_ne _ _ _ (by omega)]; exact g12_x61
  have g13_x62 : x62 0 13 = some 140 := by rw [hx62, hn_u_ne _ _ _ (by omega)]; exact g13_x61
  refine hn_iinc (v := .null) rfl rfl (Nat.le_of_ble_eq_true rfl) ?_
  refine hn_goto rfl ?_
  refine hn_iload_n rfl rfl ?_
  refine hn_iconst rfl ?_
  refine hn_icmp_ge rfl (fun c => absurd c (show ¬ (4 : Int32) ≤ 0 + 1 + 1 by decide)) (fun _ => ?_)
  refine hn_aload_n rfl rfl ?_
  refine hn_getR rfl rfl (by omega) rfl g12_x62 ?_
  refine hn_iload_n rfl rfl ?_
  refine hn_new (kc2 := 27) (ks2 := 470) rfl rfl rfl (by omega) (by decide) rfl rfl ?_
  rw [hz_z (a := 160) zx62 (by omega) (by omega)]
  refine hn_nn (m := 161) rfl ?_
  refine hn_dup rfl rfl ?_
  refine hn_callI (kc2 := 23) (ks2 := 450) rfl rfl (by decide) hk_State_init rfl rfl rfl rfl (Nat.le_of_ble_eq_true rfl) (c_State_init (by decide +kernel) (by omega) (z0_m zx62 (by omega))) (by omega) rfl rfl (fun r n D h _ => by have := h.2.1; omega) (fun r n' D' q => ?_)
  obtain ⟨rfl, rfl, rfl⟩ := q
  refine hn_nn (m := 165) rfl ?_
  obtain ⟨x63, hx63⟩ : ∃ z, z = st_R x62 160 := ⟨_, rfl⟩
  rw [← hx63]
  have zx63 : hs_z0 I J x63 (165) := by rw [hx63]; exact z0_st (z0_m zx62 (by omega)) (by omega)
  have g12_x63 : x63 0 12 = some 139 := by rw [hx63, st_ne (by omega)]; exact g12_x62
  have g13_x63 : x63 0 13 = some 140 := by rw [hx63, st_ne (by omega)]; exact g13_x62
  refine hn_aastore rfl rfl (by decide) (by omega) (show (0 + 1 + 1 : Int32).toInt = ((2 : Nat) : Int) by decide) (by omega) (by omega) rfl ?_
  obtain ⟨x64, hx64⟩ : ∃ z, z = hn_u x63 139 2 (some 160) := ⟨_, rfl⟩
  rw [← hx64]
  have zx64 : hs_z0 I J x64 (165) := by rw [hx64]; exact z0_u (z0_m zx63 (by omega)) (by omega)
  have g12_x64 : x64 0 12 = some 139 := by rw [hx64, hn_u_ne _ _ _ (by omega)]; exact g12_x63
  have g13_x64 : x64 0 13 = some 140 := by rw [hx64, hn_u_ne _ _ _ (by omega)]; exact g13_x63
  refine hn_aload_n rfl rfl ?_
  refine hn_getR rfl rfl (by omega) rfl g13_x64 ?_
  refine hn_iload_n rfl rfl ?_
  refine hn_new (kc2 := 22) (ks2 := 445) rfl rfl rfl (by omega) (by decide) rfl rfl ?_
  rw [hz_z (a := 165) zx64 (by omega) (by omega)]
  refine hn_nn (m := 166) rfl ?_
  refine hn_dup rfl rfl ?_
  refine hn_callI (kc2 := 19) (ks2 := 421) rfl rfl (by decide) hk_Seen_init rfl rfl rfl rfl (Nat.le_of_ble_eq_true rfl) (c_Seen_init (by decide +kernel) (by omega) (z0_m zx64 (by omega))) (by omega) rfl rfl (fun r n D h _ => by have := h.2.1; omega) (fun r n' D' q => ?_)
  obtain ⟨rfl, rfl, rfl⟩ := q
  refine hn_nn (m := 169) rfl ?_
  obtain ⟨x65, hx65⟩ : ∃ z, z = sn_R x64 165 := ⟨_, rfl⟩
  rw [← hx65]
  have zx65 : hs_z0 I J x65 (169) := by rw [hx65]; exact z0_sn (z0_m zx64 (by omega)) (by omega)
  have g12_x65 : x65 0 12 = some 139 := by rw [hx65, sn_ne (by omega)]; exact g12_x64
  have g13_x65 : x65 0 13 = some 140 := by rw [hx65, sn_ne (by omega)]; exact g13_x64
  refine hn_aastore rfl rfl (by decide) (by omega) (show (0 + 1 + 1 : Int32).toInt = ((2 : Nat) : Int) by decide) (by omega) (by omega) rfl ?_
  obtain ⟨x66, hx66⟩ : ∃ z, z = hn_u x65 140 2 (some 165) := ⟨_, rfl⟩
  rw [← hx66]
  have zx66 : hs_z0 I J x66 (169) := by rw [hx66]; exact z0_u (z0_m zx65 (by omega)) (by omega)
  have g12_x66 : x66 0 12 = some 139 := by rw [hx66, hn_u_ne _ _ _ (by omega)]; exact g12_x65
  have g13_x66 : x66 0 13 = some 140 := by rw [hx66, hn_u_ne _ _ _ (by omega)]; exact g13_x65
  refine hn_iinc (v := .null) rfl rfl (Nat.le_of_ble_eq_true rfl) ?_
  refine hn_goto rfl ?_
  refine hn_iload_n rfl rfl ?_
  refine hn_iconst rfl ?_
  refine hn_icmp_ge rfl (fun c => absurd c (show ¬ (4 : Int32) ≤ 0 + 1 + 1 + 1 by decide)) (fun _ => ?_)
  refine hn_aload_n rfl rfl ?_
  refine hn_getR rfl rfl (by omega) rfl g12_x66 ?_
  refine hn_iload_n rfl rfl ?_
  refine hn_new (kc2 := 18) (ks2 := 414) rfl rfl rfl (by omega) (by decide) rfl rfl ?_
  rw [hz_z (a := 169) zx66 (by omega) (by omega)]
  refine hn_nn (m := 170) rfl ?_
  refine hn_dup rfl rfl ?_
  refine hn_callI (kc2 := 14) (ks2 := 394) rfl rfl (by decide) hk_State_init rfl rfl rfl rfl (Nat.le_of_ble_eq_true rfl) (c_State_init (by decide +kernel) (by omega) (z0_m zx66 (by omega))) (by omega) rfl rfl (fun r n D h _ => by have := h.2.1; omega) (fun r n' D' q => ?_)
  obtain ⟨rfl, rfl, rfl⟩ := q
  refine hn_nn (m := 174) rfl ?_
  obtain ⟨x67, hx67⟩ : ∃ z, z = st_R x66 169 := ⟨_, rfl⟩
  rw [← hx67]
  have zx67 : hs_z0 I J x67 (174) := by rw [hx67]; exact z0_st (z0_m zx66 (by omega)) (by omega)
  have g12_x67 : x67 0 12 = some 139 := by rw [hx67, st_ne (by omega)]; exact g12_x66
  have g13_x67 : x67 0 13 = some 140 := by rw [hx67, st_ne (by omega)]; exact g13_x66
  refine hn_aastore rfl rfl (by decide) (by omega) (show (0 + 1 + 1 + 1 : Int32).toInt = ((3 : Nat) : Int) by decide) (by omega) (by omega) rfl ?_
  obtain ⟨x68, hx68⟩ : ∃ z, z = hn_u x67 139 3 (some 169) := ⟨_, rfl⟩
  rw [← hx68]
  have zx68 : hs_z0 I J x68 (174) := by rw [hx68]; exact z0_u (z0_m zx67 (by omega)) (by omega)
  have g12_x68 : x68 0 12 = some 139 := by rw [hx68, hn_u_ne _ _ _ (by omega)]; exact g12_x67
  have g13_x68 : x68 0 13 = some 140 := by rw [hx68, hn_u_ne _ _ _ (by omega)]; exact g13_x67
  refine hn_aload_n rfl rfl ?_
  refine hn_getR rfl rfl (by omega) rfl g13_x68 ?_
  refine hn_iload_n rfl rfl ?_
  refine hn_new (kc2 := 13) (ks2 := 389) rfl rfl rfl (by omega) (by decide) rfl rfl ?_
  rw [hz_z (a := 174) zx68 (by omega) (by omega)]
  refine hn_nn (m := 175) rfl ?_
  refine hn_dup rfl rfl ?_
  refine hn_callI (kc2 := 10) (ks2 := 365) rfl rfl (by decide) hk_Seen_init rfl rfl rfl rfl (Nat.le_of_ble_eq_true rfl) (c_Seen_init (by decide +kernel) (by omega) (z0_m zx68 (by omega))) (by omega) rfl rfl (fun r n D h _ => by have := h.2.1; omega) (fun r n' D' q => ?_)
  obtain ⟨rfl, rfl, rfl⟩ := q
  refine hn_nn (m := 178) rfl ?_
  obtain ⟨x69, hx69⟩ : ∃ z, z = sn_R x68 174 := ⟨_, rfl⟩
  rw [← hx69]
  have zx69 : hs_z0 I J x69 (178) := by rw [hx69]; exact z0_sn (z0_m zx68 (by omega)) (by omega)
  have g12_x69 : x69 0 12 = some 139 := by rw [hx69, sn_ne (by omega)]; exact g12_x68
  have g13_x69 : x69 0 13 = some 140 := by rw [hx69, sn_ne (by omega)]; exact g13_x68
  refine hn_aastore rfl rfl (by decide) (by omega) (show (0 + 1 + 1 + 1 : Int32).toInt = ((3 : Nat) : Int) by decide) (by omega) (by omega) rfl ?_
  obtain ⟨x70, hx70⟩ : ∃ z, z = hn_u x69 140 3 (some 174) := ⟨_, rfl⟩
  rw [← hx70]
  have zx70 : hs_z0 I J x70 (178) := by rw [hx70]; exact z0_u (z0_m zx69 (by omega)) (by omega)
  have g12_x70 : x70 0 12 = some 139 := by rw [hx70, hn_u_ne _ _ _ (by omega)]; exact g12_x69
  have g13_x70 : x70 0 13 = some 140 := by rw [hx70, hn_u_ne _ _ _ (by omega)]; exact g13_x69
  refine hn_iinc (v := .null) rfl rfl (Nat.le_of_ble_eq_true rfl) ?_
  refine hn_goto rfl ?_
  refine hn_iload_n rfl rfl ?_
  refine hn_iconst rfl ?_
  refine hn_icmp_ge rfl (fun _ => ?_) (fun c => absurd (show (4 : Int32) ≤ 0 + 1 + 1 + 1 + 1 by decide) c)
  refine hn_aload_n rfl rfl ?_
  refine hn_new (kc2 := 9) (ks2 := 361) rfl rfl rfl (by omega) (by decide) rfl rfl ?_
  rw [hz_z (a := 178) zx70 (by omega) (by omega)]
  refine hn_nn (m := 179) rfl ?_
  refine hn_dup rfl rfl ?_
  refine hn_callI (kc2 := 5) (ks2 := 329) rfl rfl (by decide) hk_Ways_init rfl rfl rfl rfl (Nat.le_of_ble_eq_true rfl) (c_Ways_init (by decide +kernel) (by omega) (z0_m zx70 (by omega))) (by omega) rfl rfl (fun r n D h _ => by have := h.2.1; omega) (fun r n' D' q => ?_)
  obtain ⟨rfl, rfl, rfl⟩ := q
  refine hn_nn (m := 183) rfl ?_
  obtain ⟨x71, hx71⟩ : ∃ z, z = wy_R x70 178 := ⟨_, rfl⟩
  rw [← hx71]
  have zx71 : hs_z0 I J x71 (183) := by rw [hx71]; exact z0_wy (z0_m zx70 (by omega)) (by omega)
  refine hn_putRF rfl rfl (by omega) rfl rfl rfl rfl (fun _ => ⟨rfl, rfl⟩) ?_
  obtain ⟨x72, hx72⟩ : ∃ z, z = hn_u x71 0 15 (some 178) := ⟨_, rfl⟩
  rw [← hx72]
  have zx72 : hs_z0 I J x72 (183) := by rw [hx72]; exact z0_u (z0_m zx71 (by omega)) (by omega)
  refine hn_aload_n rfl rfl ?_
  refine hn_new (kc2 := 4) (ks2 := 326) rfl rfl rfl (by omega) (by decide) rfl rfl ?_
  rw [hz_z (a := 183) zx72 (by omega) (by omega)]
  refine hn_nn (m := 184) rfl ?_
  refine hn_dup rfl rfl ?_
  refine hn_callI (kc2 := 2) (ks2 := 310) rfl rfl (by decide) hk_Search_init rfl rfl rfl rfl (Nat.le_of_ble_eq_true rfl) (c_Search_init (by decide +kernel) (by omega) (z0_m zx72 (by omega))) (by omega) rfl rfl (fun r n D h _ => by have := h.2.1; omega) (fun r n' D' q => ?_)
  obtain ⟨rfl, rfl, rfl⟩ := q
  refine hn_nn (m := 186) rfl ?_
  obtain ⟨x73, hx73⟩ : ∃ z, z = se_R x72 183 := ⟨_, rfl⟩
  rw [← hx73]
  have zx73 : hs_z0 I J x73 (186) := by rw [hx73]; exact z0_se (z0_m zx72 (by omega)) (by omega)
  refine hn_putRF rfl rfl (by omega) rfl rfl rfl rfl (fun _ => ⟨rfl, rfl⟩) ?_
  obtain ⟨x74, hx74⟩ : ∃ z, z = hn_u x73 0 16 (some 183) := ⟨_, rfl⟩
  rw [← hx74]
  have zx74 : hs_z0 I J x74 (186) := by rw [hx74]; exact z0_u (z0_m zx73 (by omega)) (by omega)
  refine hn_aload_n rfl rfl ?_
  refine hn_bipush rfl ?_
  refine hn_newarray1 (z := 31) (kc2 := 1) (ks2 := 279) rfl rfl (by decide) (by omega) (by omega) rfl rfl ?_
  rw [hz_z (a := 186) zx74 (by omega) (by omega)]
  refine hn_nn (m := 187) rfl ?_
  refine hn_putRF rfl rfl (by omega) rfl rfl rfl rfl (fun _ => ⟨rfl, rfl⟩) ?_
  obtain ⟨x75, hx75⟩ : ∃ z, z = hn_u x74 0 17 (some 186) := ⟨_, rfl⟩
  rw [← hx75]
  have zx75 : hs_z0 I J x75 (187) := by rw [hx75]; exact z0_u (z0_m zx74 (by omega)) (by omega)
  have g17_x75 : x75 0 17 = some 186 := by rw [hx75, hn_u_eq, va_up, if_pos rfl]
  refine hn_aload_n rfl rfl ?_
  refine hn_sipush rfl ?_
  refine hn_newarray1 (z := 279) (kc2 := 0) (ks2 := 0) rfl rfl (by decide) (by omega) (by omega) rfl rfl ?_
  rw [hz_z (a := 187) zx75 (by omega) (by omega)]
  refine hn_nn (m := 188) rfl ?_
  refine hn_putRF rfl rfl (by omega) rfl rfl rfl rfl (fun _ => ⟨rfl, rfl⟩) ?_
  obtain ⟨x76, hx76⟩ : ∃ z, z = hn_u x75 0 18 (some 187) := ⟨_, rfl⟩
  rw [← hx76]
  have zx76 : hs_z0 I J x76 (188) := by rw [hx76]; exact z0_u (z0_m zx75 (by omega)) (by omega)
  have g18_x76 : x76 0 18 = some 187 := by rw [hx76, hn_u_eq, va_up, if_pos rfl]
  exact hn_return_ (st := []) rfl trivial ⟨rfl, rfl, by rw [hx76, hx75, hx74, hx73, hx72, hx71, hx70, hx69, hx68, hx67, hx66, hx65, hx64, hx63, hx62, hx61, hx60, hx59, hx58, hx57, hx56, hx55, hx54, hx53, hx52, hx51, hx50, hx49, hx48, hx47, hx46, hx45, hx44, hx43, hx42, hx41, hx40, hx39, hx38, hx37, hx36, hx35, hx34, hx33, hx32, hx31, hx30, hx29, hx28, hx27, hx26, hx25, hx24, hx23, hx22, hx21, hx20, hx19, hx18, hx17, hx16, hx15, hx14, hx13, hx12, hx11, hx10, hx9, hx8, hx7, hx6, hx5, hx4, hx3, hx2, hx1]; rfl⟩
end HNfirst
