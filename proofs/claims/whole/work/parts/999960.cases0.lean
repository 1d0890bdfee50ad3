section HNcases
variable {I : Nat → Nat → Int32} {J : Nat → Nat → Int64} {R : Nat → Nat → Option Nat} {t t2 l l2 LL a kc ks : Nat} {N : sp_N} {S : sp_Q} {U : sp_U} {V : sp_V} {K : sp_K} {L : sp_L} {T : sp_T} {nm pm : Nat → Nat} {sc : Nat → Int32}
set_option maxRecDepth 100000 in
set_option maxHeartbeats 4000000 in
theorem lc_0 (hL : LL ≤ 3584) (ha : a + 7 ≤ LL) (hW : hs_Wo I J R t t2 l l2 N S U V K L T nm pm) (hS : l_S sc LL I) (ih : l_IH kc ks sc LL a) : hn_R false 60 kc ks hm_Law_law l_P 236 (l_ls a) [] 213 (I, J, R) := by
  have hW0 := hW
  obtain ⟨⟨hA, zs, px, qs, r3, ⟨r4, r5, l3⟩, lx, vx, kx, tx, zn, nn⟩, hM0, n8, n4, Sw, Uw, Vw, Kw, Lw, l40, tpk, n1, Jw⟩ := hW0
  refine hn_aload_n rfl rfl ?_
  refine hn_aload_n rfl rfl ?_
  refine hn_iload rfl rfl ?_
  refine hn_iconst rfl ?_
  refine hn_iadd rfl ?_
  refine l_sload rfl hS hL (l_ix (c := 1) (by omega)) (by omega) ?_
  refine hn_i2l rfl ?_
  refine hn_bipush rfl ?_
  refine hn_lshl rfl ?_
  refine hn_aload_n rfl rfl ?_
  refine hn_iload rfl rfl ?_
  refine hn_iconst rfl ?_
  refine hn_iadd rfl ?_
  refine l_sload rfl hS hL (l_ix (c := 2) (by omega)) (by omega) ?_
  refine hn_i2l rfl ?_
  refine hn_ldc2_w rfl ?_
  refine hn_land rfl ?_
  refine hn_lor rfl ?_
  refine hn_aload_n rfl rfl ?_
  refine hn_iload rfl rfl ?_
  refine hn_iconst rfl ?_
  refine hn_iadd rfl ?_
  refine l_sload rfl hS hL (l_ix (c := 3) (by omega)) (by omega) ?_
  refine hn_i2l rfl ?_
  refine hn_bipush rfl ?_
  refine hn_lshl rfl ?_
  refine hn_aload_n rfl rfl ?_
  refine hn_iload rfl rfl ?_
  refine hn_iconst rfl ?_
  refine hn_iadd rfl ?_
  refine l_sload rfl hS hL (l_ix (c := 4) (by omega)) (by omega) ?_
  refine hn_i2l rfl ?_
  refine hn_ldc2_w rfl ?_
  refine hn_land rfl ?_
  refine hn_lor rfl ?_
  refine hn_aload_n rfl rfl ?_
  refine hn_iload rfl rfl ?_
  refine hn_iconst rfl ?_
  refine hn_iadd rfl ?_
  refine l_sload rfl hS hL (l_ix (c := 5) (by omega)) (by omega) ?_
  refine hn_i2l rfl ?_
  refine hn_bipush rfl ?_
  refine hn_lshl rfl ?_
  refine hn_aload_n rfl rfl ?_
  refine hn_iload rfl rfl ?_
  refine hn_bipush rfl ?_
  refine hn_iadd rfl ?_
  refine l_sload rfl hS hL (l_ix (c := 6) (by omega)) (by omega) ?_
  refine hn_i2l rfl ?_
  refine hn_ldc2_w rfl ?_
  refine hn_land rfl ?_
  refine hn_lor rfl ?_
  refine l_callV (b := 0) (ci := 0) rfl rfl hk_X_feed rfl rfl rfl rfl (Nat.le_of_ble_eq_true rfl) rfl (Nat.le_of_ble_eq_true rfl) (q_X_feed hA.1 tx tpk) (Nat.le_of_ble_eq_true rfl) (fun r1 D1 q1 s1 t9 => ?_)
  have hS2 := l_S_of hS s1 t9
  obtain ⟨⟨I2, rfl, g1, g2, gT⟩, rfl⟩ := q1
  have hX2 := WX_feed hW.1 g1 gT
  have hM2 := WM_same hW.2.1 (fun b hb => g1 b (by omega) (by omega)) (fun _ _ => rfl)
  refine hn_aload_n rfl rfl ?_
  refine hn_aload_n rfl rfl ?_
  refine hn_iload rfl rfl ?_
  refine hn_iconst rfl ?_
  refine hn_iadd rfl ?_
  refine l_sload rfl hS2 hL (l_ix (c := 1) (by omega)) (by omega) ?_
  refine hn_i2l rfl ?_
  refine hn_bipush rfl ?_
  refine hn_lshl rfl ?_
  refine hn_aload_n rfl rfl ?_
  refine hn_iload rfl rfl ?_
  refine hn_iconst rfl ?_
  refine hn_iadd rfl ?_
  refine l_sload rfl hS2 hL (l_ix (c := 2) (by omega)) (by omega) ?_
  refine hn_i2l rfl ?_
  refine hn_ldc2_w rfl ?_
  refine hn_land rfl ?_
  refine hn_lor rfl ?_
  refine hn_aload_n rfl rfl ?_
  refine hn_iload rfl rfl ?_
  refine hn_iconst rfl ?_
  refine hn_iadd rfl ?_
  refine l_sload rfl hS2 hL (l_ix (c := 3) (by omega)) (by omega) ?_
  refine hn_i2l rfl ?_
  refine hn_bipush rfl ?_
  refine hn_lshl rfl ?_
  refine hn_aload_n rfl rfl ?_
  refine hn_iload rfl rfl ?_
  refine hn_iconst rfl ?_
  refine hn_iadd rfl ?_
  refine l_sload rfl hS2 hL (l_ix (c := 4) (by omega)) (by omega) ?_
  refine hn_i2l rfl ?_
  refine hn_ldc2_w rfl ?_
  refine hn_land rfl ?_
  refine hn_lor rfl ?_
  refine hn_aload_n rfl rfl ?_
  refine hn_iload rfl rfl ?_
  refine hn_iconst rfl ?_
  refine hn_iadd rfl ?_
  refine l_sload rfl hS2 hL (l_ix (c := 5) (by omega)) (by omega) ?_
  refine hn_i2l rfl ?_
  refine hn_bipush rfl ?_
  refine hn_lshl rfl ?_
  refine hn_aload_n rfl rfl ?_
  refine hn_iload rfl rfl ?_
  refine hn_bipush rfl ?_
  refine hn_iadd rfl ?_
  refine l_sload rfl hS2 hL (l_ix (c := 6) (by omega)) (by omega) ?_
  refine hn_i2l rfl ?_
  refine hn_ldc2_w rfl ?_
  refine hn_land rfl ?_
  refine hn_lor rfl ?_
  refine l_callV (b := 188) (ci := 10) rfl rfl hk_M_feed rfl rfl rfl rfl (Nat.le_of_ble_eq_true rfl) rfl (Nat.le_of_ble_eq_true rfl) (q_M_feed hM2.1.1 hM2.2.2.2.2.2.2.1 tpk) (Nat.le_of_ble_eq_true rfl) (fun r2 D2 q2 s2 t8 => ?_)
  have hS3 := l_S_of hS2 s2 t8
  obtain ⟨⟨I3, rfl, k1, k2, kT⟩, rfl⟩ := q2
  have hM3 := WM_feed hM2 k1 k2 kT
  exact hn_icmp_eq rfl (fun _ => ih _ (l_W_of ⟨WX_same hX2 (fun b hb => k1 b (by omega) (by omega)) (fun _ _ => rfl), hM3, n8, n4, Sw, Uw, Vw, Kw, Lw, l40, v_feed_ok tpk, n1, Jw⟩ hS3)) (fun c => absurd rfl c)
set_option maxRecDepth 100000 in
set_option maxHeartbeats 4000000 in
theorem lc_1 (hL : LL ≤ 3584) (ha : a + 7 ≤ LL) (hW : hs_Wo I J R t t2 l l2 N S U V K L T nm pm) (hS : l_S sc LL I) (ih : l_IH kc ks sc LL a) : hn_R false 60 kc ks hm_Law_law l_P 383 (l_ls a) [] 213 (I, J, R) := by
  have hW0 := hW
  obtain ⟨⟨hA, zs, px, qs, r3, ⟨r4, r5, l3⟩, lx, vx, kx, tx, zn, nn⟩, hM0, n8, n4, Sw, Uw, Vw, Kw, Lw, l40, tpk, n1, Jw⟩ := hW0
  refine hn_aload_n rfl rfl ?_
  refine l_callV (b := 0) (ci := 0) rfl rfl hk_X_net rfl rfl rfl rfl (Nat.le_of_ble_eq_true rfl) rfl (Nat.le_of_ble_eq_true rfl) (W_X_net hW) (Nat.le_of_ble_eq_true rfl) (fun r1 D1 q1 s1 t9 => ?_)
  have hS2 := l_S_of hS s1 t9
  obtain ⟨rfl, I2, J2, R2, rfl, hY, hM2⟩ := q1
  refine hn_aload_n rfl rfl ?_
  refine l_callV (b := 188) (ci := 10) rfl rfl hk_M_net rfl rfl rfl rfl (Nat.le_of_ble_eq_true rfl) rfl (Nat.le_of_ble_eq_true rfl) (W_M_net hY hM2 hW.2.2) (Nat.le_of_ble_eq_true rfl) (fun r2 D2 q2 s2 t8 => ?_)
  have hS3 := l_S_of hS2 s2 t8
  obtain ⟨rfl, I3, J3, t', t2', N', S', U', V', K', L', nm', pm', rfl, hW3⟩ := q2
  exact hn_icmp_eq rfl (fun _ => ih _ (l_W_of hW3 hS3)) (fun c => absurd rfl c)
set_option maxRecDepth 100000 in
set_option maxHeartbeats 4000000 in
theorem lc_2 (hL : LL ≤ 3584) (ha : a + 7 ≤ LL) (hW : hs_Wo I J R t t2 l l2 N S U V K L T nm pm) (hS : l_S sc LL I) (ih : l_IH kc ks sc LL a) : hn_R false 60 kc ks hm_Law_law l_P 396 (l_ls a) [] 213 (I, J, R) := by
  have hW0 := hW
  obtain ⟨⟨hA, zs, px, qs, r3, ⟨r4, r5, l3⟩, lx, vx, kx, tx, zn, nn⟩, hM0, n8, n4, Sw, Uw, Vw, Kw, Lw, l40, tpk, n1, Jw⟩ := hW0
  refine hn_aload_n rfl rfl ?_
  refine l_callV (b := 0) (ci := 0) rfl rfl hk_X_rest rfl rfl rfl rfl (Nat.le_of_ble_eq_true rfl) rfl (Nat.le_of_ble_eq_true rfl) (W_X_rest hW) (Nat.le_of_ble_eq_true rfl) (fun r1 D1 q1 s1 t9 => ?_)
  have hS2 := l_S_of hS s1 t9
  obtain ⟨rfl, I2, J2, R2, l', l2', rfl, hX2, hM2, h40⟩ := q1
  refine hn_aload_n rfl rfl ?_
  refine l_callV (b := 188) (ci := 10) rfl rfl hk_M_rest rfl rfl rfl rfl (Nat.le_of_ble_eq_true rfl) rfl (Nat.le_of_ble_eq_true rfl) (W_M_rest rfl h40 hX2 hM2 hW.2.2) (Nat.le_of_ble_eq_true rfl) (fun r2 D2 q2 s2 t8 => ?_)
  have hS3 := l_S_of hS2 s2 t8
  obtain ⟨rfl, I3, J3, rfl, hW3⟩ := q2
  exact hn_icmp_eq rfl (fun _ => ih _ (l_W_of hW3 hS3)) (fun c => absurd rfl c)
end HNcases
