section HNcases
variable {I : Nat → Nat → Int32} {J : Nat → Nat → Int64} {R : Nat → Nat → Option Nat} {t t2 l l2 LL a kc ks : Nat} {N : sp_N} {S : sp_Q} {U : sp_U} {V : sp_V} {K : sp_K} {L : sp_L} {T : sp_T} {nm pm : Nat → Nat} {sc : Nat → Int32}
set_option maxRecDepth 100000 in
set_option maxHeartbeats 4000000 in
theorem lc_36 (hL : LL ≤ 3584) (ha : a + 7 ≤ LL) (hW : hs_Wo I J R t t2 l l2 N S U V K L T nm pm) (hS : l_S sc LL I) (ih : l_IH kc ks sc LL a) : hn_R false 60 kc ks hm_Law_law l_P 1234 (l_ls a) [] 213 (I, J, R) := by
  have hW0 := hW
  obtain ⟨⟨hA, zs, px, qs, r3, ⟨r4, r5, l3⟩, lx, vx, kx, tx, zn, nn⟩, hM0, n8, n4, Sw, Uw, Vw, Kw, Lw, l40, tpk, n1, Jw⟩ := hW0
  refine hn_aload_n rfl rfl ?_
  refine hn_aload_n rfl rfl ?_
  refine hn_iload rfl rfl ?_
  refine hn_iconst rfl ?_
  refine hn_iadd rfl ?_
  refine l_sload rfl hS hL (l_ix (c := 1) (by omega)) (by omega) ?_
  refine l_callV (b := 0) (ci := 0) rfl rfl hk_X_pull rfl rfl rfl rfl (Nat.le_of_ble_eq_true rfl) rfl (Nat.le_of_ble_eq_true rfl) (q_X_pull hA) (Nat.le_of_ble_eq_true rfl) (fun r1 D1 q1 s1 t9 => ?_)
  have hS2 := l_S_of hS s1 t9
  obtain ⟨q1, rfl⟩ := q1
  obtain ⟨I2, J2, rfl, hW2⟩ := W_sx hW q1
  refine hn_aload_n rfl rfl ?_
  refine hn_aload_n rfl rfl ?_
  refine hn_iload rfl rfl ?_
  refine hn_iconst rfl ?_
  refine hn_iadd rfl ?_
  refine l_sload rfl hS2 hL (l_ix (c := 1) (by omega)) (by omega) ?_
  refine l_callV (b := 188) (ci := 10) rfl rfl hk_M_pull rfl rfl rfl rfl (Nat.le_of_ble_eq_true rfl) rfl (Nat.le_of_ble_eq_true rfl) (q_M_pull hW2.2.1.1) (Nat.le_of_ble_eq_true rfl) (fun r2 D2 q2 s2 t8 => ?_)
  have hS3 := l_S_of hS2 s2 t8
  obtain ⟨q2, rfl⟩ := q2
  obtain ⟨I3, J3, rfl, hW3⟩ := W_sm hW2 q2
  exact hn_icmp_eq rfl (fun _ => ih _ (l_W_of hW3 hS3)) (fun c => absurd rfl c)
set_option maxRecDepth 100000 in
set_option maxHeartbeats 4000000 in
theorem lc_37 (hL : LL ≤ 3584) (ha : a + 7 ≤ LL) (hW : hs_Wo I J R t t2 l l2 N S U V K L T nm pm) (hS : l_S sc LL I) (ih : l_IH kc ks sc LL a) : hn_R false 60 kc ks hm_Law_law l_P 1259 (l_ls a) [] 213 (I, J, R) := by
  have hW0 := hW
  obtain ⟨⟨hA, zs, px, qs, r3, ⟨r4, r5, l3⟩, lx, vx, kx, tx, zn, nn⟩, hM0, n8, n4, Sw, Uw, Vw, Kw, Lw, l40, tpk, n1, Jw⟩ := hW0
  refine hn_aload_n rfl rfl ?_
  refine hn_aload_n rfl rfl ?_
  refine hn_iload rfl rfl ?_
  refine hn_iconst rfl ?_
  refine hn_iadd rfl ?_
  refine l_sload rfl hS hL (l_ix (c := 1) (by omega)) (by omega) ?_
  refine hn_aload_n rfl rfl ?_
  refine hn_iload rfl rfl ?_
  refine hn_iconst rfl ?_
  refine hn_iadd rfl ?_
  refine l_sload rfl hS hL (l_ix (c := 2) (by omega)) (by omega) ?_
  refine hn_aload_n rfl rfl ?_
  refine hn_iload rfl rfl ?_
  refine hn_iconst rfl ?_
  refine hn_iadd rfl ?_
  refine l_sload rfl hS hL (l_ix (c := 3) (by omega)) (by omega) ?_
  refine hn_aload_n rfl rfl ?_
  refine hn_iload rfl rfl ?_
  refine hn_iconst rfl ?_
  refine hn_iadd rfl ?_
  refine l_sload rfl hS hL (l_ix (c := 4) (by omega)) (by omega) ?_
  refine l_bool rfl rfl rfl rfl rfl ?_
  refine l_callV (b := 0) (ci := 0) rfl rfl hk_X_see rfl rfl rfl rfl (Nat.le_of_ble_eq_true rfl) rfl (Nat.le_of_ble_eq_true rfl) (q_X_see hA vx l_b01) (Nat.le_of_ble_eq_true rfl) (fun r1 D1 q1 s1 t9 => ?_)
  have hS2 := l_S_of hS s1 t9
  obtain ⟨q1, v1, rfl⟩ := q1
  obtain ⟨I2, rfl, hX2, e2⟩ := WX_see hW.1 q1 v1
  have hM2 := WM_same hW.2.1 e2 (fun _ _ => rfl)
  refine hn_aload_n rfl rfl ?_
  refine hn_aload_n rfl rfl ?_
  refine hn_iload rfl rfl ?_
  refine hn_iconst rfl ?_
  refine hn_iadd rfl ?_
  refine l_sload rfl hS2 hL (l_ix (c := 1) (by omega)) (by omega) ?_
  refine hn_aload_n rfl rfl ?_
  refine hn_iload rfl rfl ?_
  refine hn_iconst rfl ?_
  refine hn_iadd rfl ?_
  refine l_sload rfl hS2 hL (l_ix (c := 2) (by omega)) (by omega) ?_
  refine hn_aload_n rfl rfl ?_
  refine hn_iload rfl rfl ?_
  refine hn_iconst rfl ?_
  refine hn_iadd rfl ?_
  refine l_sload rfl hS2 hL (l_ix (c := 3) (by omega)) (by omega) ?_
  refine hn_aload_n rfl rfl ?_
  refine hn_iload rfl rfl ?_
  refine hn_iconst rfl ?_
  refine hn_iadd rfl ?_
  refine l_sload rfl hS2 hL (l_ix (c := 4) (by omega)) (by omega) ?_
  refine l_bool rfl rfl rfl rfl rfl ?_
  refine l_callV (b := 188) (ci := 10) rfl rfl hk_M_see rfl rfl rfl rfl (Nat.le_of_ble_eq_true rfl) rfl (Nat.le_of_ble_eq_true rfl) (q_M_see hM2.1 hM2.2.2.2.2.1 l_b01) (Nat.le_of_ble_eq_true rfl) (fun r2 D2 q2 s2 t8 => ?_)
  have hS3 := l_S_of hS2 s2 t8
  obtain ⟨q2, rfl⟩ := q2
  obtain ⟨I3, rfl, hM3, e3⟩ := WM_see hM2 q2
  exact hn_icmp_eq rfl (fun _ => ih _ (l_W_of ⟨WX_same hX2 e3 (fun _ _ => rfl), hM3, n8, n4, Sw, Uw, v_see_w l_b01 Vw vx.2.1, Kw, Lw, l40, tpk, n1, Jw⟩ hS3)) (fun c => absurd rfl c)
set_option maxRecDepth 100000 in
set_option maxHeartbeats 4000000 in
theorem lc_38 (hL : LL ≤ 3584) (ha : a + 7 ≤ LL) (hW : hs_Wo I J R t t2 l l2 N S U V K L T nm pm) (hS : l_S sc LL I) (ih : l_IH kc ks sc LL a) : hn_R false 60 kc ks hm_Law_law l_P 1336 (l_ls a) [] 213 (I, J, R) := by
  have hW0 := hW
  obtain ⟨⟨hA, zs, px, qs, r3, ⟨r4, r5, l3⟩, lx, vx, kx, tx, zn, nn⟩, hM0, n8, n4, Sw, Uw, Vw, Kw, Lw, l40, tpk, n1, Jw⟩ := hW0
  refine hn_aload_n rfl rfl ?_
  refine hn_aload_n rfl rfl ?_
  refine hn_iload rfl rfl ?_
  refine hn_iconst rfl ?_
  refine hn_iadd rfl ?_
  refine l_sload rfl hS hL (l_ix (c := 1) (by omega)) (by omega) ?_
  refine l_callV (b := 0) (ci := 0) rfl rfl hk_X_wills rfl rfl rfl rfl (Nat.le_of_ble_eq_true rfl) rfl (Nat.le_of_ble_eq_true rfl) (q_X_wills hA vx Vw) (Nat.le_of_ble_eq_true rfl) (fun r1 D1 q1 s1 t9 => ?_)
  have hS2 := l_S_of hS s1 t9
  obtain ⟨q1, rfl⟩ := q1
  obtain ⟨I2, J2, rfl, hW2⟩ := W_sx hW q1
  refine hn_aload_n rfl rfl ?_
  refine hn_aload_n rfl rfl ?_
  refine hn_iload rfl rfl ?_
  refine hn_iconst rfl ?_
  refine hn_iadd rfl ?_
  refine l_sload rfl hS2 hL (l_ix (c := 1) (by omega)) (by omega) ?_
  refine l_callV (b := 188) (ci := 10) rfl rfl hk_M_wills rfl rfl rfl rfl (Nat.le_of_ble_eq_true rfl) rfl (Nat.le_of_ble_eq_true rfl) (q_M_wills hW2.2.1.1 hW2.2.1.2.2.2.2.1 Vw) (Nat.le_of_ble_eq_true rfl) (fun r2 D2 q2 s2 t8 => ?_)
  have hS3 := l_S_of hS2 s2 t8
  obtain ⟨q2, rfl⟩ := q2
  obtain ⟨I3, J3, rfl, hW3⟩ := W_sm hW2 q2
  exact hn_icmp_eq rfl (fun _ => ih _ (l_W_of hW3 hS3)) (fun c => absurd rfl c)
set_option maxRecDepth 100000 in
set_option maxHeartbeats 4000000 in
theorem lc_39 (hL : LL ≤ 3584) (ha : a + 7 ≤ LL) (hW : hs_Wo I J R t t2 l l2 N S U V K L T nm pm) (hS : l_S sc LL I) (ih : l_IH kc ks sc LL a) : hn_R false 60 kc ks hm_Law_law l_P 1361 (l_ls a) [] 213 (I, J, R) := by
  have hW0 := hW
  obtain ⟨⟨hA, zs, px, qs, r3, ⟨r4, r5, l3⟩, lx, vx, kx, tx, zn, nn⟩, hM0, n8, n4, Sw, Uw, Vw, Kw, Lw, l40, tpk, n1, Jw⟩ := hW0
  refine hn_aload_n rfl rfl ?_
  refine l_callV (b := 0) (ci := 0) rfl rfl hk_X_ask rfl rfl rfl rfl (Nat.le_of_ble_eq_true rfl) rfl (Nat.le_of_ble_eq_true rfl) (q_X_ask hA vx Vw) (Nat.le_of_ble_eq_true rfl) (fun r1 D1 q1 s1 t9 => ?_)
  have hS2 := l_S_of hS s1 t9
  obtain ⟨q1, rfl⟩ := q1
  obtain ⟨I2, J2, rfl, hW2⟩ := W_sx hW q1
  refine hn_aload_n rfl rfl ?_
  refine l_callV (b := 188) (ci := 10) rfl rfl hk_M_ask rfl rfl rfl rfl (Nat.le_of_ble_eq_true rfl) rfl (Nat.le_of_ble_eq_true rfl) (q_M_ask hW2.2.1.1 hW2.2.1.2.2.2.2.1 Vw) (Nat.le_of_ble_eq_true rfl) (fun r2 D2 q2 s2 t8 => ?_)
  have hS3 := l_S_of hS2 s2 t8
  obtain ⟨q2, rfl⟩ := q2
  obtain ⟨I3, J3, rfl, hW3⟩ := W_sm hW2 q2
  exact hn_icmp_eq rfl (fun _ => ih _ (l_W_of hW3 hS3)) (fun c => absurd rfl c)
set_option maxRecDepth 100000 in
set_option maxHeartbeats 4000000 in
theorem lc_40 (hL : LL ≤ 3584) (ha : a + 7 ≤ LL) (hW : hs_Wo I J R t t2 l l2 N S U V K L T nm pm) (hS : l_S sc LL I) (ih : l_IH kc ks sc LL a) : hn_R false 60 kc ks hm_Law_law l_P 1374 (l_ls a) [] 213 (I, J, R) := by
  have hW0 := hW
  obtain ⟨⟨hA, zs, px, qs, r3, ⟨r4, r5, l3⟩, lx, vx, kx, tx, zn, nn⟩, hM0, n8, n4, Sw, Uw, Vw, Kw, Lw, l40, tpk, n1, Jw⟩ := hW0
  refine hn_aload_n rfl rfl ?_
  refine hn_aload_n rfl rfl ?_
  refine hn_iload rfl rfl ?_
  refine hn_iconst rfl ?_
  refine hn_iadd rfl ?_
  refine l_sload rfl hS hL (l_ix (c := 1) (by omega)) (by omega) ?_
  refine hn_aload_n rfl rfl ?_
  refine hn_iload rfl rfl ?_
  refine hn_iconst rfl ?_
  refine hn_iadd rfl ?_
  refine l_sload rfl hS hL (l_ix (c := 2) (by omega)) (by omega) ?_
  refine hn_aload_n rfl rfl ?_
  refine hn_iload rfl rfl ?_
  refine hn_iconst rfl ?_
  refine hn_iadd rfl ?_
  refine l_sload rfl hS hL (l_ix (c := 3) (by omega)) (by omega) ?_
  refine l_callV (b := 0) (ci := 0) rfl rfl hk_X_chance rfl rfl rfl rfl (Nat.le_of_ble_eq_true rfl) rfl (Nat.le_of_ble_eq_true rfl) (q_X_chance hA) (Nat.le_of_ble_eq_true rfl) (fun r1 D1 q1 s1 t9 => ?_)
  have hS2 := l_S_of hS s1 t9
  obtain ⟨q1, rfl⟩ := q1
  obtain ⟨I2, J2, rfl, hW2⟩ := W_sx hW q1
  refine hn_aload_n rfl rfl ?_
  refine hn_aload_n rfl rfl ?_
  refine hn_iload rfl rfl ?_
  refine hn_iconst rfl ?_
  refine hn_iadd rfl ?_
  refine l_sload rfl hS2 hL (l_ix (c := 1) (by omega)) (by omega) ?_
  refine hn_aload_n rfl rfl ?_
  refine hn_iload rfl rfl ?_
  refine hn_iconst rfl ?_
  refine hn_iadd rfl ?_
  refine l_sload rfl hS2 hL (l_ix (c := 2) (by omega)) (by omega) ?_
  refine hn_aload_n rfl rfl ?_
  refine hn_iload rfl rfl ?_
  refine hn_iconst rfl ?_
  refine hn_iadd rfl ?_
  refine l_sload rfl hS2 hL (l_ix (c := 3) (by omega)) (by omega) ?_
  refine l_callV (b := 188) (ci := 10) rfl rfl hk_M_chance rfl rfl rfl rfl (Nat.le_of_ble_eq_true rfl) rfl (Nat.le_of_ble_eq_true rfl) (q_M_chance hW2.2.1.1) (Nat.le_of_ble_eq_true rfl) (fun r2 D2 q2 s2 t8 => ?_)
  have hS3 := l_S_of hS2 s2 t8
  obtain ⟨q2, rfl⟩ := q2
  obtain ⟨I3, J3, rfl, hW3⟩ := W_sm hW2 q2
  exact hn_icmp_eq rfl (fun _ => ih _ (l_W_of hW3 hS3)) (fun c => absurd rfl c)
set_option maxRecDepth 100000 in
set_option maxHeartbeats 4000000 in
theorem lc_42 (hL : LL ≤ 3584) (ha : a + 7 ≤ LL) (hW : hs_Wo I J R t t2 l l2 N S U V K L T nm pm) (hS : l_S sc LL I) (ih : l_IH kc ks sc LL a) : hn_R false 60 kc ks hm_Law_law l_P 1515 (l_ls a) [] 213 (I, J, R) := by
  have hW0 := hW
  obtain ⟨⟨hA, zs, px, qs, r3, ⟨r4, r5, l3⟩, lx, vx, kx, tx, zn, nn⟩, hM0, n8, n4, Sw, Uw, Vw, Kw, Lw, l40, tpk, n1, Jw⟩ := hW0
  refine hn_aload_n rfl rfl ?_
  refine hn_aload_n rfl rfl ?_
  refine hn_iload rfl rfl ?_
  refine hn_iconst rfl ?_
  refine hn_iadd rfl ?_
  refine l_sload rfl hS hL (l_ix (c := 1) (by omega)) (by omega) ?_
  refine hn_aload_n rfl rfl ?_
  refine hn_iload rfl rfl ?_
  refine hn_iconst rfl ?_
  refine hn_iadd rfl ?_
  refine l_sload rfl hS hL (l_ix (c := 2) (by omega)) (by omega) ?_
  refine hn_aload_n rfl rfl ?_
  refine hn_iload rfl rfl ?_
  refine hn_iconst rfl ?_
  refine hn_iadd rfl ?_
  refine l_sload rfl hS hL (l_ix (c := 3) (by omega)) (by omega) ?_
  refine l_callV (b := 0) (ci := 0) rfl rfl hk_X_seasons rfl rfl rfl rfl (Nat.le_of_ble_eq_true rfl) rfl (Nat.le_of_ble_eq_true rfl) (q_X_seasons hA n1) (Nat.le_of_ble_eq_true rfl) (fun r1 D1 q1 s1 t9 => ?_)
  have hS2 := l_S_of hS s1 t9
  obtain ⟨q1, rfl⟩ := q1
  obtain ⟨I2, J2, rfl, hW2⟩ := W_sx hW q1
  refine hn_aload_n rfl rfl ?_
  refine hn_aload_n rfl rfl ?_
  refine hn_iload rfl rfl ?_
  refine hn_iconst rfl ?_
  refine hn_iadd rfl ?_
  refine l_sload rfl hS2 hL (l_ix (c := 1) (by omega)) (by omega) ?_
  refine hn_aload_n rfl rfl ?_
  refine hn_iload rfl rfl ?_
  refine hn_iconst rfl ?_
  refine hn_iadd rfl ?_
  refine l_sload rfl hS2 hL (l_ix (c := 2) (by omega)) (by omega) ?_
  refine hn_aload_n rfl rfl ?_
  refine hn_iload rfl rfl ?_
  refine hn_iconst rfl ?_
  refine hn_iadd rfl ?_
  refine l_sload rfl hS2 hL (l_ix (c := 3) (by omega)) (by omega) ?_
  refine l_callV (b := 188) (ci := 10) rfl rfl hk_M_seasons rfl rfl rfl rfl (Nat.le_of_ble_eq_true rfl) rfl (Nat.le_of_ble_eq_true rfl) (q_M_seasons hW2.2.1.1 n1) (Nat.le_of_ble_eq_true rfl) (fun r2 D2 q2 s2 t8 => ?_)
  have hS3 := l_S_of hS2 s2 t8
  obtain ⟨q2, rfl⟩ := q2
  obtain ⟨I3, J3, rfl, hW3⟩ := W_sm hW2 q2
  exact hn_icmp_eq rfl (fun _ => ih _ (l_W_of hW3 hS3)) (fun c => absurd rfl c)
set_option maxRecDepth 100000 in
set_option maxHeartbeats 4000000 in
theorem lc_43 (hL : LL ≤ 3584) (ha : a + 7 ≤ LL) (hW : hs_Wo I J R t t2 l l2 N S U V K L T nm pm) (hS : l_S sc LL I) (ih : l_IH kc ks sc LL a) : hn_R false 60 kc ks hm_Law_law l_P 1564 (l_ls a) [] 213 (I, J, R) := by
  have hW0 := hW
  obtain ⟨⟨hA, zs, px, qs, r3, ⟨r4, r5, l3⟩, lx, vx, kx, tx, zn, nn⟩, hM0, n8, n4, Sw, Uw, Vw, Kw, Lw, l40, tpk, n1, Jw⟩ := hW0
  obtain ⟨nw, p1, p2, p3, p4, p5⟩ := px
  refine hn_aload_n rfl rfl ?_
  refine hn_aload_n rfl rfl ?_
  refine hn_iload rfl rfl ?_
  refine hn_iconst rfl ?_
  refine hn_iadd rfl ?_
  refine l_sload rfl hS hL (l_ix (c := 1) (by omega)) (by omega) ?_
  refine hn_aload_n rfl rfl ?_
  refine hn_iload rfl rfl ?_
  refine hn_iconst rfl ?_
  refine hn_iadd rfl ?_
  refine l_sload rfl hS hL (l_ix (c := 2) (by omega)) (by omega) ?_
  refine l_bool rfl rfl rfl rfl rfl ?_
  refine l_callV (b := 0) (ci := 0) rfl rfl hk_X_mark rfl rfl rfl rfl (Nat.le_of_ble_eq_true rfl) rfl (Nat.le_of_ble_eq_true rfl) (q_X_mark (Y := (U, V, K)) hA zs p3 vx kx (fun m q h1 h2 => (Kw m q h1 h2).1) l_b01) (Nat.le_of_ble_eq_true rfl) (fun r1 D1 q1 s1 t9 => ?_)
  have hS2 := l_S_of hS s1 t9
  obtain ⟨q1, rfl⟩ := q1
  have Y2 := u_mark_w (x := sc (a + 1)) (b := (if sc (a + 2) = 0 then (0 : Int32) else 1)) Uw Vw Kw
  obtain ⟨I2, rfl, hX2, e2⟩ := WX_mark hW.1 q1 u_mark_p Y2.1.1
  have hM2 := WM_same hW.2.1 e2 (fun _ _ => rfl)
  refine hn_aload_n rfl rfl ?_
  refine hn_aload_n rfl rfl ?_
  refine hn_iload rfl rfl ?_
  refine hn_iconst rfl ?_
  refine hn_iadd rfl ?_
  refine l_sload rfl hS2 hL (l_ix (c := 1) (by omega)) (by omega) ?_
  refine hn_aload_n rfl rfl ?_
  refine hn_iload rfl rfl ?_
  refine hn_iconst rfl ?_
  refine hn_iadd rfl ?_
  refine l_sload rfl hS2 hL (l_ix (c := 2) (by omega)) (by omega) ?_
  refine l_bool rfl rfl rfl rfl rfl ?_
  refine l_callV (b := 188) (ci := 10) rfl rfl hk_M_mark rfl rfl rfl rfl (Nat.le_of_ble_eq_true rfl) rfl (Nat.le_of_ble_eq_true rfl) (q_M_mark (Y := (U, V, K)) hM2.1 hM2.2.1.1 hM2.2.2.2.2.1 hM2.2.2.2.2.2.1 l_b01) (Nat.le_of_ble_eq_true rfl) (fun r2 D2 q2 s2 t8 => ?_)
  have hS3 := l_S_of hS2 s2 t8
  obtain ⟨q2, rfl⟩ := q2
  obtain ⟨I3, rfl, hM3, e3⟩ := WM_mark hM2 q2 u_mark_p Y2.1.1
  exact hn_icmp_eq rfl (fun _ => ih _ (l_W_of ⟨WX_same hX2 e3 (fun _ _ => rfl), hM3, n8, n4, Sw, Y2.1, Y2.2.1, Y2.2.2, Lw, l40, tpk, n1, Jw⟩ hS3)) (fun c => absurd rfl c)
set_option maxRecDepth 100000 in
set_option maxHeartbeats 4000000 in
theorem lc_44 (hL : LL ≤ 3584) (ha : a + 7 ≤ LL) (hW : hs_Wo I J R t t2 l l2 N S U V K L T nm pm) (hS : l_S sc LL I) (ih : l_IH kc ks sc LL a) : hn_R false 60 kc ks hm_Law_law l_P 1617 (l_ls a) [] 213 (I, J, R) := by
  have hW0 := hW
  obtain ⟨⟨hA, zs, px, qs, r3, ⟨r4, r5, l3⟩, lx, vx, kx, tx, zn, nn⟩, hM0, n8, n4, Sw, Uw, Vw, Kw, Lw, l40, tpk, n1, Jw⟩ := hW0
  obtain ⟨nw, p1, p2, p3, p4, p5⟩ := px
  have hlk : hn_kind l = (0, 4) := by rcases l3 with ⟨z, _⟩ | ⟨z, _⟩ <;> rw [z] <;> rfl
  refine hn_aload_n rfl rfl ?_
  refine hn_aload_n rfl rfl ?_
  refine hn_iload rfl rfl ?_
  refine hn_iconst rfl ?_
  refine hn_iadd rfl ?_
  refine l_sload rfl hS hL (l_ix (c := 1) (by omega)) (by omega) ?_
  refine l_callV (b := 0) (ci := 0) rfl rfl hk_X_count rfl rfl rfl rfl (Nat.le_of_ble_eq_true rfl) rfl (Nat.le_of_ble_eq_true rfl) (q_X_count hA vx.1 p3 r4 hlk lx.1 tx.1) (Nat.le_of_ble_eq_true rfl) (fun r1 D1 q1 s1 t9 => ?_)
  have hS2 := l_S_of hS s1 t9
  obtain ⟨q1, rfl⟩ := q1
  obtain ⟨I2, J2, rfl, hW2⟩ := W_sx hW q1
  refine hn_aload_n rfl rfl ?_
  refine hn_aload_n rfl rfl ?_
  refine hn_iload rfl rfl ?_
  refine hn_iconst rfl ?_
  refine hn_iadd rfl ?_
  refine l_sload rfl hS2 hL (l_ix (c := 1) (by omega)) (by omega) ?_
  refine l_callV (b := 188) (ci := 10) rfl rfl hk_M_count rfl rfl rfl rfl (Nat.le_of_ble_eq_true rfl) rfl (Nat.le_of_ble_eq_true rfl) (q_M_count hW2.2.1.1 hW2.2.1.2.2.2.2.1.1 hW2.2.1.2.1.1 hW2.2.1.2.2.2.1.1 hW2.2.1.2.2.2.2.2.2.1.1) (Nat.le_of_ble_eq_true rfl) (fun r2 D2 q2 s2 t8 => ?_)
  have hS3 := l_S_of hS2 s2 t8
  obtain ⟨q2, rfl⟩ := q2
  obtain ⟨I3, J3, rfl, hW3⟩ := W_sm hW2 q2
  exact hn_icmp_eq rfl (fun _ => ih _ (l_W_of hW3 hS3)) (fun c => absurd rfl c)
end HNcases
