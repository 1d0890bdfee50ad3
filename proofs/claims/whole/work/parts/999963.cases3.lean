section HNcases
variable {I : Nat → Nat → Int32} {J : Nat → Nat → Int64} {R : Nat → Nat → Option Nat} {t t2 l l2 LL a kc ks : Nat} {N : sp_N} {S : sp_Q} {U : sp_U} {V : sp_V} {K : sp_K} {L : sp_L} {T : sp_T} {nm pm : Nat → Nat} {sc : Nat → Int32}
set_option maxRecDepth 100000 in
set_option maxHeartbeats 4000000 in
theorem lc_25 (hL : LL ≤ 3584) (ha : a + 7 ≤ LL) (hW : hs_Wo I J R t t2 l l2 N S U V K L T nm pm) (hS : l_S sc LL I) (ih : l_IH kc ks sc LL a) : hn_R false 60 kc ks hm_Law_law l_P 995 (l_ls a) [] 213 (I, J, R) := by
  have hW0 := hW
  obtain ⟨⟨hA, zs, px, qs, r3, ⟨r4, r5, l3⟩, lx, vx, kx, tx, zn, nn⟩, hM0, n8, n4, Sw, Uw, Vw, Kw, Lw, l40, tpk, n1, Jw⟩ := hW0
  refine hn_aload_n rfl rfl ?_
  refine hn_aload_n rfl rfl ?_
  refine hn_iload rfl rfl ?_
  refine hn_iconst rfl ?_
  refine hn_iadd rfl ?_
  refine l_sload rfl hS hL (l_ix (c := 1) (by omega)) (by omega) ?_
  refine hn_aload_n rfl rfl ?_
  refine hn_iload rfl rfl ?_
  refine hn_iconst rfl ?_
  refine hn_iadd rfl ?_
  refine l_sload rfl hS hL (l_ix (c := 2) (by omega)) (by omega) ?_
  refine l_callV (b := 0) (ci := 0) rfl rfl hk_X_goal rfl rfl rfl rfl (Nat.le_of_ble_eq_true rfl) rfl (Nat.le_of_ble_eq_true rfl) (q_X_goal hA) (Nat.le_of_ble_eq_true rfl) (fun r1 D1 q1 s1 t9 => ?_)
  have hS2 := l_S_of hS s1 t9
  obtain ⟨q1, rfl⟩ := q1
  obtain ⟨I2, J2, rfl, hW2⟩ := W_sx hW q1
  refine hn_aload_n rfl rfl ?_
  refine hn_aload_n rfl rfl ?_
  refine hn_iload rfl rfl ?_
  refine hn_iconst rfl ?_
  refine hn_iadd rfl ?_
  refine l_sload rfl hS2 hL (l_ix (c := 1) (by omega)) (by omega) ?_
  refine hn_aload_n rfl rfl ?_
  refine hn_iload rfl rfl ?_
  refine hn_iconst rfl ?_
  refine hn_iadd rfl ?_
  refine l_sload rfl hS2 hL (l_ix (c := 2) (by omega)) (by omega) ?_
  refine l_callV (b := 188) (ci := 10) rfl rfl hk_M_goal rfl rfl rfl rfl (Nat.le_of_ble_eq_true rfl) rfl (Nat.le_of_ble_eq_true rfl) (q_M_goal hW2.2.1.1) (Nat.le_of_ble_eq_true rfl) (fun r2 D2 q2 s2 t8 => ?_)
  have hS3 := l_S_of hS2 s2 t8
  obtain ⟨q2, rfl⟩ := q2
  obtain ⟨I3, J3, rfl, hW3⟩ := W_sm hW2 q2
  exact hn_icmp_eq rfl (fun _ => ih _ (l_W_of hW3 hS3)) (fun c => absurd rfl c)
set_option maxRecDepth 100000 in
set_option maxHeartbeats 4000000 in
theorem lc_26 (hL : LL ≤ 3584) (ha : a + 7 ≤ LL) (hW : hs_Wo I J R t t2 l l2 N S U V K L T nm pm) (hS : l_S sc LL I) (ih : l_IH kc ks sc LL a) : hn_R false 60 kc ks hm_Law_law l_P 1032 (l_ls a) [] 213 (I, J, R) := by
  have hW0 := hW
  obtain ⟨⟨hA, zs, px, qs, r3, ⟨r4, r5, l3⟩, lx, vx, kx, tx, zn, nn⟩, hM0, n8, n4, Sw, Uw, Vw, Kw, Lw, l40, tpk, n1, Jw⟩ := hW0
  refine hn_aload_n rfl rfl ?_
  refine hn_aload_n rfl rfl ?_
  refine hn_iload rfl rfl ?_
  refine hn_iconst rfl ?_
  refine hn_iadd rfl ?_
  refine l_sload rfl hS hL (l_ix (c := 1) (by omega)) (by omega) ?_
  refine l_callV (b := 0) (ci := 0) rfl rfl hk_X_doze rfl rfl rfl rfl (Nat.le_of_ble_eq_true rfl) rfl (Nat.le_of_ble_eq_true rfl) (q_X_doze hA) (Nat.le_of_ble_eq_true rfl) (fun r1 D1 q1 s1 t9 => ?_)
  have hS2 := l_S_of hS s1 t9
  obtain ⟨q1, rfl⟩ := q1
  obtain ⟨I2, J2, rfl, hW2⟩ := W_sx hW q1
  refine hn_aload_n rfl rfl ?_
  refine hn_aload_n rfl rfl ?_
  refine hn_iload rfl rfl ?_
  refine hn_iconst rfl ?_
  refine hn_iadd rfl ?_
  refine l_sload rfl hS2 hL (l_ix (c := 1) (by omega)) (by omega) ?_
  refine l_callV (b := 188) (ci := 10) rfl rfl hk_M_doze rfl rfl rfl rfl (Nat.le_of_ble_eq_true rfl) rfl (Nat.le_of_ble_eq_true rfl) (q_M_doze hW2.2.1.1) (Nat.le_of_ble_eq_true rfl) (fun r2 D2 q2 s2 t8 => ?_)
  have hS3 := l_S_of hS2 s2 t8
  obtain ⟨q2, rfl⟩ := q2
  obtain ⟨I3, J3, rfl, hW3⟩ := W_sm hW2 q2
  exact hn_icmp_eq rfl (fun _ => ih _ (l_W_of hW3 hS3)) (fun c => absurd rfl c)
set_option maxRecDepth 100000 in
set_option maxHeartbeats 4000000 in
theorem lc_27 (hL : LL ≤ 3584) (ha : a + 7 ≤ LL) (hW : hs_Wo I J R t t2 l l2 N S U V K L T nm pm) (hS : l_S sc LL I) (ih : l_IH kc ks sc LL a) : hn_R false 60 kc ks hm_Law_law l_P 1057 (l_ls a) [] 213 (I, J, R) := by
  have hW0 := hW
  obtain ⟨⟨hA, zs, px, qs, r3, ⟨r4, r5, l3⟩, lx, vx, kx, tx, zn, nn⟩, hM0, n8, n4, Sw, Uw, Vw, Kw, Lw, l40, tpk, n1, Jw⟩ := hW0
  refine hn_aload_n rfl rfl ?_
  refine hn_aload_n rfl rfl ?_
  refine hn_iload rfl rfl ?_
  refine hn_iconst rfl ?_
  refine hn_iadd rfl ?_
  refine l_sload rfl hS hL (l_ix (c := 1) (by omega)) (by omega) ?_
  refine l_callV (b := 0) (ci := 0) rfl rfl hk_X_tiles rfl rfl rfl rfl (Nat.le_of_ble_eq_true rfl) rfl (Nat.le_of_ble_eq_true rfl) (q_X_tiles hA) (Nat.le_of_ble_eq_true rfl) (fun r1 D1 q1 s1 t9 => ?_)
  have hS2 := l_S_of hS s1 t9
  obtain ⟨q1, rfl⟩ := q1
  obtain ⟨I2, J2, rfl, hW2⟩ := W_sx hW q1
  refine hn_aload_n rfl rfl ?_
  refine hn_aload_n rfl rfl ?_
  refine hn_iload rfl rfl ?_
  refine hn_iconst rfl ?_
  refine hn_iadd rfl ?_
  refine l_sload rfl hS2 hL (l_ix (c := 1) (by omega)) (by omega) ?_
  refine l_callV (b := 188) (ci := 10) rfl rfl hk_M_tiles rfl rfl rfl rfl (Nat.le_of_ble_eq_true rfl) rfl (Nat.le_of_ble_eq_true rfl) (q_M_tiles hW2.2.1.1) (Nat.le_of_ble_eq_true rfl) (fun r2 D2 q2 s2 t8 => ?_)
  have hS3 := l_S_of hS2 s2 t8
  obtain ⟨q2, rfl⟩ := q2
  obtain ⟨I3, J3, rfl, hW3⟩ := W_sm hW2 q2
  exact hn_icmp_eq rfl (fun _ => ih _ (l_W_of hW3 hS3)) (fun c => absurd rfl c)
set_option maxRecDepth 100000 in
set_option maxHeartbeats 4000000 in
theorem lc_28 (hL : LL ≤ 3584) (ha : a + 7 ≤ LL) (hW : hs_Wo I J R t t2 l l2 N S U V K L T nm pm) (hS : l_S sc LL I) (ih : l_IH kc ks sc LL a) : hn_R false 60 kc ks hm_Law_law l_P 1082 (l_ls a) [] 213 (I, J, R) := by
  have hW0 := hW
  obtain ⟨⟨hA, zs, px, qs, r3, ⟨r4, r5, l3⟩, lx, vx, kx, tx, zn, nn⟩, hM0, n8, n4, Sw, Uw, Vw, Kw, Lw, l40, tpk, n1, Jw⟩ := hW0
  refine hn_aload_n rfl rfl ?_
  refine l_callV (b := 0) (ci := 0) rfl rfl hk_X_held rfl rfl rfl rfl (Nat.le_of_ble_eq_true rfl) rfl (Nat.le_of_ble_eq_true rfl) (q_X_held hA) (Nat.le_of_ble_eq_true rfl) (fun r1 D1 q1 s1 t9 => ?_)
  have hS2 := l_S_of hS s1 t9
  obtain ⟨q1, rfl⟩ := q1
  obtain ⟨I2, J2, rfl, hW2⟩ := W_sx hW q1
  refine hn_aload_n rfl rfl ?_
  refine l_callV (b := 188) (ci := 10) rfl rfl hk_M_held rfl rfl rfl rfl (Nat.le_of_ble_eq_true rfl) rfl (Nat.le_of_ble_eq_true rfl) (q_M_held hW2.2.1.1) (Nat.le_of_ble_eq_true rfl) (fun r2 D2 q2 s2 t8 => ?_)
  have hS3 := l_S_of hS2 s2 t8
  obtain ⟨q2, rfl⟩ := q2
  obtain ⟨I3, J3, rfl, hW3⟩ := W_sm hW2 q2
  exact hn_icmp_eq rfl (fun _ => ih _ (l_W_of hW3 hS3)) (fun c => absurd rfl c)
set_option maxRecDepth 100000 in
set_option maxHeartbeats 4000000 in
theorem lc_29 (hL : LL ≤ 3584) (ha : a + 7 ≤ LL) (hW : hs_Wo I J R t t2 l l2 N S U V K L T nm pm) (hS : l_S sc LL I) (ih : l_IH kc ks sc LL a) : hn_R false 60 kc ks hm_Law_law l_P 1095 (l_ls a) [] 213 (I, J, R) := by
  have hW0 := hW
  obtain ⟨⟨hA, zs, px, qs, r3, ⟨r4, r5, l3⟩, lx, vx, kx, tx, zn, nn⟩, hM0, n8, n4, Sw, Uw, Vw, Kw, Lw, l40, tpk, n1, Jw⟩ := hW0
  refine hn_aload_n rfl rfl ?_
  refine l_callV (b := 0) (ci := 0) rfl rfl hk_X_stands rfl rfl rfl rfl (Nat.le_of_ble_eq_true rfl) rfl (Nat.le_of_ble_eq_true rfl) (q_X_stands hA) (Nat.le_of_ble_eq_true rfl) (fun r1 D1 q1 s1 t9 => ?_)
  have hS2 := l_S_of hS s1 t9
  obtain ⟨q1, rfl⟩ := q1
  obtain ⟨I2, J2, rfl, hW2⟩ := W_sx hW q1
  refine hn_aload_n rfl rfl ?_
  refine l_callV (b := 188) (ci := 10) rfl rfl hk_M_stands rfl rfl rfl rfl (Nat.le_of_ble_eq_true rfl) rfl (Nat.le_of_ble_eq_true rfl) (q_M_stands hW2.2.1.1) (Nat.le_of_ble_eq_true rfl) (fun r2 D2 q2 s2 t8 => ?_)
  have hS3 := l_S_of hS2 s2 t8
  obtain ⟨q2, rfl⟩ := q2
  obtain ⟨I3, J3, rfl, hW3⟩ := W_sm hW2 q2
  exact hn_icmp_eq rfl (fun _ => ih _ (l_W_of hW3 hS3)) (fun c => absurd rfl c)
set_option maxRecDepth 100000 in
set_option maxHeartbeats 4000000 in
theorem lc_30 (hL : LL ≤ 3584) (ha : a + 7 ≤ LL) (hW : hs_Wo I J R t t2 l l2 N S U V K L T nm pm) (hS : l_S sc LL I) (ih : l_IH kc ks sc LL a) : hn_R false 60 kc ks hm_Law_law l_P 1108 (l_ls a) [] 213 (I, J, R) := by
  have hW0 := hW
  obtain ⟨⟨hA, zs, px, qs, r3, ⟨r4, r5, l3⟩, lx, vx, kx, tx, zn, nn⟩, hM0, n8, n4, Sw, Uw, Vw, Kw, Lw, l40, tpk, n1, Jw⟩ := hW0
  refine hn_aload_n rfl rfl ?_
  refine l_callV (b := 0) (ci := 0) rfl rfl hk_X_largest rfl rfl rfl rfl (Nat.le_of_ble_eq_true rfl) rfl (Nat.le_of_ble_eq_true rfl) (q_X_largest hA) (Nat.le_of_ble_eq_true rfl) (fun r1 D1 q1 s1 t9 => ?_)
  have hS2 := l_S_of hS s1 t9
  obtain ⟨q1, rfl⟩ := q1
  obtain ⟨I2, J2, rfl, hW2⟩ := W_sx hW q1
  refine hn_aload_n rfl rfl ?_
  refine l_callV (b := 188) (ci := 10) rfl rfl hk_M_largest rfl rfl rfl rfl (Nat.le_of_ble_eq_true rfl) rfl (Nat.le_of_ble_eq_true rfl) (q_M_largest hW2.2.1.1) (Nat.le_of_ble_eq_true rfl) (fun r2 D2 q2 s2 t8 => ?_)
  have hS3 := l_S_of hS2 s2 t8
  obtain ⟨q2, rfl⟩ := q2
  obtain ⟨I3, J3, rfl, hW3⟩ := W_sm hW2 q2
  exact hn_icmp_eq rfl (fun _ => ih _ (l_W_of hW3 hS3)) (fun c => absurd rfl c)
set_option maxRecDepth 100000 in
set_option maxHeartbeats 4000000 in
theorem lc_31 (hL : LL ≤ 3584) (ha : a + 7 ≤ LL) (hW : hs_Wo I J R t t2 l l2 N S U V K L T nm pm) (hS : l_S sc LL I) (ih : l_IH kc ks sc LL a) : hn_R false 60 kc ks hm_Law_law l_P 1121 (l_ls a) [] 213 (I, J, R) := by
  have hW0 := hW
  obtain ⟨⟨hA, zs, px, qs, r3, ⟨r4, r5, l3⟩, lx, vx, kx, tx, zn, nn⟩, hM0, n8, n4, Sw, Uw, Vw, Kw, Lw, l40, tpk, n1, Jw⟩ := hW0
  refine hn_aload_n rfl rfl ?_
  refine l_callV (b := 0) (ci := 0) rfl rfl hk_X_whole rfl rfl rfl rfl (Nat.le_of_ble_eq_true rfl) rfl (Nat.le_of_ble_eq_true rfl) (q_X_whole hA) (Nat.le_of_ble_eq_true rfl) (fun r1 D1 q1 s1 t9 => ?_)
  have hS2 := l_S_of hS s1 t9
  obtain ⟨q1, rfl⟩ := q1
  obtain ⟨I2, J2, rfl, hW2⟩ := W_sx hW q1
  refine hn_aload_n rfl rfl ?_
  refine l_callV (b := 188) (ci := 10) rfl rfl hk_M_whole rfl rfl rfl rfl (Nat.le_of_ble_eq_true rfl) rfl (Nat.le_of_ble_eq_true rfl) (q_M_whole hW2.2.1.1) (Nat.le_of_ble_eq_true rfl) (fun r2 D2 q2 s2 t8 => ?_)
  have hS3 := l_S_of hS2 s2 t8
  obtain ⟨q2, rfl⟩ := q2
  obtain ⟨I3, J3, rfl, hW3⟩ := W_sm hW2 q2
  exact hn_icmp_eq rfl (fun _ => ih _ (l_W_of hW3 hS3)) (fun c => absurd rfl c)
set_option maxRecDepth 100000 in
set_option maxHeartbeats 4000000 in
theorem lc_32 (hL : LL ≤ 3584) (ha : a + 7 ≤ LL) (hW : hs_Wo I J R t t2 l l2 N S U V K L T nm pm) (hS : l_S sc LL I) (ih : l_IH kc ks sc LL a) : hn_R false 60 kc ks hm_Law_law l_P 1134 (l_ls a) [] 213 (I, J, R) := by
  have hW0 := hW
  obtain ⟨⟨hA, zs, px, qs, r3, ⟨r4, r5, l3⟩, lx, vx, kx, tx, zn, nn⟩, hM0, n8, n4, Sw, Uw, Vw, Kw, Lw, l40, tpk, n1, Jw⟩ := hW0
  refine hn_aload_n rfl rfl ?_
  refine l_callV (b := 0) (ci := 0) rfl rfl hk_X_sure rfl rfl rfl rfl (Nat.le_of_ble_eq_true rfl) rfl (Nat.le_of_ble_eq_true rfl) (q_X_sure hA) (Nat.le_of_ble_eq_true rfl) (fun r1 D1 q1 s1 t9 => ?_)
  have hS2 := l_S_of hS s1 t9
  obtain ⟨q1, rfl⟩ := q1
  obtain ⟨I2, J2, rfl, hW2⟩ := W_sx hW q1
  refine hn_aload_n rfl rfl ?_
  refine l_callV (b := 188) (ci := 10) rfl rfl hk_M_sure rfl rfl rfl rfl (Nat.le_of_ble_eq_true rfl) rfl (Nat.le_of_ble_eq_true rfl) (q_M_sure hW2.2.1.1) (Nat.le_of_ble_eq_true rfl) (fun r2 D2 q2 s2 t8 => ?_)
  have hS3 := l_S_of hS2 s2 t8
  obtain ⟨q2, rfl⟩ := q2
  obtain ⟨I3, J3, rfl, hW3⟩ := W_sm hW2 q2
  exact hn_icmp_eq rfl (fun _ => ih _ (l_W_of hW3 hS3)) (fun c => absurd rfl c)
set_option maxRecDepth 100000 in
set_option maxHeartbeats 4000000 in
theorem lc_33 (hL : LL ≤ 3584) (ha : a + 7 ≤ LL) (hW : hs_Wo I J R t t2 l l2 N S U V K L T nm pm) (hS : l_S sc LL I) (ih : l_IH kc ks sc LL a) : hn_R false 60 kc ks hm_Law_law l_P 1147 (l_ls a) [] 213 (I, J, R) := by
  have hW0 := hW
  obtain ⟨⟨hA, zs, px, qs, r3, ⟨r4, r5, l3⟩, lx, vx, kx, tx, zn, nn⟩, hM0, n8, n4, Sw, Uw, Vw, Kw, Lw, l40, tpk, n1, Jw⟩ := hW0
  refine hn_aload_n rfl rfl ?_
  refine hn_aload_n rfl rfl ?_
  refine hn_iload rfl rfl ?_
  refine hn_iconst rfl ?_
  refine hn_iadd rfl ?_
  refine l_sload rfl hS hL (l_ix (c := 1) (by omega)) (by omega) ?_
  refine l_callV (b := 0) (ci := 0) rfl rfl hk_X_opposed rfl rfl rfl rfl (Nat.le_of_ble_eq_true rfl) rfl (Nat.le_of_ble_eq_true rfl) (q_X_opposed hA) (Nat.le_of_ble_eq_true rfl) (fun r1 D1 q1 s1 t9 => ?_)
  have hS2 := l_S_of hS s1 t9
  obtain ⟨q1, rfl⟩ := q1
  obtain ⟨I2, J2, rfl, hW2⟩ := W_sx hW q1
  refine hn_aload_n rfl rfl ?_
  refine hn_aload_n rfl rfl ?_
  refine hn_iload rfl rfl ?_
  refine hn_iconst rfl ?_
  refine hn_iadd rfl ?_
  refine l_sload rfl hS2 hL (l_ix (c := 1) (by omega)) (by omega) ?_
  refine l_callV (b := 188) (ci := 10) rfl rfl hk_M_opposed rfl rfl rfl rfl (Nat.le_of_ble_eq_true rfl) rfl (Nat.le_of_ble_eq_true rfl) (q_M_opposed hW2.2.1.1) (Nat.le_of_ble_eq_true rfl) (fun r2 D2 q2 s2 t8 => ?_)
  have hS3 := l_S_of hS2 s2 t8
  obtain ⟨q2, rfl⟩ := q2
  obtain ⟨I3, J3, rfl, hW3⟩ := W_sm hW2 q2
  exact hn_icmp_eq rfl (fun _ => ih _ (l_W_of hW3 hS3)) (fun c => absurd rfl c)
set_option maxRecDepth 100000 in
set_option maxHeartbeats 4000000 in
theorem lc_34 (hL : LL ≤ 3584) (ha : a + 7 ≤ LL) (hW : hs_Wo I J R t t2 l l2 N S U V K L T nm pm) (hS : l_S sc LL I) (ih : l_IH kc ks sc LL a) : hn_R false 60 kc ks hm_Law_law l_P 1172 (l_ls a) [] 213 (I, J, R) := by
  have hW0 := hW
  obtain ⟨⟨hA, zs, px, qs, r3, ⟨r4, r5, l3⟩, lx, vx, kx, tx, zn, nn⟩, hM0, n8, n4, Sw, Uw, Vw, Kw, Lw, l40, tpk, n1, Jw⟩ := hW0
  refine hn_aload_n rfl rfl ?_
  refine hn_aload_n rfl rfl ?_
  refine hn_iload rfl rfl ?_
  refine hn_iconst rfl ?_
  refine hn_iadd rfl ?_
  refine l_sload rfl hS hL (l_ix (c := 1) (by omega)) (by omega) ?_
  refine l_callV (b := 0) (ci := 0) rfl rfl hk_X_defends rfl rfl rfl rfl (Nat.le_of_ble_eq_true rfl) rfl (Nat.le_of_ble_eq_true rfl) (q_X_defends hA) (Nat.le_of_ble_eq_true rfl) (fun r1 D1 q1 s1 t9 => ?_)
  have hS2 := l_S_of hS s1 t9
  obtain ⟨q1, rfl⟩ := q1
  obtain ⟨I2, J2, rfl, hW2⟩ := W_sx hW q1
  refine hn_aload_n rfl rfl ?_
  refine hn_aload_n rfl rfl ?_
  refine hn_iload rfl rfl ?_
  refine hn_iconst rfl ?_
  refine hn_iadd rfl ?_
  refine l_sload rfl hS2 hL (l_ix (c := 1) (by omega)) (by omega) ?_
  refine l_callV (b := 188) (ci := 10) rfl rfl hk_M_defends rfl rfl rfl rfl (Nat.le_of_ble_eq_true rfl) rfl (Nat.le_of_ble_eq_true rfl) (q_M_defends hW2.2.1.1) (Nat.le_of_ble_eq_true rfl) (fun r2 D2 q2 s2 t8 => ?_)
  have hS3 := l_S_of hS2 s2 t8
  obtain ⟨q2, rfl⟩ := q2
  obtain ⟨I3, J3, rfl, hW3⟩ := W_sm hW2 q2
  exact hn_icmp_eq rfl (fun _ => ih _ (l_W_of hW3 hS3)) (fun c => absurd rfl c)
set_option maxRecDepth 100000 in
set_option maxHeartbeats 4000000 in
theorem lc_35 (hL : LL ≤ 3584) (ha : a + 7 ≤ LL) (hW : hs_Wo I J R t t2 l l2 N S U V K L T nm pm) (hS : l_S sc LL I) (ih : l_IH kc ks sc LL a) : hn_R false 60 kc ks hm_Law_law l_P 1197 (l_ls a) [] 213 (I, J, R) := by
  have hW0 := hW
  obtain ⟨⟨hA, zs, px, qs, r3, ⟨r4, r5, l3⟩, lx, vx, kx, tx, zn, nn⟩, hM0, n8, n4, Sw, Uw, Vw, Kw, Lw, l40, tpk, n1, Jw⟩ := hW0
  refine hn_aload_n rfl rfl ?_
  refine hn_aload_n rfl rfl ?_
  refine hn_iload rfl rfl ?_
  refine hn_iconst rfl ?_
  refine hn_iadd rfl ?_
  refine l_sload rfl hS hL (l_ix (c := 1) (by omega)) (by omega) ?_
  refine hn_aload_n rfl rfl ?_
  refine hn_iload rfl rfl ?_
  refine hn_iconst rfl ?_
  refine hn_iadd rfl ?_
  refine l_sload rfl hS hL (l_ix (c := 2) (by omega)) (by omega) ?_
  refine l_callV (b := 0) (ci := 0) rfl rfl hk_X_tug rfl rfl rfl rfl (Nat.le_of_ble_eq_true rfl) rfl (Nat.le_of_ble_eq_true rfl) (q_X_tug hA) (Nat.le_of_ble_eq_true rfl) (fun r1 D1 q1 s1 t9 => ?_)
  have hS2 := l_S_of hS s1 t9
  obtain ⟨q1, rfl⟩ := q1
  obtain ⟨I2, J2, rfl, hW2⟩ := W_sx hW q1
  refine hn_aload_n rfl rfl ?_
  refine hn_aload_n rfl rfl ?_
  refine hn_iload rfl rfl ?_
  refine hn_iconst rfl ?_
  refine hn_iadd rfl ?_
  refine l_sload rfl hS2 hL (l_ix (c := 1) (by omega)) (by omega) ?_
  refine hn_aload_n rfl rfl ?_
  refine hn_iload rfl rfl ?_
  refine hn_iconst rfl ?_
  refine hn_iadd rfl ?_
  refine l_sload rfl hS2 hL (l_ix (c := 2) (by omega)) (by omega) ?_
  refine l_callV (b := 188) (ci := 10) rfl rfl hk_M_tug rfl rfl rfl rfl (Nat.le_of_ble_eq_true rfl) rfl (Nat.le_of_ble_eq_true rfl) (q_M_tug hW2.2.1.1) (Nat.le_of_ble_eq_true rfl) (fun r2 D2 q2 s2 t8 => ?_)
  have hS3 := l_S_of hS2 s2 t8
  obtain ⟨q2, rfl⟩ := q2
  obtain ⟨I3, J3, rfl, hW3⟩ := W_sm hW2 q2
  exact hn_icmp_eq rfl (fun _ => ih _ (l_W_of hW3 hS3)) (fun c => absurd rfl c)
end HNcases
