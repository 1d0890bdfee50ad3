section HNcases
variable {I : Nat → Nat → Int32} {J : Nat → Nat → Int64} {R : Nat → Nat → Option Nat} {t t2 l l2 LL a kc ks : Nat} {N : sp_N} {S : sp_Q} {U : sp_U} {V : sp_V} {K : sp_K} {L : sp_L} {T : sp_T} {nm pm : Nat → Nat} {sc : Nat → Int32}
set_option maxRecDepth 100000 in
set_option maxHeartbeats 4000000 in
theorem lc_14 (hL : LL ≤ 3584) (ha : a + 7 ≤ LL) (hW : hs_Wo I J R t t2 l l2 N S U V K L T nm pm) (hS : l_S sc LL I) (ih : l_IH kc ks sc LL a) : hn_R false 60 kc ks hm_Law_law l_P 732 (l_ls a) [] 213 (I, J, R) := by
  have hW0 := hW
  obtain ⟨⟨hA, zs, px, qs, r3, ⟨r4, r5, l3⟩, lx, vx, kx, tx, zn, nn⟩, hM0, n8, n4, Sw, Uw, Vw, Kw, Lw, l40, tpk, n1, Jw⟩ := hW0
  refine hn_aload_n rfl rfl ?_
  refine hn_aload_n rfl rfl ?_
  refine hn_iload rfl rfl ?_
  refine hn_iconst rfl ?_
  refine hn_iadd rfl ?_
  refine l_sload rfl hS hL (l_ix (c := 1) (by omega)) (by omega) ?_
  refine l_callV (b := 0) (ci := 0) rfl rfl hk_X_sleeps rfl rfl rfl rfl (Nat.le_of_ble_eq_true rfl) rfl (Nat.le_of_ble_eq_true rfl) (q_X_sleeps hA) (Nat.le_of_ble_eq_true rfl) (fun r1 D1 q1 s1 t9 => ?_)
  have hS2 := l_S_of hS s1 t9
  obtain ⟨q1, rfl⟩ := q1
  obtain ⟨I2, J2, rfl, hW2⟩ := W_sx hW q1
  refine hn_aload_n rfl rfl ?_
  refine hn_aload_n rfl rfl ?_
  refine hn_iload rfl rfl ?_
  refine hn_iconst rfl ?_
  refine hn_iadd rfl ?_
  refine l_sload rfl hS2 hL (l_ix (c := 1) (by omega)) (by omega) ?_
  refine l_callV (b := 188) (ci := 10) rfl rfl hk_M_sleeps rfl rfl rfl rfl (Nat.le_of_ble_eq_true rfl) rfl (Nat.le_of_ble_eq_true rfl) (q_M_sleeps hW2.2.1.1) (Nat.le_of_ble_eq_true rfl) (fun r2 D2 q2 s2 t8 => ?_)
  have hS3 := l_S_of hS2 s2 t8
  obtain ⟨q2, rfl⟩ := q2
  obtain ⟨I3, J3, rfl, hW3⟩ := W_sm hW2 q2
  exact hn_icmp_eq rfl (fun _ => ih _ (l_W_of hW3 hS3)) (fun c => absurd rfl c)
set_option maxRecDepth 100000 in
set_option maxHeartbeats 4000000 in
theorem lc_15 (hL : LL ≤ 3584) (ha : a + 7 ≤ LL) (hW : hs_Wo I J R t t2 l l2 N S U V K L T nm pm) (hS : l_S sc LL I) (ih : l_IH kc ks sc LL a) : hn_R false 60 kc ks hm_Law_law l_P 757 (l_ls a) [] 213 (I, J, R) := by
  have hW0 := hW
  obtain ⟨⟨hA, zs, px, qs, r3, ⟨r4, r5, l3⟩, lx, vx, kx, tx, zn, nn⟩, hM0, n8, n4, Sw, Uw, Vw, Kw, Lw, l40, tpk, n1, Jw⟩ := hW0
  refine hn_aload_n rfl rfl ?_
  refine l_callV (b := 0) (ci := 0) rfl rfl hk_X_still rfl rfl rfl rfl (Nat.le_of_ble_eq_true rfl) rfl (Nat.le_of_ble_eq_true rfl) (q_X_still hA) (Nat.le_of_ble_eq_true rfl) (fun r1 D1 q1 s1 t9 => ?_)
  have hS2 := l_S_of hS s1 t9
  obtain ⟨q1, rfl⟩ := q1
  obtain ⟨I2, J2, rfl, hW2⟩ := W_sx hW q1
  refine hn_aload_n rfl rfl ?_
  refine l_callV (b := 188) (ci := 10) rfl rfl hk_M_still rfl rfl rfl rfl (Nat.le_of_ble_eq_true rfl) rfl (Nat.le_of_ble_eq_true rfl) (q_M_still hW2.2.1.1) (Nat.le_of_ble_eq_true rfl) (fun r2 D2 q2 s2 t8 => ?_)
  have hS3 := l_S_of hS2 s2 t8
  obtain ⟨q2, rfl⟩ := q2
  obtain ⟨I3, J3, rfl, hW3⟩ := W_sm hW2 q2
  exact hn_icmp_eq rfl (fun _ => ih _ (l_W_of hW3 hS3)) (fun c => absurd rfl c)
set_option maxRecDepth 100000 in
set_option maxHeartbeats 4000000 in
theorem lc_16 (hL : LL ≤ 3584) (ha : a + 7 ≤ LL) (hW : hs_Wo I J R t t2 l l2 N S U V K L T nm pm) (hS : l_S sc LL I) (ih : l_IH kc ks sc LL a) : hn_R false 60 kc ks hm_Law_law l_P 770 (l_ls a) [] 213 (I, J, R) := by
  have hW0 := hW
  obtain ⟨⟨hA, zs, px, qs, r3, ⟨r4, r5, l3⟩, lx, vx, kx, tx, zn, nn⟩, hM0, n8, n4, Sw, Uw, Vw, Kw, Lw, l40, tpk, n1, Jw⟩ := hW0
  refine hn_aload_n rfl rfl ?_
  refine hn_aload_n rfl rfl ?_
  refine hn_iload rfl rfl ?_
  refine hn_iconst rfl ?_
  refine hn_iadd rfl ?_
  refine l_sload rfl hS hL (l_ix (c := 1) (by omega)) (by omega) ?_
  refine hn_aload_n rfl rfl ?_
  refine hn_iload rfl rfl ?_
  refine hn_iconst rfl ?_
  refine hn_iadd rfl ?_
  refine l_sload rfl hS hL (l_ix (c := 2) (by omega)) (by omega) ?_
  refine l_callV (b := 0) (ci := 0) rfl rfl hk_X_meet rfl rfl rfl rfl (Nat.le_of_ble_eq_true rfl) rfl (Nat.le_of_ble_eq_true rfl) (q_X_meet hA) (Nat.le_of_ble_eq_true rfl) (fun r1 D1 q1 s1 t9 => ?_)
  have hS2 := l_S_of hS s1 t9
  obtain ⟨q1, rfl⟩ := q1
  obtain ⟨I2, J2, rfl, hW2⟩ := W_sx hW q1
  refine hn_aload_n rfl rfl ?_
  refine hn_aload_n rfl rfl ?_
  refine hn_iload rfl rfl ?_
  refine hn_iconst rfl ?_
  refine hn_iadd rfl ?_
  refine l_sload rfl hS2 hL (l_ix (c := 1) (by omega)) (by omega) ?_
  refine hn_aload_n rfl rfl ?_
  refine hn_iload rfl rfl ?_
  refine hn_iconst rfl ?_
  refine hn_iadd rfl ?_
  refine l_sload rfl hS2 hL (l_ix (c := 2) (by omega)) (by omega) ?_
  refine l_callV (b := 188) (ci := 10) rfl rfl hk_M_meet rfl rfl rfl rfl (Nat.le_of_ble_eq_true rfl) rfl (Nat.le_of_ble_eq_true rfl) (q_M_meet hW2.2.1.1) (Nat.le_of_ble_eq_true rfl) (fun r2 D2 q2 s2 t8 => ?_)
  have hS3 := l_S_of hS2 s2 t8
  obtain ⟨q2, rfl⟩ := q2
  obtain ⟨I3, J3, rfl, hW3⟩ := W_sm hW2 q2
  exact hn_icmp_eq rfl (fun _ => ih _ (l_W_of hW3 hS3)) (fun c => absurd rfl c)
set_option maxRecDepth 100000 in
set_option maxHeartbeats 4000000 in
theorem lc_17 (hL : LL ≤ 3584) (ha : a + 7 ≤ LL) (hW : hs_Wo I J R t t2 l l2 N S U V K L T nm pm) (hS : l_S sc LL I) (ih : l_IH kc ks sc LL a) : hn_R false 60 kc ks hm_Law_law l_P 807 (l_ls a) [] 213 (I, J, R) := by
  have hW0 := hW
  obtain ⟨⟨hA, zs, px, qs, r3, ⟨r4, r5, l3⟩, lx, vx, kx, tx, zn, nn⟩, hM0, n8, n4, Sw, Uw, Vw, Kw, Lw, l40, tpk, n1, Jw⟩ := hW0
  refine hn_aload_n rfl rfl ?_
  refine l_callV (b := 0) (ci := 0) rfl rfl hk_X_crowd rfl rfl rfl rfl (Nat.le_of_ble_eq_true rfl) rfl (Nat.le_of_ble_eq_true rfl) (q_X_crowd hA) (Nat.le_of_ble_eq_true rfl) (fun r1 D1 q1 s1 t9 => ?_)
  have hS2 := l_S_of hS s1 t9
  obtain ⟨q1, rfl⟩ := q1
  obtain ⟨I2, J2, rfl, hW2⟩ := W_sx hW q1
  refine hn_aload_n rfl rfl ?_
  refine l_callV (b := 188) (ci := 10) rfl rfl hk_M_crowd rfl rfl rfl rfl (Nat.le_of_ble_eq_true rfl) rfl (Nat.le_of_ble_eq_true rfl) (q_M_crowd hW2.2.1.1) (Nat.le_of_ble_eq_true rfl) (fun r2 D2 q2 s2 t8 => ?_)
  have hS3 := l_S_of hS2 s2 t8
  obtain ⟨q2, rfl⟩ := q2
  obtain ⟨I3, J3, rfl, hW3⟩ := W_sm hW2 q2
  exact hn_icmp_eq rfl (fun _ => ih _ (l_W_of hW3 hS3)) (fun c => absurd rfl c)
set_option maxRecDepth 100000 in
set_option maxHeartbeats 4000000 in
theorem lc_18 (hL : LL ≤ 3584) (ha : a + 7 ≤ LL) (hW : hs_Wo I J R t t2 l l2 N S U V K L T nm pm) (hS : l_S sc LL I) (ih : l_IH kc ks sc LL a) : hn_R false 60 kc ks hm_Law_law l_P 820 (l_ls a) [] 213 (I, J, R) := by
  have hW0 := hW
  obtain ⟨⟨hA, zs, px, qs, r3, ⟨r4, r5, l3⟩, lx, vx, kx, tx, zn, nn⟩, hM0, n8, n4, Sw, Uw, Vw, Kw, Lw, l40, tpk, n1, Jw⟩ := hW0
  refine hn_aload_n rfl rfl ?_
  refine hn_aload_n rfl rfl ?_
  refine hn_iload rfl rfl ?_
  refine hn_iconst rfl ?_
  refine hn_iadd rfl ?_
  refine l_sload rfl hS hL (l_ix (c := 1) (by omega)) (by omega) ?_
  refine l_callV (b := 0) (ci := 0) rfl rfl hk_X_reach rfl rfl rfl rfl (Nat.le_of_ble_eq_true rfl) rfl (Nat.le_of_ble_eq_true rfl) (q_X_reach hA) (Nat.le_of_ble_eq_true rfl) (fun r1 D1 q1 s1 t9 => ?_)
  have hS2 := l_S_of hS s1 t9
  obtain ⟨q1, rfl⟩ := q1
  obtain ⟨I2, J2, rfl, hW2⟩ := W_sx hW q1
  refine hn_aload_n rfl rfl ?_
  refine hn_aload_n rfl rfl ?_
  refine hn_iload rfl rfl ?_
  refine hn_iconst rfl ?_
  refine hn_iadd rfl ?_
  refine l_sload rfl hS2 hL (l_ix (c := 1) (by omega)) (by omega) ?_
  refine l_callV (b := 188) (ci := 10) rfl rfl hk_M_reach rfl rfl rfl rfl (Nat.le_of_ble_eq_true rfl) rfl (Nat.le_of_ble_eq_true rfl) (q_M_reach hW2.2.1.1) (Nat.le_of_ble_eq_true rfl) (fun r2 D2 q2 s2 t8 => ?_)
  have hS3 := l_S_of hS2 s2 t8
  obtain ⟨q2, rfl⟩ := q2
  obtain ⟨I3, J3, rfl, hW3⟩ := W_sm hW2 q2
  exact hn_icmp_eq rfl (fun _ => ih _ (l_W_of hW3 hS3)) (fun c => absurd rfl c)
set_option maxRecDepth 100000 in
set_option maxHeartbeats 4000000 in
theorem lc_19 (hL : LL ≤ 3584) (ha : a + 7 ≤ LL) (hW : hs_Wo I J R t t2 l l2 N S U V K L T nm pm) (hS : l_S sc LL I) (ih : l_IH kc ks sc LL a) : hn_R false 60 kc ks hm_Law_law l_P 845 (l_ls a) [] 213 (I, J, R) := by
  have hW0 := hW
  obtain ⟨⟨hA, zs, px, qs, r3, ⟨r4, r5, l3⟩, lx, vx, kx, tx, zn, nn⟩, hM0, n8, n4, Sw, Uw, Vw, Kw, Lw, l40, tpk, n1, Jw⟩ := hW0
  refine hn_aload_n rfl rfl ?_
  refine hn_aload_n rfl rfl ?_
  refine hn_iload rfl rfl ?_
  refine hn_iconst rfl ?_
  refine hn_iadd rfl ?_
  refine l_sload rfl hS hL (l_ix (c := 1) (by omega)) (by omega) ?_
  refine hn_aload_n rfl rfl ?_
  refine hn_iload rfl rfl ?_
  refine hn_iconst rfl ?_
  refine hn_iadd rfl ?_
  refine l_sload rfl hS hL (l_ix (c := 2) (by omega)) (by omega) ?_
  refine l_callV (b := 0) (ci := 0) rfl rfl hk_X_far rfl rfl rfl rfl (Nat.le_of_ble_eq_true rfl) rfl (Nat.le_of_ble_eq_true rfl) (q_X_far hA) (Nat.le_of_ble_eq_true rfl) (fun r1 D1 q1 s1 t9 => ?_)
  have hS2 := l_S_of hS s1 t9
  obtain ⟨q1, rfl⟩ := q1
  obtain ⟨I2, J2, rfl, hW2⟩ := W_sx hW q1
  refine hn_aload_n rfl rfl ?_
  refine hn_aload_n rfl rfl ?_
  refine hn_iload rfl rfl ?_
  refine hn_iconst rfl ?_
  refine hn_iadd rfl ?_
  refine l_sload rfl hS2 hL (l_ix (c := 1) (by omega)) (by omega) ?_
  refine hn_aload_n rfl rfl ?_
  refine hn_iload rfl rfl ?_
  refine hn_iconst rfl ?_
  refine hn_iadd rfl ?_
  refine l_sload rfl hS2 hL (l_ix (c := 2) (by omega)) (by omega) ?_
  refine l_callV (b := 188) (ci := 10) rfl rfl hk_M_far rfl rfl rfl rfl (Nat.le_of_ble_eq_true rfl) rfl (Nat.le_of_ble_eq_true rfl) (q_M_far hW2.2.1.1) (Nat.le_of_ble_eq_true rfl) (fun r2 D2 q2 s2 t8 => ?_)
  have hS3 := l_S_of hS2 s2 t8
  obtain ⟨q2, rfl⟩ := q2
  obtain ⟨I3, J3, rfl, hW3⟩ := W_sm hW2 q2
  exact hn_icmp_eq rfl (fun _ => ih _ (l_W_of hW3 hS3)) (fun c => absurd rfl c)
set_option maxRecDepth 100000 in
set_option maxHeartbeats 4000000 in
theorem lc_20 (hL : LL ≤ 3584) (ha : a + 7 ≤ LL) (hW : hs_Wo I J R t t2 l l2 N S U V K L T nm pm) (hS : l_S sc LL I) (ih : l_IH kc ks sc LL a) : hn_R false 60 kc ks hm_Law_law l_P 882 (l_ls a) [] 213 (I, J, R) := by
  have hW0 := hW
  obtain ⟨⟨hA, zs, px, qs, r3, ⟨r4, r5, l3⟩, lx, vx, kx, tx, zn, nn⟩, hM0, n8, n4, Sw, Uw, Vw, Kw, Lw, l40, tpk, n1, Jw⟩ := hW0
  refine hn_aload_n rfl rfl ?_
  refine hn_aload_n rfl rfl ?_
  refine hn_iload rfl rfl ?_
  refine hn_iconst rfl ?_
  refine hn_iadd rfl ?_
  refine l_sload rfl hS hL (l_ix (c := 1) (by omega)) (by omega) ?_
  refine hn_aload_n rfl rfl ?_
  refine hn_iload rfl rfl ?_
  refine hn_iconst rfl ?_
  refine hn_iadd rfl ?_
  refine l_sload rfl hS hL (l_ix (c := 2) (by omega)) (by omega) ?_
  refine hn_aload_n rfl rfl ?_
  refine hn_iload rfl rfl ?_
  refine hn_iconst rfl ?_
  refine hn_iadd rfl ?_
  refine l_sload rfl hS hL (l_ix (c := 3) (by omega)) (by omega) ?_
  refine l_callV (b := 0) (ci := 0) rfl rfl hk_X_walks rfl rfl rfl rfl (Nat.le_of_ble_eq_true rfl) rfl (Nat.le_of_ble_eq_true rfl) (q_X_walks hA) (Nat.le_of_ble_eq_true rfl) (fun r1 D1 q1 s1 t9 => ?_)
  have hS2 := l_S_of hS s1 t9
  obtain ⟨q1, rfl⟩ := q1
  obtain ⟨I2, J2, rfl, hW2⟩ := W_sx hW q1
  refine hn_aload_n rfl rfl ?_
  refine hn_aload_n rfl rfl ?_
  refine hn_iload rfl rfl ?_
  refine hn_iconst rfl ?_
  refine hn_iadd rfl ?_
  refine l_sload rfl hS2 hL (l_ix (c := 1) (by omega)) (by omega) ?_
  refine hn_aload_n rfl rfl ?_
  refine hn_iload rfl rfl ?_
  refine hn_iconst rfl ?_
  refine hn_iadd rfl ?_
  refine l_sload rfl hS2 hL (l_ix (c := 2) (by omega)) (by omega) ?_
  refine hn_aload_n rfl rfl ?_
  refine hn_iload rfl rfl ?_
  refine hn_iconst rfl ?_
  refine hn_iadd rfl ?_
  refine l_sload rfl hS2 hL (l_ix (c := 3) (by omega)) (by omega) ?_
  refine l_callV (b := 188) (ci := 10) rfl rfl hk_M_walks rfl rfl rfl rfl (Nat.le_of_ble_eq_true rfl) rfl (Nat.le_of_ble_eq_true rfl) (q_M_walks hW2.2.1.1) (Nat.le_of_ble_eq_true rfl) (fun r2 D2 q2 s2 t8 => ?_)
  have hS3 := l_S_of hS2 s2 t8
  obtain ⟨q2, rfl⟩ := q2
  obtain ⟨I3, J3, rfl, hW3⟩ := W_sm hW2 q2
  exact hn_icmp_eq rfl (fun _ => ih _ (l_W_of hW3 hS3)) (fun c => absurd rfl c)
set_option maxRecDepth 100000 in
set_option maxHeartbeats 4000000 in
theorem lc_21 (hL : LL ≤ 3584) (ha : a + 7 ≤ LL) (hW : hs_Wo I J R t t2 l l2 N S U V K L T nm pm) (hS : l_S sc LL I) (ih : l_IH kc ks sc LL a) : hn_R false 60 kc ks hm_Law_law l_P 931 (l_ls a) [] 213 (I, J, R) := by
  have hW0 := hW
  obtain ⟨⟨hA, zs, px, qs, r3, ⟨r4, r5, l3⟩, lx, vx, kx, tx, zn, nn⟩, hM0, n8, n4, Sw, Uw, Vw, Kw, Lw, l40, tpk, n1, Jw⟩ := hW0
  refine hn_aload_n rfl rfl ?_
  refine l_callV (b := 0) (ci := 0) rfl rfl hk_X_rings rfl rfl rfl rfl (Nat.le_of_ble_eq_true rfl) rfl (Nat.le_of_ble_eq_true rfl) (q_X_rings hA) (Nat.le_of_ble_eq_true rfl) (fun r1 D1 q1 s1 t9 => ?_)
  have hS2 := l_S_of hS s1 t9
  obtain ⟨q1, rfl⟩ := q1
  obtain ⟨I2, J2, rfl, hW2⟩ := W_sx hW q1
  refine hn_aload_n rfl rfl ?_
  refine l_callV (b := 188) (ci := 10) rfl rfl hk_M_rings rfl rfl rfl rfl (Nat.le_of_ble_eq_true rfl) rfl (Nat.le_of_ble_eq_true rfl) (q_M_rings hW2.2.1.1) (Nat.le_of_ble_eq_true rfl) (fun r2 D2 q2 s2 t8 => ?_)
  have hS3 := l_S_of hS2 s2 t8
  obtain ⟨q2, rfl⟩ := q2
  obtain ⟨I3, J3, rfl, hW3⟩ := W_sm hW2 q2
  exact hn_icmp_eq rfl (fun _ => ih _ (l_W_of hW3 hS3)) (fun c => absurd rfl c)
set_option maxRecDepth 100000 in
set_option maxHeartbeats 4000000 in
theorem lc_22 (hL : LL ≤ 3584) (ha : a + 7 ≤ LL) (hW : hs_Wo I J R t t2 l l2 N S U V K L T nm pm) (hS : l_S sc LL I) (ih : l_IH kc ks sc LL a) : hn_R false 60 kc ks hm_Law_law l_P 944 (l_ls a) [] 213 (I, J, R) := by
  have hW0 := hW
  obtain ⟨⟨hA, zs, px, qs, r3, ⟨r4, r5, l3⟩, lx, vx, kx, tx, zn, nn⟩, hM0, n8, n4, Sw, Uw, Vw, Kw, Lw, l40, tpk, n1, Jw⟩ := hW0
  refine hn_aload_n rfl rfl ?_
  refine l_callV (b := 0) (ci := 0) rfl rfl hk_X_ends rfl rfl rfl rfl (Nat.le_of_ble_eq_true rfl) rfl (Nat.le_of_ble_eq_true rfl) (q_X_ends hA) (Nat.le_of_ble_eq_true rfl) (fun r1 D1 q1 s1 t9 => ?_)
  have hS2 := l_S_of hS s1 t9
  obtain ⟨q1, rfl⟩ := q1
  obtain ⟨I2, J2, rfl, hW2⟩ := W_sx hW q1
  refine hn_aload_n rfl rfl ?_
  refine l_callV (b := 188) (ci := 10) rfl rfl hk_M_ends rfl rfl rfl rfl (Nat.le_of_ble_eq_true rfl) rfl (Nat.le_of_ble_eq_true rfl) (q_M_ends hW2.2.1.1) (Nat.le_of_ble_eq_true rfl) (fun r2 D2 q2 s2 t8 => ?_)
  have hS3 := l_S_of hS2 s2 t8
  obtain ⟨q2, rfl⟩ := q2
  obtain ⟨I3, J3, rfl, hW3⟩ := W_sm hW2 q2
  exact hn_icmp_eq rfl (fun _ => ih _ (l_W_of hW3 hS3)) (fun c => absurd rfl c)
set_option maxRecDepth 100000 in
set_option maxHeartbeats 4000000 in
theorem lc_23 (hL : LL ≤ 3584) (ha : a + 7 ≤ LL) (hW : hs_Wo I J R t t2 l l2 N S U V K L T nm pm) (hS : l_S sc LL I) (ih : l_IH kc ks sc LL a) : hn_R false 60 kc ks hm_Law_law l_P 957 (l_ls a) [] 213 (I, J, R) := by
  have hW0 := hW
  obtain ⟨⟨hA, zs, px, qs, r3, ⟨r4, r5, l3⟩, lx, vx, kx, tx, zn, nn⟩, hM0, n8, n4, Sw, Uw, Vw, Kw, Lw, l40, tpk, n1, Jw⟩ := hW0
  refine hn_aload_n rfl rfl ?_
  refine l_callV (b := 0) (ci := 0) rfl rfl hk_X_trails rfl rfl rfl rfl (Nat.le_of_ble_eq_true rfl) rfl (Nat.le_of_ble_eq_true rfl) (q_X_trails hA) (Nat.le_of_ble_eq_true rfl) (fun r1 D1 q1 s1 t9 => ?_)
  have hS2 := l_S_of hS s1 t9
  obtain ⟨q1, rfl⟩ := q1
  obtain ⟨I2, J2, rfl, hW2⟩ := W_sx hW q1
  refine hn_aload_n rfl rfl ?_
  refine l_callV (b := 188) (ci := 10) rfl rfl hk_M_trails rfl rfl rfl rfl (Nat.le_of_ble_eq_true rfl) rfl (Nat.le_of_ble_eq_true rfl) (q_M_trails hW2.2.1.1) (Nat.le_of_ble_eq_true rfl) (fun r2 D2 q2 s2 t8 => ?_)
  have hS3 := l_S_of hS2 s2 t8
  obtain ⟨q2, rfl⟩ := q2
  obtain ⟨I3, J3, rfl, hW3⟩ := W_sm hW2 q2
  exact hn_icmp_eq rfl (fun _ => ih _ (l_W_of hW3 hS3)) (fun c => absurd rfl c)
set_option maxRecDepth 100000 in
set_option maxHeartbeats 4000000 in
theorem lc_24 (hL : LL ≤ 3584) (ha : a + 7 ≤ LL) (hW : hs_Wo I J R t t2 l l2 N S U V K L T nm pm) (hS : l_S sc LL I) (ih : l_IH kc ks sc LL a) : hn_R false 60 kc ks hm_Law_law l_P 970 (l_ls a) [] 213 (I, J, R) := by
  have hW0 := hW
  obtain ⟨⟨hA, zs, px, qs, r3, ⟨r4, r5, l3⟩, lx, vx, kx, tx, zn, nn⟩, hM0, n8, n4, Sw, Uw, Vw, Kw, Lw, l40, tpk, n1, Jw⟩ := hW0
  refine hn_aload_n rfl rfl ?_
  refine hn_aload_n rfl rfl ?_
  refine hn_iload rfl rfl ?_
  refine hn_iconst rfl ?_
  refine hn_iadd rfl ?_
  refine l_sload rfl hS hL (l_ix (c := 1) (by omega)) (by omega) ?_
  refine l_callV (b := 0) (ci := 0) rfl rfl hk_X_firms rfl rfl rfl rfl (Nat.le_of_ble_eq_true rfl) rfl (Nat.le_of_ble_eq_true rfl) (q_X_firms hA) (Nat.le_of_ble_eq_true rfl) (fun r1 D1 q1 s1 t9 => ?_)
  have hS2 := l_S_of hS s1 t9
  obtain ⟨q1, rfl⟩ := q1
  obtain ⟨I2, J2, rfl, hW2⟩ := W_sx hW q1
  refine hn_aload_n rfl rfl ?_
  refine hn_aload_n rfl rfl ?_
  refine hn_iload rfl rfl ?_
  refine hn_iconst rfl ?_
  refine hn_iadd rfl ?_
  refine l_sload rfl hS2 hL (l_ix (c := 1) (by omega)) (by omega) ?_
  refine l_callV (b := 188) (ci := 10) rfl rfl hk_M_firms rfl rfl rfl rfl (Nat.le_of_ble_eq_true rfl) rfl (Nat.le_of_ble_eq_true rfl) (q_M_firms hW2.2.1.1) (Nat.le_of_ble_eq_true rfl) (fun r2 D2 q2 s2 t8 => ?_)
  have hS3 := l_S_of hS2 s2 t8
  obtain ⟨q2, rfl⟩ := q2
  obtain ⟨I3, J3, rfl, hW3⟩ := W_sm hW2 q2
  exact hn_icmp_eq rfl (fun _ => ih _ (l_W_of hW3 hS3)) (fun c => absurd rfl c)
end HNcases
