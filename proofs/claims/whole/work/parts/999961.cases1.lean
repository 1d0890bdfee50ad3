section HNcases
variable {I : Nat → Nat → Int32} {J : Nat → Nat → Int64} {R : Nat → Nat → Option Nat} {t t2 l l2 LL a kc ks : Nat} {N : sp_N} {S : sp_Q} {U : sp_U} {V : sp_V} {K : sp_K} {L : sp_L} {T : sp_T} {nm pm : Nat → Nat} {sc : Nat → Int32}
set_option maxRecDepth 100000 in
set_option maxHeartbeats 4000000 in
theorem lc_3 (hL : LL ≤ 3584) (ha : a + 7 ≤ LL) (hW : hs_Wo I J R t t2 l l2 N S U V K L T nm pm) (hS : l_S sc LL I) (ih : l_IH kc ks sc LL a) : hn_R false 60 kc ks hm_Law_law l_P 409 (l_ls a) [] 213 (I, J, R) := by
  have hW0 := hW
  obtain ⟨⟨hA, zs, px, qs, r3, ⟨r4, r5, l3⟩, lx, vx, kx, tx, zn, nn⟩, hM0, n8, n4, Sw, Uw, Vw, Kw, Lw, l40, tpk, n1, Jw⟩ := hW0
  refine hn_aload_n rfl rfl ?_
  refine hn_aload_n rfl rfl ?_
  refine hn_iload rfl rfl ?_
  refine hn_iconst rfl ?_
  refine hn_iadd rfl ?_
  refine l_sload rfl hS hL (l_ix (c := 1) (by omega)) (by omega) ?_
  refine hn_aload_n rfl rfl ?_
  refine hn_iload rfl rfl ?_
  refine hn_iconst rfl ?_
  refine hn_iadd rfl ?_
  refine l_sload rfl hS hL (l_ix (c := 2) (by omega)) (by omega) ?_
  refine l_callV (b := 0) (ci := 0) rfl rfl hk_X_knot rfl rfl rfl rfl (Nat.le_of_ble_eq_true rfl) rfl (Nat.le_of_ble_eq_true rfl) (q_X_knot hA) (Nat.le_of_ble_eq_true rfl) (fun r1 D1 q1 s1 t9 => ?_)
  have hS2 := l_S_of hS s1 t9
  obtain ⟨q1, rfl⟩ := q1
  obtain ⟨I2, J2, rfl, hW2⟩ := W_sx hW q1
  refine hn_aload_n rfl rfl ?_
  refine hn_aload_n rfl rfl ?_
  refine hn_iload rfl rfl ?_
  refine hn_iconst rfl ?_
  refine hn_iadd rfl ?_
  refine l_sload rfl hS2 hL (l_ix (c := 1) (by omega)) (by omega) ?_
  refine hn_aload_n rfl rfl ?_
  refine hn_iload rfl rfl ?_
  refine hn_iconst rfl ?_
  refine hn_iadd rfl ?_
  refine l_sload rfl hS2 hL (l_ix (c := 2) (by omega)) (by omega) ?_
  refine l_callV (b := 188) (ci := 10) rfl rfl hk_M_knot rfl rfl rfl rfl (Nat.le_of_ble_eq_true rfl) rfl (Nat.le_of_ble_eq_true rfl) (q_M_knot hW2.2.1.1) (Nat.le_of_ble_eq_true rfl) (fun r2 D2 q2 s2 t8 => ?_)
  have hS3 := l_S_of hS2 s2 t8
  obtain ⟨q2, rfl⟩ := q2
  obtain ⟨I3, J3, rfl, hW3⟩ := W_sm hW2 q2
  exact hn_icmp_eq rfl (fun _ => ih _ (l_W_of hW3 hS3)) (fun c => absurd rfl c)
set_option maxRecDepth 100000 in
set_option maxHeartbeats 4000000 in
theorem lc_4 (hL : LL ≤ 3584) (ha : a + 7 ≤ LL) (hW : hs_Wo I J R t t2 l l2 N S U V K L T nm pm) (hS : l_S sc LL I) (ih : l_IH kc ks sc LL a) : hn_R false 60 kc ks hm_Law_law l_P 446 (l_ls a) [] 213 (I, J, R) := by
  have hW0 := hW
  obtain ⟨⟨hA, zs, px, qs, r3, ⟨r4, r5, l3⟩, lx, vx, kx, tx, zn, nn⟩, hM0, n8, n4, Sw, Uw, Vw, Kw, Lw, l40, tpk, n1, Jw⟩ := hW0
  refine hn_aload_n rfl rfl ?_
  refine hn_aload_n rfl rfl ?_
  refine hn_iload rfl rfl ?_
  refine hn_iconst rfl ?_
  refine hn_iadd rfl ?_
  refine l_sload rfl hS hL (l_ix (c := 1) (by omega)) (by omega) ?_
  refine hn_aload_n rfl rfl ?_
  refine hn_iload rfl rfl ?_
  refine hn_iconst rfl ?_
  refine hn_iadd rfl ?_
  refine l_sload rfl hS hL (l_ix (c := 2) (by omega)) (by omega) ?_
  refine l_callV (b := 0) (ci := 0) rfl rfl hk_X_person rfl rfl rfl rfl (Nat.le_of_ble_eq_true rfl) rfl (Nat.le_of_ble_eq_true rfl) (q_X_person hA) (Nat.le_of_ble_eq_true rfl) (fun r1 D1 q1 s1 t9 => ?_)
  have hS2 := l_S_of hS s1 t9
  obtain ⟨q1, rfl⟩ := q1
  obtain ⟨I2, J2, rfl, hW2⟩ := W_sx hW q1
  refine hn_aload_n rfl rfl ?_
  refine hn_aload_n rfl rfl ?_
  refine hn_iload rfl rfl ?_
  refine hn_iconst rfl ?_
  refine hn_iadd rfl ?_
  refine l_sload rfl hS2 hL (l_ix (c := 1) (by omega)) (by omega) ?_
  refine hn_aload_n rfl rfl ?_
  refine hn_iload rfl rfl ?_
  refine hn_iconst rfl ?_
  refine hn_iadd rfl ?_
  refine l_sload rfl hS2 hL (l_ix (c := 2) (by omega)) (by omega) ?_
  refine l_callV (b := 188) (ci := 10) rfl rfl hk_M_person rfl rfl rfl rfl (Nat.le_of_ble_eq_true rfl) rfl (Nat.le_of_ble_eq_true rfl) (q_M_person hW2.2.1.1) (Nat.le_of_ble_eq_true rfl) (fun r2 D2 q2 s2 t8 => ?_)
  have hS3 := l_S_of hS2 s2 t8
  obtain ⟨q2, rfl⟩ := q2
  obtain ⟨I3, J3, rfl, hW3⟩ := W_sm hW2 q2
  exact hn_icmp_eq rfl (fun _ => ih _ (l_W_of hW3 hS3)) (fun c => absurd rfl c)
set_option maxRecDepth 100000 in
set_option maxHeartbeats 4000000 in
theorem lc_5 (hL : LL ≤ 3584) (ha : a + 7 ≤ LL) (hW : hs_Wo I J R t t2 l l2 N S U V K L T nm pm) (hS : l_S sc LL I) (ih : l_IH kc ks sc LL a) : hn_R false 60 kc ks hm_Law_law l_P 483 (l_ls a) [] 213 (I, J, R) := by
  have hW0 := hW
  obtain ⟨⟨hA, zs, px, qs, r3, ⟨r4, r5, l3⟩, lx, vx, kx, tx, zn, nn⟩, hM0, n8, n4, Sw, Uw, Vw, Kw, Lw, l40, tpk, n1, Jw⟩ := hW0
  refine hn_aload_n rfl rfl ?_
  refine hn_aload_n rfl rfl ?_
  refine hn_iload rfl rfl ?_
  refine hn_iconst rfl ?_
  refine hn_iadd rfl ?_
  refine l_sload rfl hS hL (l_ix (c := 1) (by omega)) (by omega) ?_
  refine hn_aload_n rfl rfl ?_
  refine hn_iload rfl rfl ?_
  refine hn_iconst rfl ?_
  refine hn_iadd rfl ?_
  refine l_sload rfl hS hL (l_ix (c := 2) (by omega)) (by omega) ?_
  refine l_callV (b := 0) (ci := 0) rfl rfl hk_X_shift rfl rfl rfl rfl (Nat.le_of_ble_eq_true rfl) rfl (Nat.le_of_ble_eq_true rfl) (q_X_shift hA zs px) (Nat.le_of_ble_eq_true rfl) (fun r1 D1 q1 s1 t9 => ?_)
  have hS2 := l_S_of hS s1 t9
  obtain ⟨q1, rfl⟩ := q1
  have Uw2 := u_shift_w (x := sc (a + 1)) (y := sc (a + 2)) n4 Uw
  obtain ⟨I2, rfl, hX2, e2⟩ := WX_ux hW.1 q1 Uw2.1
  have hM2 := WM_same hW.2.1 e2 (fun _ _ => rfl)
  refine hn_aload_n rfl rfl ?_
  refine hn_aload_n rfl rfl ?_
  refine hn_iload rfl rfl ?_
  refine hn_iconst rfl ?_
  refine hn_iadd rfl ?_
  refine l_sload rfl hS2 hL (l_ix (c := 1) (by omega)) (by omega) ?_
  refine hn_aload_n rfl rfl ?_
  refine hn_iload rfl rfl ?_
  refine hn_iconst rfl ?_
  refine hn_iadd rfl ?_
  refine l_sload rfl hS2 hL (l_ix (c := 2) (by omega)) (by omega) ?_
  refine l_callV (b := 188) (ci := 10) rfl rfl hk_M_shift rfl rfl rfl rfl (Nat.le_of_ble_eq_true rfl) rfl (Nat.le_of_ble_eq_true rfl) (q_M_shift hM2.1 hM2.2.1) (Nat.le_of_ble_eq_true rfl) (fun r2 D2 q2 s2 t8 => ?_)
  have hS3 := l_S_of hS2 s2 t8
  obtain ⟨q2, rfl⟩ := q2
  obtain ⟨I3, rfl, hM3, e3⟩ := WM_um hM2 q2 Uw2.1
  exact hn_icmp_eq rfl (fun _ => ih _ (l_W_of (W_uu hX2 e3 hM3 hW.2.2 Uw2) hS3)) (fun c => absurd rfl c)
set_option maxRecDepth 100000 in
set_option maxHeartbeats 4000000 in
theorem lc_6 (hL : LL ≤ 3584) (ha : a + 7 ≤ LL) (hW : hs_Wo I J R t t2 l l2 N S U V K L T nm pm) (hS : l_S sc LL I) (ih : l_IH kc ks sc LL a) : hn_R false 60 kc ks hm_Law_law l_P 520 (l_ls a) [] 213 (I, J, R) := by
  have hW0 := hW
  obtain ⟨⟨hA, zs, px, qs, r3, ⟨r4, r5, l3⟩, lx, vx, kx, tx, zn, nn⟩, hM0, n8, n4, Sw, Uw, Vw, Kw, Lw, l40, tpk, n1, Jw⟩ := hW0
  refine hn_aload_n rfl rfl ?_
  refine l_callV (b := 0) (ci := 0) rfl rfl hk_X_hour rfl rfl rfl rfl (Nat.le_of_ble_eq_true rfl) rfl (Nat.le_of_ble_eq_true rfl) (q_X_hour hA zs px) (Nat.le_of_ble_eq_true rfl) (fun r1 D1 q1 s1 t9 => ?_)
  have hS2 := l_S_of hS s1 t9
  obtain ⟨q1, rfl⟩ := q1
  have Uw2 := u_hour_w n4 Uw
  obtain ⟨I2, rfl, hX2, e2⟩ := WX_ux hW.1 q1 Uw2.1
  have hM2 := WM_same hW.2.1 e2 (fun _ _ => rfl)
  refine hn_aload_n rfl rfl ?_
  refine l_callV (b := 188) (ci := 10) rfl rfl hk_M_hour rfl rfl rfl rfl (Nat.le_of_ble_eq_true rfl) rfl (Nat.le_of_ble_eq_true rfl) (q_M_hour hM2.1 hM2.2.1) (Nat.le_of_ble_eq_true rfl) (fun r2 D2 q2 s2 t8 => ?_)
  have hS3 := l_S_of hS2 s2 t8
  obtain ⟨q2, rfl⟩ := q2
  obtain ⟨I3, rfl, hM3, e3⟩ := WM_um hM2 q2 Uw2.1
  exact hn_icmp_eq rfl (fun _ => ih _ (l_W_of (W_uu hX2 e3 hM3 hW.2.2 Uw2) hS3)) (fun c => absurd rfl c)
set_option maxRecDepth 100000 in
set_option maxHeartbeats 4000000 in
theorem lc_7 (hL : LL ≤ 3584) (ha : a + 7 ≤ LL) (hW : hs_Wo I J R t t2 l l2 N S U V K L T nm pm) (hS : l_S sc LL I) (ih : l_IH kc ks sc LL a) : hn_R false 60 kc ks hm_Law_law l_P 533 (l_ls a) [] 213 (I, J, R) := by
  have hW0 := hW
  obtain ⟨⟨hA, zs, px, qs, r3, ⟨r4, r5, l3⟩, lx, vx, kx, tx, zn, nn⟩, hM0, n8, n4, Sw, Uw, Vw, Kw, Lw, l40, tpk, n1, Jw⟩ := hW0
  refine hn_aload_n rfl rfl ?_
  refine hn_aload_n rfl rfl ?_
  refine hn_iload rfl rfl ?_
  refine hn_iconst rfl ?_
  refine hn_iadd rfl ?_
  refine l_sload rfl hS hL (l_ix (c := 1) (by omega)) (by omega) ?_
  refine l_callV (b := 0) (ci := 0) rfl rfl hk_X_rouse rfl rfl rfl rfl (Nat.le_of_ble_eq_true rfl) rfl (Nat.le_of_ble_eq_true rfl) (q_X_rouse hA zs px) (Nat.le_of_ble_eq_true rfl) (fun r1 D1 q1 s1 t9 => ?_)
  have hS2 := l_S_of hS s1 t9
  obtain ⟨q1, rfl⟩ := q1
  have Uw2 := u_rouse_w (x := sc (a + 1)) n4 Uw
  obtain ⟨I2, rfl, hX2, e2⟩ := WX_ux hW.1 q1 Uw2.1
  have hM2 := WM_same hW.2.1 e2 (fun _ _ => rfl)
  refine hn_aload_n rfl rfl ?_
  refine hn_aload_n rfl rfl ?_
  refine hn_iload rfl rfl ?_
  refine hn_iconst rfl ?_
  refine hn_iadd rfl ?_
  refine l_sload rfl hS2 hL (l_ix (c := 1) (by omega)) (by omega) ?_
  refine l_callV (b := 188) (ci := 10) rfl rfl hk_M_rouse rfl rfl rfl rfl (Nat.le_of_ble_eq_true rfl) rfl (Nat.le_of_ble_eq_true rfl) (q_M_rouse hM2.1 hM2.2.1) (Nat.le_of_ble_eq_true rfl) (fun r2 D2 q2 s2 t8 => ?_)
  have hS3 := l_S_of hS2 s2 t8
  obtain ⟨q2, rfl⟩ := q2
  obtain ⟨I3, rfl, hM3, e3⟩ := WM_um hM2 q2 Uw2.1
  exact hn_icmp_eq rfl (fun _ => ih _ (l_W_of (W_uu hX2 e3 hM3 hW.2.2 Uw2) hS3)) (fun c => absurd rfl c)
set_option maxRecDepth 100000 in
set_option maxHeartbeats 4000000 in
theorem lc_8 (hL : LL ≤ 3584) (ha : a + 7 ≤ LL) (hW : hs_Wo I J R t t2 l l2 N S U V K L T nm pm) (hS : l_S sc LL I) (ih : l_IH kc ks sc LL a) : hn_R false 60 kc ks hm_Law_law l_P 558 (l_ls a) [] 213 (I, J, R) := by
  have hW0 := hW
  obtain ⟨⟨hA, zs, px, qs, r3, ⟨r4, r5, l3⟩, lx, vx, kx, tx, zn, nn⟩, hM0, n8, n4, Sw, Uw, Vw, Kw, Lw, l40, tpk, n1, Jw⟩ := hW0
  refine hn_aload_n rfl rfl ?_
  refine hn_aload_n rfl rfl ?_
  refine hn_iload rfl rfl ?_
  refine hn_iconst rfl ?_
  refine hn_iadd rfl ?_
  refine l_sload rfl hS hL (l_ix (c := 1) (by omega)) (by omega) ?_
  refine hn_aload_n rfl rfl ?_
  refine hn_iload rfl rfl ?_
  refine hn_iconst rfl ?_
  refine hn_iadd rfl ?_
  refine l_sload rfl hS hL (l_ix (c := 2) (by omega)) (by omega) ?_
  refine l_callV (b := 0) (ci := 0) rfl rfl hk_X_lie rfl rfl rfl rfl (Nat.le_of_ble_eq_true rfl) rfl (Nat.le_of_ble_eq_true rfl) (q_X_lie hA zs px) (Nat.le_of_ble_eq_true rfl) (fun r1 D1 q1 s1 t9 => ?_)
  have hS2 := l_S_of hS s1 t9
  obtain ⟨q1, rfl⟩ := q1
  have Uw2 := u_lie_w (x := sc (a + 1)) (y := sc (a + 2)) n4 Uw
  obtain ⟨I2, rfl, hX2, e2⟩ := WX_ux hW.1 q1 Uw2.1
  have hM2 := WM_same hW.2.1 e2 (fun _ _ => rfl)
  refine hn_aload_n rfl rfl ?_
  refine hn_aload_n rfl rfl ?_
  refine hn_iload rfl rfl ?_
  refine hn_iconst rfl ?_
  refine hn_iadd rfl ?_
  refine l_sload rfl hS2 hL (l_ix (c := 1) (by omega)) (by omega) ?_
  refine hn_aload_n rfl rfl ?_
  refine hn_iload rfl rfl ?_
  refine hn_iconst rfl ?_
  refine hn_iadd rfl ?_
  refine l_sload rfl hS2 hL (l_ix (c := 2) (by omega)) (by omega) ?_
  refine l_callV (b := 188) (ci := 10) rfl rfl hk_M_lie rfl rfl rfl rfl (Nat.le_of_ble_eq_true rfl) rfl (Nat.le_of_ble_eq_true rfl) (q_M_lie hM2.1 hM2.2.1) (Nat.le_of_ble_eq_true rfl) (fun r2 D2 q2 s2 t8 => ?_)
  have hS3 := l_S_of hS2 s2 t8
  obtain ⟨q2, rfl⟩ := q2
  obtain ⟨I3, rfl, hM3, e3⟩ := WM_um hM2 q2 Uw2.1
  exact hn_icmp_eq rfl (fun _ => ih _ (l_W_of (W_uu hX2 e3 hM3 hW.2.2 Uw2) hS3)) (fun c => absurd rfl c)
set_option maxRecDepth 100000 in
set_option maxHeartbeats 4000000 in
theorem lc_9 (hL : LL ≤ 3584) (ha : a + 7 ≤ LL) (hW : hs_Wo I J R t t2 l l2 N S U V K L T nm pm) (hS : l_S sc LL I) (ih : l_IH kc ks sc LL a) : hn_R false 60 kc ks hm_Law_law l_P 595 (l_ls a) [] 213 (I, J, R) := by
  have hW0 := hW
  obtain ⟨⟨hA, zs, px, qs, r3, ⟨r4, r5, l3⟩, lx, vx, kx, tx, zn, nn⟩, hM0, n8, n4, Sw, Uw, Vw, Kw, Lw, l40, tpk, n1, Jw⟩ := hW0
  refine hn_aload_n rfl rfl ?_
  refine hn_aload_n rfl rfl ?_
  refine hn_iload rfl rfl ?_
  refine hn_iconst rfl ?_
  refine hn_iadd rfl ?_
  refine l_sload rfl hS hL (l_ix (c := 1) (by omega)) (by omega) ?_
  refine hn_aload_n rfl rfl ?_
  refine hn_iload rfl rfl ?_
  refine hn_iconst rfl ?_
  refine hn_iadd rfl ?_
  refine l_sload rfl hS hL (l_ix (c := 2) (by omega)) (by omega) ?_
  refine l_callV (b := 0) (ci := 0) rfl rfl hk_X_tie rfl rfl rfl rfl (Nat.le_of_ble_eq_true rfl) rfl (Nat.le_of_ble_eq_true rfl) (q_X_tie hA zs px) (Nat.le_of_ble_eq_true rfl) (fun r1 D1 q1 s1 t9 => ?_)
  have hS2 := l_S_of hS s1 t9
  obtain ⟨q1, rfl⟩ := q1
  have Uw2 := u_tie_w (x := sc (a + 1)) (y := sc (a + 2)) n8 Uw
  obtain ⟨I2, rfl, hX2, e2⟩ := WX_ux hW.1 q1 Uw2.1
  have hM2 := WM_same hW.2.1 e2 (fun _ _ => rfl)
  refine hn_aload_n rfl rfl ?_
  refine hn_aload_n rfl rfl ?_
  refine hn_iload rfl rfl ?_
  refine hn_iconst rfl ?_
  refine hn_iadd rfl ?_
  refine l_sload rfl hS2 hL (l_ix (c := 1) (by omega)) (by omega) ?_
  refine hn_aload_n rfl rfl ?_
  refine hn_iload rfl rfl ?_
  refine hn_iconst rfl ?_
  refine hn_iadd rfl ?_
  refine l_sload rfl hS2 hL (l_ix (c := 2) (by omega)) (by omega) ?_
  refine l_callV (b := 188) (ci := 10) rfl rfl hk_M_tie rfl rfl rfl rfl (Nat.le_of_ble_eq_true rfl) rfl (Nat.le_of_ble_eq_true rfl) (q_M_tie hM2.1 hM2.2.1) (Nat.le_of_ble_eq_true rfl) (fun r2 D2 q2 s2 t8 => ?_)
  have hS3 := l_S_of hS2 s2 t8
  obtain ⟨q2, rfl⟩ := q2
  obtain ⟨I3, rfl, hM3, e3⟩ := WM_um hM2 q2 Uw2.1
  exact hn_icmp_eq rfl (fun _ => ih _ (l_W_of (W_uu hX2 e3 hM3 hW.2.2 Uw2) hS3)) (fun c => absurd rfl c)
set_option maxRecDepth 100000 in
set_option maxHeartbeats 4000000 in
theorem lc_10 (hL : LL ≤ 3584) (ha : a + 7 ≤ LL) (hW : hs_Wo I J R t t2 l l2 N S U V K L T nm pm) (hS : l_S sc LL I) (ih : l_IH kc ks sc LL a) : hn_R false 60 kc ks hm_Law_law l_P 632 (l_ls a) [] 213 (I, J, R) := by
  have hW0 := hW
  obtain ⟨⟨hA, zs, px, qs, r3, ⟨r4, r5, l3⟩, lx, vx, kx, tx, zn, nn⟩, hM0, n8, n4, Sw, Uw, Vw, Kw, Lw, l40, tpk, n1, Jw⟩ := hW0
  refine hn_aload_n rfl rfl ?_
  refine l_callV (b := 0) (ci := 0) rfl rfl hk_X_undo rfl rfl rfl rfl (Nat.le_of_ble_eq_true rfl) rfl (Nat.le_of_ble_eq_true rfl) (q_X_undo hA zs px (fun h => Uw.2 0 h)) (Nat.le_of_ble_eq_true rfl) (fun r1 D1 q1 s1 t9 => ?_)
  have hS2 := l_S_of hS s1 t9
  obtain ⟨q1, rfl⟩ := q1
  have Uw2 := u_undo_w Uw
  obtain ⟨I2, rfl, hX2, e2⟩ := WX_ux hW.1 q1 Uw2.1
  have hM2 := WM_same hW.2.1 e2 (fun _ _ => rfl)
  refine hn_aload_n rfl rfl ?_
  refine l_callV (b := 188) (ci := 10) rfl rfl hk_M_undo rfl rfl rfl rfl (Nat.le_of_ble_eq_true rfl) rfl (Nat.le_of_ble_eq_true rfl) (q_M_undo hM2.1 hM2.2.1) (Nat.le_of_ble_eq_true rfl) (fun r2 D2 q2 s2 t8 => ?_)
  have hS3 := l_S_of hS2 s2 t8
  obtain ⟨q2, rfl⟩ := q2
  obtain ⟨I3, rfl, hM3, e3⟩ := WM_um hM2 q2 Uw2.1
  exact hn_icmp_eq rfl (fun _ => ih _ (l_W_of (W_uu hX2 e3 hM3 hW.2.2 Uw2) hS3)) (fun c => absurd rfl c)
set_option maxRecDepth 100000 in
set_option maxHeartbeats 4000000 in
theorem lc_11 (hL : LL ≤ 3584) (ha : a + 7 ≤ LL) (hW : hs_Wo I J R t t2 l l2 N S U V K L T nm pm) (hS : l_S sc LL I) (ih : l_IH kc ks sc LL a) : hn_R false 60 kc ks hm_Law_law l_P 645 (l_ls a) [] 213 (I, J, R) := by
  have hW0 := hW
  obtain ⟨⟨hA, zs, px, qs, r3, ⟨r4, r5, l3⟩, lx, vx, kx, tx, zn, nn⟩, hM0, n8, n4, Sw, Uw, Vw, Kw, Lw, l40, tpk, n1, Jw⟩ := hW0
  refine hn_aload_n rfl rfl ?_
  refine hn_aload_n rfl rfl ?_
  refine hn_iload rfl rfl ?_
  refine hn_iconst rfl ?_
  refine hn_iadd rfl ?_
  refine l_sload rfl hS hL (l_ix (c := 1) (by omega)) (by omega) ?_
  refine l_callV (b := 0) (ci := 0) rfl rfl hk_X_judged rfl rfl rfl rfl (Nat.le_of_ble_eq_true rfl) rfl (Nat.le_of_ble_eq_true rfl) (q_X_judged hA qs Sw r4 (l3.elim (fun z => Or.inl z.1) (fun z => Or.inr z.1)) lx Lw) (Nat.le_of_ble_eq_true rfl) (fun r1 D1 q1 s1 t9 => ?_)
  have hS2 := l_S_of hS s1 t9
  obtain ⟨q1, rfl⟩ := q1
  obtain ⟨I2, J2, rfl, hW2⟩ := W_sx hW q1
  refine hn_aload_n rfl rfl ?_
  refine hn_aload_n rfl rfl ?_
  refine hn_iload rfl rfl ?_
  refine hn_iconst rfl ?_
  refine hn_iadd rfl ?_
  refine l_sload rfl hS2 hL (l_ix (c := 1) (by omega)) (by omega) ?_
  refine l_callV (b := 188) (ci := 10) rfl rfl hk_M_judged rfl rfl rfl rfl (Nat.le_of_ble_eq_true rfl) rfl (Nat.le_of_ble_eq_true rfl) (q_M_judged hW2.2.1.1 hW2.2.1.2.2.1 Sw hW2.2.1.2.2.2.1 l40 Lw) (Nat.le_of_ble_eq_true rfl) (fun r2 D2 q2 s2 t8 => ?_)
  have hS3 := l_S_of hS2 s2 t8
  obtain ⟨q2, rfl⟩ := q2
  obtain ⟨I3, J3, rfl, hW3⟩ := W_sm hW2 q2
  exact hn_icmp_eq rfl (fun _ => ih _ (l_W_of hW3 hS3)) (fun c => absurd rfl c)
set_option maxRecDepth 100000 in
set_option maxHeartbeats 4000000 in
theorem lc_12 (hL : LL ≤ 3584) (ha : a + 7 ≤ LL) (hW : hs_Wo I J R t t2 l l2 N S U V K L T nm pm) (hS : l_S sc LL I) (ih : l_IH kc ks sc LL a) : hn_R false 60 kc ks hm_Law_law l_P 670 (l_ls a) [] 213 (I, J, R) := by
  have hW0 := hW
  obtain ⟨⟨hA, zs, px, qs, r3, ⟨r4, r5, l3⟩, lx, vx, kx, tx, zn, nn⟩, hM0, n8, n4, Sw, Uw, Vw, Kw, Lw, l40, tpk, n1, Jw⟩ := hW0
  refine hn_aload_n rfl rfl ?_
  refine hn_aload_n rfl rfl ?_
  refine hn_iload rfl rfl ?_
  refine hn_iconst rfl ?_
  refine hn_iadd rfl ?_
  refine l_sload rfl hS hL (l_ix (c := 1) (by omega)) (by omega) ?_
  refine hn_aload_n rfl rfl ?_
  refine hn_iload rfl rfl ?_
  refine hn_iconst rfl ?_
  refine hn_iadd rfl ?_
  refine l_sload rfl hS hL (l_ix (c := 2) (by omega)) (by omega) ?_
  refine l_callV (b := 0) (ci := 0) rfl rfl hk_X_later rfl rfl rfl rfl (Nat.le_of_ble_eq_true rfl) rfl (Nat.le_of_ble_eq_true rfl) (q_X_later hA) (Nat.le_of_ble_eq_true rfl) (fun r1 D1 q1 s1 t9 => ?_)
  have hS2 := l_S_of hS s1 t9
  obtain ⟨q1, rfl⟩ := q1
  obtain ⟨I2, J2, rfl, hW2⟩ := W_sx hW q1
  refine hn_aload_n rfl rfl ?_
  refine hn_aload_n rfl rfl ?_
  refine hn_iload rfl rfl ?_
  refine hn_iconst rfl ?_
  refine hn_iadd rfl ?_
  refine l_sload rfl hS2 hL (l_ix (c := 1) (by omega)) (by omega) ?_
  refine hn_aload_n rfl rfl ?_
  refine hn_iload rfl rfl ?_
  refine hn_iconst rfl ?_
  refine hn_iadd rfl ?_
  refine l_sload rfl hS2 hL (l_ix (c := 2) (by omega)) (by omega) ?_
  refine l_callV (b := 188) (ci := 10) rfl rfl hk_M_later rfl rfl rfl rfl (Nat.le_of_ble_eq_true rfl) rfl (Nat.le_of_ble_eq_true rfl) (q_M_later hW2.2.1.1) (Nat.le_of_ble_eq_true rfl) (fun r2 D2 q2 s2 t8 => ?_)
  have hS3 := l_S_of hS2 s2 t8
  obtain ⟨q2, rfl⟩ := q2
  obtain ⟨I3, J3, rfl, hW3⟩ := W_sm hW2 q2
  exact hn_icmp_eq rfl (fun _ => ih _ (l_W_of hW3 hS3)) (fun c => absurd rfl c)
set_option maxRecDepth 100000 in
set_option maxHeartbeats 4000000 in
theorem lc_13 (hL : LL ≤ 3584) (ha : a + 7 ≤ LL) (hW : hs_Wo I J R t t2 l l2 N S U V K L T nm pm) (hS : l_S sc LL I) (ih : l_IH kc ks sc LL a) : hn_R false 60 kc ks hm_Law_law l_P 707 (l_ls a) [] 213 (I, J, R) := by
  have hW0 := hW
  obtain ⟨⟨hA, zs, px, qs, r3, ⟨r4, r5, l3⟩, lx, vx, kx, tx, zn, nn⟩, hM0, n8, n4, Sw, Uw, Vw, Kw, Lw, l40, tpk, n1, Jw⟩ := hW0
  refine hn_aload_n rfl rfl ?_
  refine hn_aload_n rfl rfl ?_
  refine hn_iload rfl rfl ?_
  refine hn_iconst rfl ?_
  refine hn_iadd rfl ?_
  refine l_sload rfl hS hL (l_ix (c := 1) (by omega)) (by omega) ?_
  refine l_callV (b := 0) (ci := 0) rfl rfl hk_X_falls rfl rfl rfl rfl (Nat.le_of_ble_eq_true rfl) rfl (Nat.le_of_ble_eq_true rfl) (q_X_falls hA) (Nat.le_of_ble_eq_true rfl) (fun r1 D1 q1 s1 t9 => ?_)
  have hS2 := l_S_of hS s1 t9
  obtain ⟨q1, rfl⟩ := q1
  obtain ⟨I2, J2, rfl, hW2⟩ := W_sx hW q1
  refine hn_aload_n rfl rfl ?_
  refine hn_aload_n rfl rfl ?_
  refine hn_iload rfl rfl ?_
  refine hn_iconst rfl ?_
  refine hn_iadd rfl ?_
  refine l_sload rfl hS2 hL (l_ix (c := 1) (by omega)) (by omega) ?_
  refine l_callV (b := 188) (ci := 10) rfl rfl hk_M_falls rfl rfl rfl rfl (Nat.le_of_ble_eq_true rfl) rfl (Nat.le_of_ble_eq_true rfl) (q_M_falls hW2.2.1.1) (Nat.le_of_ble_eq_true rfl) (fun r2 D2 q2 s2 t8 => ?_)
  have hS3 := l_S_of hS2 s2 t8
  obtain ⟨q2, rfl⟩ := q2
  obtain ⟨I3, J3, rfl, hW3⟩ := W_sm hW2 q2
  exact hn_icmp_eq rfl (fun _ => ih _ (l_W_of hW3 hS3)) (fun c => absurd rfl c)
end HNcases
