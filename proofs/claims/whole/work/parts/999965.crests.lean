/-! the case of rests -/
section HNcrests
variable {I : Nat → Nat → Int32} {J : Nat → Nat → Int64} {R : Nat → Nat → Option Nat} {t t2 l l2 LL a kc ks : Nat} {N : sp_N} {S : sp_Q} {U : sp_U} {V : sp_V} {K : sp_K} {L : sp_L} {T : sp_T} {nm pm : Nat → Nat} {sc : Nat → Int32}
theorem l_cmp0 {x y : Int64} (h : x = y) : lg_cmp x y = 0 := by
  subst h
  simp [lg_cmp]
theorem l_w41 {v : Int32} (h : hs_Wo I J R t t2 l l2 N S U V K L T nm pm) (hS : l_S sc LL I) : l_W sc LL (hn_u I 188 0 v, J, R) := by
  obtain ⟨I9, J9, e, hW9⟩ := W_sm h (hs_sm_0 (v := v))
  have e1 : hn_u I 188 0 v = I9 := congrArg (fun z => z.1) e
  have e2 : J = J9 := congrArg (fun z => z.2.1) e
  subst e1; subst e2
  exact l_W_of hW9 ⟨(hn_u_ne _ _ _ (by omega)).trans hS.1, (congrFun (hn_u_ne _ _ _ (by omega)) 0).trans hS.2⟩
set_option maxRecDepth 100000 in
set_option maxHeartbeats 4000000 in
theorem lc_41 (hL : LL ≤ 3584) (ha : a + 7 ≤ LL) (hW : hs_Wo I J R t t2 l l2 N S U V K L T nm pm) (hS : l_S sc LL I) (ih : l_IH kc ks sc LL a) : hn_R false 60 (kc + 1) (ks + 6) hm_Law_law l_P 1423 (l_ls a) [] 213 (I, J, R) := by
  refine hn_aload_n rfl rfl ?_
  refine hn_aload_n rfl rfl ?_
  refine hn_iload rfl rfl ?_
  refine hn_iconst rfl ?_
  refine hn_iadd rfl ?_
  refine l_sload rfl hS hL (l_ix (c := 1) (by omega)) (by omega) ?_
  refine hn_aload_n rfl rfl ?_
  refine hn_iload rfl rfl ?_
  refine hn_iconst rfl ?_
  refine hn_iadd rfl ?_
  refine l_sload rfl hS hL (l_ix (c := 2) (by omega)) (by omega) ?_
  refine hn_aload_n rfl rfl ?_
  refine hn_iload rfl rfl ?_
  refine hn_iconst rfl ?_
  refine hn_iadd rfl ?_
  refine l_sload rfl hS hL (l_ix (c := 3) (by omega)) (by omega) ?_
  refine hn_aload_n rfl rfl ?_
  refine hn_iload rfl rfl ?_
  refine hn_iconst rfl ?_
  refine hn_iadd rfl ?_
  refine l_sload rfl hS hL (l_ix (c := 4) (by omega)) (by omega) ?_
  refine hn_aload_n rfl rfl ?_
  refine hn_callSW (M1 := hm_Law_rests) (as := [.ref 0, .int (sc (a + 1)), .int (sc (a + 2)), .int (sc (a + 3)), .int (sc (a + 4)), .ref 212]) (q1 := 1148) (q2 := 1147) (q3 := 115) rfl rfl (by decide +kernel) (by decide +kernel) (by decide +kernel) ⟨by decide, by decide, (by decide +kernel : (parseMethodDescriptor (hn_y hm_Law_rests).desc).map (fun d => d.parameters.length) = some 6)⟩ (Nat.le_of_ble_eq_true rfl) rfl (Nat.le_of_ble_eq_true rfl) q_Law_rests (Nat.le_of_ble_eq_true rfl) (Nat.add_comm 1 kc) (Nat.add_comm 6 ks) (fun r n' D' h => ?_)
  obtain ⟨rfl, h | h⟩ := h
  · obtain ⟨hv, rfl, rfl⟩ := h
    refine hn_istore rfl (Nat.le_of_ble_eq_true rfl) ?_
    refine hn_aload_n rfl rfl ?_
    refine hn_aload_n rfl rfl ?_
    refine hn_iload rfl rfl ?_
    refine hn_iconst rfl ?_
    refine hn_iadd rfl ?_
    refine l_sload rfl hS hL (l_ix (c := 1) (by omega)) (by omega) ?_
    refine hn_aload_n rfl rfl ?_
    refine hn_iload rfl rfl ?_
    refine hn_iconst rfl ?_
    refine hn_iadd rfl ?_
    refine l_sload rfl hS hL (l_ix (c := 2) (by omega)) (by omega) ?_
    refine hn_aload_n rfl rfl ?_
    refine hn_iload rfl rfl ?_
    refine hn_iconst rfl ?_
    refine hn_iadd rfl ?_
    refine l_sload rfl hS hL (l_ix (c := 3) (by omega)) (by omega) ?_
    refine hn_aload_n rfl rfl ?_
    refine hn_iload rfl rfl ?_
    refine hn_iconst rfl ?_
    refine hn_iadd rfl ?_
    refine l_sload rfl hS hL (l_ix (c := 4) (by omega)) (by omega) ?_
    refine l_callV (b := 188) (ci := 10) rfl rfl hk_M_rests rfl rfl rfl rfl (Nat.le_of_ble_eq_true rfl) rfl (Nat.le_of_ble_eq_true rfl) (q_M_rests) (Nat.le_of_ble_eq_true rfl) (fun r2 D2 q2 s2 t8 => ?_)
    obtain ⟨rfl, rfl⟩ := q2
    refine hn_istore rfl (Nat.le_of_ble_eq_true rfl) ?_
    refine hn_aload_n rfl rfl ?_
    refine l_callV (b := 188) (ci := 10) rfl rfl hk_M_thrown rfl rfl rfl rfl (Nat.le_of_ble_eq_true rfl) rfl (Nat.le_of_ble_eq_true rfl) (q_M_thrown (x := 1) (by rw [hs_us, if_pos hv])) (Nat.le_of_ble_eq_true rfl) (fun r3 D3 q3 s3 t7 => ?_)
    obtain ⟨rfl, rfl⟩ := q3
    refine hn_iload rfl rfl ?_
    refine hn_icmp_eq rfl (fun _ => ?_) (fun c => absurd rfl c)
    refine hn_iload rfl rfl ?_
    refine hn_if_ne rfl (fun _ => ?_) (fun c => absurd c (by decide))
    refine hn_goto rfl ?_
    exact hn_lp (ih _ (l_w41 hW hS)) (le_e (le_e (le_e (le_e (le_e (le_n (le_n le_0)))))))
  · obtain ⟨hv, rfl, rfl⟩ := h
    have hW2 : hs_Wo I (hn_u J 212 0 (v_rests (sc (a + 1)) (sc (a + 2)) (sc (a + 3)) (sc (a + 4))).toInt64) R t t2 l l2 N S U V K L T nm pm := W_J212 hW
    have e41 : hn_u J 212 0 (v_rests (sc (a + 1)) (sc (a + 2)) (sc (a + 3)) (sc (a + 4))).toInt64 212 0 = (if v_thr (sc (a + 1)) (sc (a + 2)) (sc (a + 3)) (sc (a + 4)) then 0 else v_rests (sc (a + 1)) (sc (a + 2)) (sc (a + 3)) (sc (a + 4))).toInt64 := by rw [hs_us, if_neg hv]
    refine hn_istore rfl (Nat.le_of_ble_eq_true rfl) ?_
    refine hn_aload_n rfl rfl ?_
    refine hn_aload_n rfl rfl ?_
    refine hn_iload rfl rfl ?_
    refine hn_iconst rfl ?_
    refine hn_iadd rfl ?_
    refine l_sload rfl hS hL (l_ix (c := 1) (by omega)) (by omega) ?_
    refine hn_aload_n rfl rfl ?_
    refine hn_iload rfl rfl ?_
    refine hn_iconst rfl ?_
    refine hn_iadd rfl ?_
    refine l_sload rfl hS hL (l_ix (c := 2) (by omega)) (by omega) ?_
    refine hn_aload_n rfl rfl ?_
    refine hn_iload rfl rfl ?_
    refine hn_iconst rfl ?_
    refine hn_iadd rfl ?_
    refine l_sload rfl hS hL (l_ix (c := 3) (by omega)) (by omega) ?_
    refine hn_aload_n rfl rfl ?_
    refine hn_iload rfl rfl ?_
    refine hn_iconst rfl ?_
    refine hn_iadd rfl ?_
    refine l_sload rfl hS hL (l_ix (c := 4) (by omega)) (by omega) ?_
    refine l_callV (b := 188) (ci := 10) rfl rfl hk_M_rests rfl rfl rfl rfl (Nat.le_of_ble_eq_true rfl) rfl (Nat.le_of_ble_eq_true rfl) (q_M_rests) (Nat.le_of_ble_eq_true rfl) (fun r2 D2 q2 s2 t8 => ?_)
    obtain ⟨rfl, rfl⟩ := q2
    refine hn_istore rfl (Nat.le_of_ble_eq_true rfl) ?_
    refine hn_aload_n rfl rfl ?_
    refine l_callV (b := 188) (ci := 10) rfl rfl hk_M_thrown rfl rfl rfl rfl (Nat.le_of_ble_eq_true rfl) rfl (Nat.le_of_ble_eq_true rfl) (q_M_thrown (x := 0) (by rw [hs_us, if_neg hv])) (Nat.le_of_ble_eq_true rfl) (fun r3 D3 q3 s3 t7 => ?_)
    obtain ⟨rfl, rfl⟩ := q3
    refine hn_iload rfl rfl ?_
    refine hn_icmp_eq rfl (fun _ => ?_) (fun c => absurd rfl c)
    refine hn_iload rfl rfl ?_
    refine hn_if_ne rfl (fun c => absurd rfl c) (fun _ => ?_)
    refine hn_aload_n rfl rfl ?_
    refine hn_iconst rfl ?_
    refine hn_laload (a := 212) (j := 0) (z := 1) rfl rfl (by omega) rfl (by omega) ?_
    refine hn_iload rfl rfl ?_
    refine hn_i2l rfl ?_
    refine hn_lcmp rfl ?_
    refine hn_if_eq rfl (fun _ => ?_) (fun c => absurd (l_cmp0 ?_) c)
    · refine hn_goto rfl ?_
      exact hn_lp (ih _ (l_w41 hW2 hS)) (le_e (le_e (le_e (le_e (le_e (le_n (le_n le_0)))))))
    · exact e41
end HNcrests
