/-! the law's switch and its loop -/
section HNloop
variable {I : Nat → Nat → Int32} {J : Nat → Nat → Int64} {R : Nat → Nat → Option Nat} {t t2 l l2 LL a kc ks : Nat} {N : sp_N} {S : sp_Q} {U : sp_U} {V : sp_V} {K : sp_K} {L : sp_L} {T : sp_T} {nm pm : Nat → Nat} {sc : Nat → Int32}
theorem hn_more {g : Bool} {d kc ks kc2 ks2 : Nat} {M : hnM} {P : Option Value → Nat → hnD → Prop} {pc : Nat} {ls st : List Value} {n : Nat} {D : hnD} (h : hn_R g d kc ks M P pc ls st n D) (h1 : kc ≤ kc2) (h2 : ks ≤ ks2) : hn_R g d kc2 ks2 M P pc ls st n D := by
  intro p l e R s m args below meth cd dC dI ty ad b0 L xs Q C F H locs cells slots lsA hS hc hs hL
  exact h p l e R s m args below meth cd dC dI ty ad b0 L xs Q C F H locs cells slots lsA hS (by omega) (by omega) hL
set_option maxRecDepth 100000 in
theorem l_swd {k : Nat} (h1 : 45 ≤ k) (h2 : k < 64) (h : hn_R false 60 kc ks hm_Law_law l_P 1642 (l_ls a) [] 213 (I, J, R)) : hn_R false 60 kc ks hm_Law_law l_P 40 (l_ls a) [.int (nI k)] 213 (I, J, R) := by
  refine hn_tsw (q := 1642) rfl ?_ h
  rw [if_pos (Or.inr (by rw [nI_toInt (by omega)]; omega))]
  rfl
set_option maxRecDepth 100000 in
set_option maxHeartbeats 4000000 in
theorem l_sw (hL : LL ≤ 3584) (ha : a + 7 ≤ LL) (hW : hs_Wo I J R t t2 l l2 N S U V K L T nm pm) (hS : l_S sc LL I) (ih : l_IH kc ks sc LL a) {k : Nat} (hk : k < 64) : hn_R false 60 (kc + 1) (ks + 6) hm_Law_law l_P 40 (l_ls a) [.int (nI k)] 213 (I, J, R) := by
  by_cases h0 : k = 0
  · rw [h0]; exact hn_tsw (q := 236) rfl rfl (hn_more (lc_0 hL ha hW hS ih) (Nat.le_add_right _ _) (Nat.le_add_right _ _))
  by_cases h1 : k = 1
  · rw [h1]; exact hn_tsw (q := 383) rfl rfl (hn_more (lc_1 hL ha hW hS ih) (Nat.le_add_right _ _) (Nat.le_add_right _ _))
  by_cases h2 : k = 2
  · rw [h2]; exact hn_tsw (q := 396) rfl rfl (hn_more (lc_2 hL ha hW hS ih) (Nat.le_add_right _ _) (Nat.le_add_right _ _))
  by_cases h3 : k = 3
  · rw [h3]; exact hn_tsw (q := 409) rfl rfl (hn_more (lc_3 hL ha hW hS ih) (Nat.le_add_right _ _) (Nat.le_add_right _ _))
  by_cases h4 : k = 4
  · rw [h4]; exact hn_tsw (q := 446) rfl rfl (hn_more (lc_4 hL ha hW hS ih) (Nat.le_add_right _ _) (Nat.le_add_right _ _))
  by_cases h5 : k = 5
  · rw [h5]; exact hn_tsw (q := 483) rfl rfl (hn_more (lc_5 hL ha hW hS ih) (Nat.le_add_right _ _) (Nat.le_add_right _ _))
  by_cases h6 : k = 6
  · rw [h6]; exact hn_tsw (q := 520) rfl rfl (hn_more (lc_6 hL ha hW hS ih) (Nat.le_add_right _ _) (Nat.le_add_right _ _))
  by_cases h7 : k = 7
  · rw [h7]; exact hn_tsw (q := 533) rfl rfl (hn_more (lc_7 hL ha hW hS ih) (Nat.le_add_right _ _) (Nat.le_add_right _ _))
  by_cases h8 : k = 8
  · rw [h8]; exact hn_tsw (q := 558) rfl rfl (hn_more (lc_8 hL ha hW hS ih) (Nat.le_add_right _ _) (Nat.le_add_right _ _))
  by_cases h9 : k = 9
  · rw [h9]; exact hn_tsw (q := 595) rfl rfl (hn_more (lc_9 hL ha hW hS ih) (Nat.le_add_right _ _) (Nat.le_add_right _ _))
  by_cases h10 : k = 10
  · rw [h10]; exact hn_tsw (q := 632) rfl rfl (hn_more (lc_10 hL ha hW hS ih) (Nat.le_add_right _ _) (Nat.le_add_right _ _))
  by_cases h11 : k = 11
  · rw [h11]; exact hn_tsw (q := 645) rfl rfl (hn_more (lc_11 hL ha hW hS ih) (Nat.le_add_right _ _) (Nat.le_add_right _ _))
  by_cases h12 : k = 12
  · rw [h12]; exact hn_tsw (q := 670) rfl rfl (hn_more (lc_12 hL ha hW hS ih) (Nat.le_add_right _ _) (Nat.le_add_right _ _))
  by_cases h13 : k = 13
  · rw [h13]; exact hn_tsw (q := 707) rfl rfl (hn_more (lc_13 hL ha hW hS ih) (Nat.le_add_right _ _) (Nat.le_add_right _ _))
  by_cases h14 : k = 14
  · rw [h14]; exact hn_tsw (q := 732) rfl rfl (hn_more (lc_14 hL ha hW hS ih) (Nat.le_add_right _ _) (Nat.le_add_right _ _))
  by_cases h15 : k = 15
  · rw [h15]; exact hn_tsw (q := 757) rfl rfl (hn_more (lc_15 hL ha hW hS ih) (Nat.le_add_right _ _) (Nat.le_add_right _ _))
  by_cases h16 : k = 16
  · rw [h16]; exact hn_tsw (q := 770) rfl rfl (hn_more (lc_16 hL ha hW hS ih) (Nat.le_add_right _ _) (Nat.le_add_right _ _))
  by_cases h17 : k = 17
  · rw [h17]; exact hn_tsw (q := 807) rfl rfl (hn_more (lc_17 hL ha hW hS ih) (Nat.le_add_right _ _) (Nat.le_add_right _ _))
  by_cases h18 : k = 18
  · rw [h18]; exact hn_tsw (q := 820) rfl rfl (hn_more (lc_18 hL ha hW hS ih) (Nat.le_add_right _ _) (Nat.le_add_right _ _))
  by_cases h19 : k = 19
  · rw [h19]; exact hn_tsw (q := 845) rfl rfl (hn_more (lc_19 hL ha hW hS ih) (Nat.le_add_right _ _) (Nat.le_add_right _ _))
  by_cases h20 : k = 20
  · rw [h20]; exact hn_tsw (q := 882) rfl rfl (hn_more (lc_20 hL ha hW hS ih) (Nat.le_add_right _ _) (Nat.le_add_right _ _))
  by_cases h21 : k = 21
  · rw [h21]; exact hn_tsw (q := 931) rfl rfl (hn_more (lc_21 hL ha hW hS ih) (Nat.le_add_right _ _) (Nat.le_add_right _ _))
  by_cases h22 : k = 22
  · rw [h22]; exact hn_tsw (q := 944) rfl rfl (hn_more (lc_22 hL ha hW hS ih) (Nat.le_add_right _ _) (Nat.le_add_right _ _))
  by_cases h23 : k = 23
  · rw [h23]; exact hn_tsw (q := 957) rfl rfl (hn_more (lc_23 hL ha hW hS ih) (Nat.le_add_right _ _) (Nat.le_add_right _ _))
  by_cases h24 : k = 24
  · rw [h24]; exact hn_tsw (q := 970) rfl rfl (hn_more (lc_24 hL ha hW hS ih) (Nat.le_add_right _ _) (Nat.le_add_right _ _))
  by_cases h25 : k = 25
  · rw [h25]; exact hn_tsw (q := 995) rfl rfl (hn_more (lc_25 hL ha hW hS ih) (Nat.le_add_right _ _) (Nat.le_add_right _ _))
  by_cases h26 : k = 26
  · rw [h26]; exact hn_tsw (q := 1032) rfl rfl (hn_more (lc_26 hL ha hW hS ih) (Nat.le_add_right _ _) (Nat.le_add_right _ _))
  by_cases h27 : k = 27
  · rw [h27]; exact hn_tsw (q := 1057) rfl rfl (hn_more (lc_27 hL ha hW hS ih) (Nat.le_add_right _ _) (Nat.le_add_right _ _))
  by_cases h28 : k = 28
  · rw [h28]; exact hn_tsw (q := 1082) rfl rfl (hn_more (lc_28 hL ha hW hS ih) (Nat.le_add_right _ _) (Nat.le_add_right _ _))
  by_cases h29 : k = 29
  · rw [h29]; exact hn_tsw (q := 1095) rfl rfl (hn_more (lc_29 hL ha hW hS ih) (Nat.le_add_right _ _) (Nat.le_add_right _ _))
  by_cases h30 : k = 30
  · rw [h30]; exact hn_tsw (q := 1108) rfl rfl (hn_more (lc_30 hL ha hW hS ih) (Nat.le_add_right _ _) (Nat.le_add_right _ _))
  by_cases h31 : k = 31
  · rw [h31]; exact hn_tsw (q := 1121) rfl rfl (hn_more (lc_31 hL ha hW hS ih) (Nat.le_add_right _ _) (Nat.le_add_right _ _))
  by_cases h32 : k = 32
  · rw [h32]; exact hn_tsw (q := 1134) rfl rfl (hn_more (lc_32 hL ha hW hS ih) (Nat.le_add_right _ _) (Nat.le_add_right _ _))
  by_cases h33 : k = 33
  · rw [h33]; exact hn_tsw (q := 1147) rfl rfl (hn_more (lc_33 hL ha hW hS ih) (Nat.le_add_right _ _) (Nat.le_add_right _ _))
  by_cases h34 : k = 34
  · rw [h34]; exact hn_tsw (q := 1172) rfl rfl (hn_more (lc_34 hL ha hW hS ih) (Nat.le_add_right _ _) (Nat.le_add_right _ _))
  by_cases h35 : k = 35
  · rw [h35]; exact hn_tsw (q := 1197) rfl rfl (hn_more (lc_35 hL ha hW hS ih) (Nat.le_add_right _ _) (Nat.le_add_right _ _))
  by_cases h36 : k = 36
  · rw [h36]; exact hn_tsw (q := 1234) rfl rfl (hn_more (lc_36 hL ha hW hS ih) (Nat.le_add_right _ _) (Nat.le_add_right _ _))
  by_cases h37 : k = 37
  · rw [h37]; exact hn_tsw (q := 1259) rfl rfl (hn_more (lc_37 hL ha hW hS ih) (Nat.le_add_right _ _) (Nat.le_add_right _ _))
  by_cases h38 : k = 38
  · rw [h38]; exact hn_tsw (q := 1336) rfl rfl (hn_more (lc_38 hL ha hW hS ih) (Nat.le_add_right _ _) (Nat.le_add_right _ _))
  by_cases h39 : k = 39
  · rw [h39]; exact hn_tsw (q := 1361) rfl rfl (hn_more (lc_39 hL ha hW hS ih) (Nat.le_add_right _ _) (Nat.le_add_right _ _))
  by_cases h40 : k = 40
  · rw [h40]; exact hn_tsw (q := 1374) rfl rfl (hn_more (lc_40 hL ha hW hS ih) (Nat.le_add_right _ _) (Nat.le_add_right _ _))
  by_cases h41 : k = 41
  · rw [h41]; exact hn_tsw (q := 1423) rfl rfl (lc_41 hL ha hW hS ih)
  by_cases h42 : k = 42
  · rw [h42]; exact hn_tsw (q := 1515) rfl rfl (hn_more (lc_42 hL ha hW hS ih) (Nat.le_add_right _ _) (Nat.le_add_right _ _))
  by_cases h43 : k = 43
  · rw [h43]; exact hn_tsw (q := 1564) rfl rfl (hn_more (lc_43 hL ha hW hS ih) (Nat.le_add_right _ _) (Nat.le_add_right _ _))
  by_cases h44 : k = 44
  · rw [h44]; exact hn_tsw (q := 1617) rfl rfl (hn_more (lc_44 hL ha hW hS ih) (Nat.le_add_right _ _) (Nat.le_add_right _ _))
  exact hn_more (l_swd (by omega) hk (ih _ (l_W_of hW hS))) (Nat.le_add_right _ _) (Nat.le_add_right _ _)
theorem l_cmp (hL : LL ≤ 3584) (ha : a ≤ 3600) (h : ¬ nI LL - 7 < nI a) : a + 7 ≤ LL := by
  by_cases h7 : 7 ≤ LL
  · have e : nI LL - 7 = nI (LL - 7) := nI_sb (a := LL) (b := 7) h7
    rw [e] at h
    by_cases h9 : LL - 7 < a
    · exact absurd (nI_lt h9 (by omega)) h
    · omega
  · exfalso
    apply h
    have h0 : nI LL - 7 < 0 := by
      rcases (show LL = 0 ∨ LL = 1 ∨ LL = 2 ∨ LL = 3 ∨ LL = 4 ∨ LL = 5 ∨ LL = 6 by omega) with e | e | e | e | e | e | e <;> (rw [e]; decide)
    exact Int32.lt_of_lt_of_le h0 (nI_pos' (by omega))
set_option maxRecDepth 100000 in
theorem l_head {D : hnD} (hL : LL ≤ 3584) (ha : a ≤ 3600) (hW : l_W sc LL D) (h : a + 7 ≤ LL → hn_R false 60 kc ks hm_Law_law l_P 33 (l_ls a) [] 213 D) : hn_R false 60 kc ks hm_Law_law l_P 23 (l_ls a) [] 213 D := by
  obtain ⟨t, t2, l, l2, N, S, U, V, K, L, T, nm, pm, hWo, hS⟩ := hW
  refine hn_iload rfl rfl ?_
  refine hn_aload_n rfl rfl ?_
  refine hn_slen rfl ?_
  refine hn_bipush rfl ?_
  refine hn_isub rfl ?_
  refine hn_icmp_gt rfl (fun c => ?_) (fun c => ?_)
  · refine hn_iconst rfl ?_
    exact hn_ireturn (st := []) rfl (Or.inr rfl) rfl
  · rw [hS.2] at c
    exact h (l_cmp hL ha c)
set_option maxRecDepth 100000 in
theorem l_back {D : hnD} (h : hn_R false 60 kc ks hm_Law_law l_P 23 (l_ls (a + 7)) [] 213 D) : hn_R false 60 kc ks hm_Law_law l_P 1642 (l_ls a) [] 213 D := by
  refine hn_iinc (v := .null) rfl rfl (Nat.le_of_ble_eq_true rfl) ?_
  refine hn_goto rfl ?_
  refine hn_eq ?_ rfl rfl h
  show [Value.ref 6000, .ref 0, .ref 188, .ref 212, .int (nI a + nI 7), .null, .null] = _
  rw [nI_add]
set_option maxRecDepth 100000 in
theorem l_lp (hL : LL ≤ 3584) : ∀ (m a : Nat) (D : hnD), LL ≤ a + 7 * m + 6 → a ≤ 3600 → l_W sc LL D → hn_R false 60 m (6 * m) hm_Law_law l_P 23 (l_ls a) [] 213 D
  | 0, a, D, h1, h2, hW => l_head hL h2 hW (fun h => absurd h (by omega))
  | m + 1, a, D, h1, h2, hW => by
    refine l_head hL h2 hW (fun ha => ?_)
    obtain ⟨I, J, R⟩ := D
    obtain ⟨t, t2, l, l2, N, S, U, V, K, L, T, nm, pm, hWo, hS⟩ := hW
    have ih : l_IH m (6 * m) sc LL a := fun D hD => l_back (l_lp hL m (a + 7) D (by omega) (by omega) hD)
    refine hn_aload_n rfl rfl ?_
    refine hn_iload rfl rfl ?_
    refine l_sload rfl hS hL (nI_toInt (by omega)) (by omega) ?_
    refine hn_bipush rfl ?_
    refine hn_iand rfl ?_
    obtain ⟨k, hk, e⟩ := l_63 (sc a)
    exact hn_eq rfl (congrArg (fun z => [Value.int z]) e) rfl (l_sw hL ha hWo hS ih hk)
end HNloop
