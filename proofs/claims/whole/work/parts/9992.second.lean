section HNsecond
variable {I : Nat → Nat → Int32} {J : Nat → Nat → Int64} {R : Nat → Nat → Option Nat}
theorem z0_j {n a k : Nat} {v : Int64} (h : hs_z0 I J R n) (ha : a < n) : hs_z0 I (hn_u J a k v) R n := fun b h1 h2 => ⟨(h b h1 h2).1, by rw [hn_u_ne _ _ _ (by omega)]; exact (h b h1 h2).2.1, (h b h1 h2).2.2⟩
def mR (R : Nat → Nat → Option Nat) : Nat → Nat → Option Nat := hn_u (hn_u (hn_u (hn_u (hn_u (hn_u (hn_u (hn_u (hn_u (hn_u (hn_u (hn_u (hn_u (hn_u (hn_u (hn_u (hn_u (hn_u (hn_u (hn_u (hn_u (hn_u (hn_u (R) 188 1 (some 189)) 188 4 (some 190)) 188 5 (some 191)) 188 6 (some 192)) 188 9 (some 193)) 188 10 (some 194)) 188 11 (some 195)) 188 12 (some 196)) 188 14 (some 197)) 188 15 (some 198)) 188 16 (some 199)) 188 17 (some 200)) 188 20 (some 201)) 188 21 (some 202)) 188 22 (some 203)) 188 23 (some 204)) 188 25 (some 205)) 188 27 (some 206)) 188 28 (some 207)) 188 29 (some 208)) 188 30 (some 209)) 188 31 (some 210)) 188 32 (some 211)
def mJ (J : Nat → Nat → Int64) : Nat → Nat → Int64 := hn_u (hn_u (hn_u (hn_u (hn_u (hn_u (hn_u (hn_u (hn_u (hn_u (hn_u (hn_u (hn_u (hn_u (hn_u (hn_u (hn_u (hn_u (hn_u (hn_u (hn_u (hn_u (hn_u (hn_u (J) 193 0 576924) 193 1 15769678) 193 2 1355943003) 193 3 3053484035) 193 4 1119812451) 193 5 1177796) 193 6 57) 193 7 23570536) 193 8 426554) 193 9 36026846) 193 10 34524150) 193 11 16766) 193 12 27718) 193 13 30596128) 193 14 316918) 193 15 979184) 193 16 209995) 193 17 19741) 193 18 1891) 193 19 573) 193 20 426207) 193 21 671332) 193 22 660401) 193 23 1078055329
theorem mR_M (R : Nat → Nat → Option Nat) : hs_M (mR R) := ⟨rfl, rfl, rfl, rfl, rfl, rfl, rfl, rfl, rfl, rfl, rfl, rfl, rfl, rfl, rfl, rfl, rfl, rfl, rfl, rfl, rfl, rfl, rfl⟩
theorem mR_ne {b : Nat} (h : b ≠ 188) : mR R b = R b := by unfold mR; rw [hn_u_ne _ _ _ h, hn_u_ne _ _ _ h, hn_u_ne _ _ _ h, hn_u_ne _ _ _ h, hn_u_ne _ _ _ h, hn_u_ne _ _ _ h, hn_u_ne _ _ _ h, hn_u_ne _ _ _ h, hn_u_ne _ _ _ h, hn_u_ne _ _ _ h, hn_u_ne _ _ _ h, hn_u_ne _ _ _ h, hn_u_ne _ _ _ h, hn_u_ne _ _ _ h, hn_u_ne _ _ _ h, hn_u_ne _ _ _ h, hn_u_ne _ _ _ h, hn_u_ne _ _ _ h, hn_u_ne _ _ _ h, hn_u_ne _ _ _ h, hn_u_ne _ _ _ h, hn_u_ne _ _ _ h, hn_u_ne _ _ _ h]
theorem mJ_ne {b : Nat} (h : b ≠ 193) : mJ J b = J b := by unfold mJ; rw [hn_u_ne _ _ _ h, hn_u_ne _ _ _ h, hn_u_ne _ _ _ h, hn_u_ne _ _ _ h, hn_u_ne _ _ _ h, hn_u_ne _ _ _ h, hn_u_ne _ _ _ h, hn_u_ne _ _ _ h, hn_u_ne _ _ _ h, hn_u_ne _ _ _ h, hn_u_ne _ _ _ h, hn_u_ne _ _ _ h, hn_u_ne _ _ _ h, hn_u_ne _ _ _ h, hn_u_ne _ _ _ h, hn_u_ne _ _ _ h, hn_u_ne _ _ _ h, hn_u_ne _ _ _ h, hn_u_ne _ _ _ h, hn_u_ne _ _ _ h, hn_u_ne _ _ _ h, hn_u_ne _ _ _ h, hn_u_ne _ _ _ h, hn_u_ne _ _ _ h]
def mJl : List Int64 := [576924, 15769678, 1355943003, 3053484035, 1119812451, 1177796, 57, 23570536, 426554, 36026846, 34524150, 16766, 27718, 30596128, 316918, 979184, 209995, 19741, 1891, 573, 426207, 671332, 660401, 1078055329]
theorem mJ_l : ∀ w, w < 24 → mJ J 193 w = mJl.getD w 0 := fun w hw => match w, hw with | 0, _ => rfl | 1, _ => rfl | 2, _ => rfl | 3, _ => rfl | 4, _ => rfl | 5, _ => rfl | 6, _ => rfl | 7, _ => rfl | 8, _ => rfl | 9, _ => rfl | 10, _ => rfl | 11, _ => rfl | 12, _ => rfl | 13, _ => rfl | 14, _ => rfl | 15, _ => rfl | 16, _ => rfl | 17, _ => rfl | 18, _ => rfl | 19, _ => rfl | 20, _ => rfl | 21, _ => rfl | 22, _ => rfl | 23, _ => rfl | w + 24, h => absurd h (by omega)
theorem mJ_c : ∀ w, w < 24 → mJl.getD w 0 = nJ (cv (wlN.getD (w + 2) 0)) := by decide +kernel
theorem mJ_Wm : hs_Wm (mJ J) := fun w hw => (mJ_l w hw).trans (mJ_c w hw)
/-- before the first net -/
def N0 : sp_N := (0, 0, (fun _ => 0), (fun _ => 0), (fun _ => 0), (fun _ => 0), 0)
def Q0 : sp_Q := ((fun _ => 0), (fun _ => 0), (fun p => if p < 4 then -1 else 0), (fun _ => 0), 0)
theorem Q0_w : hs_Qw 0 0 Q0 := by
  refine ⟨fun p hp => Or.inl (if_pos hp), fun k hk => absurd hk (Nat.not_lt_zero _), fun _ _ => rfl, ?_, fun p hp => absurd hp (Nat.not_lt_zero _), fun _ _ => rfl, fun p _ hp => if_pos hp, fun p hp => if_neg (by omega), fun _ _ => rfl⟩
  show ∀ k, k < 8 → ¬ sp_bit 0 k
  unfold sp_bit
  decide +kernel
set_option maxRecDepth 100000 in
theorem c_M_init (hI : ∀ b, b < 5000 → I b = fun _ => 0) (hz : hs_z0 I J R 189) : hn_E true 4 23 12035 hm_M_init [.ref 188] 189 (I, J, R) (fun r n' D' => r = none ∧ n' = 212 ∧ ∃ I1 I2, D' = (I2, mJ J, mR R) ∧ (∀ c, c ≠ 194 → I1 c = I c) ∧ (∀ j, I1 194 j = if 0 ≤ j ∧ j < 0 + 60 then (if j = 0 + 4 then -1 else 0) else I 194 j) ∧ hs_bg I1 I2 Q0) := by
  refine hn_E_of _ hk_M_init rfl (Nat.le_of_ble_eq_true rfl) ?_
  refine hn_aload_n rfl rfl ?_
  refine hn_objInit rfl rfl (Nat.le_of_ble_eq_true rfl) (by omega) (Nat.le_of_ble_eq_true rfl) ?_
  refine hn_aload_n rfl rfl ?_
  refine hn_sipush rfl ?_
  refine hn_newarray1 (z := 1000) (kc2 := 22) (ks2 := 11035) rfl rfl (by decide) (by omega) (by omega) rfl rfl ?_
  rw [hz_z (a := 189) hz (by omega) (by omega)]
  refine hn_nn (m := 190) rfl ?_
  refine hn_putRF rfl rfl (by omega) rfl rfl rfl rfl (fun _ => ⟨rfl, rfl⟩) ?_
  obtain ⟨x1, hx1⟩ : ∃ z, z = hn_u R 188 1 (some 189) := ⟨_, rfl⟩
  rw [← hx1]
  have zx1 : hs_z0 I J x1 190 := by rw [hx1]; exact z0_u (z0_m hz (by omega)) (by omega)
  refine hn_eq (D' := (I, J, x1)) rfl rfl rfl ?_
  refine hn_aload_n rfl rfl ?_
  refine hn_sipush rfl ?_
  refine hn_newarray1 (z := 1002) (kc2 := 21) (ks2 := 10033) rfl rfl (by decide) (by omega) (by omega) rfl rfl ?_
  rw [hz_z (a := 190) zx1 (by omega) (by omega)]
  refine hn_nn (m := 191) rfl ?_
  refine hn_putRF rfl rfl (by omega) rfl rfl rfl rfl (fun _ => ⟨rfl, rfl⟩) ?_
  obtain ⟨x2, hx2⟩ : ∃ z, z = hn_u x1 188 4 (some 190) := ⟨_, rfl⟩
  rw [← hx2]
  have zx2 : hs_z0 I J x2 191 := by rw [hx2]; exact z0_u (z0_m zx1 (by omega)) (by omega)
  refine hn_eq (D' := (I, J, x2)) rfl rfl rfl ?_
  refine hn_aload_n rfl rfl ?_
  refine hn_sipush rfl ?_
  refine hn_newarray1 (z := 1002) (kc2 := 20) (ks2 := 9031) rfl rfl (by decide) (by omega) (by omega) rfl rfl ?_
  rw [hz_z (a := 191) zx2 (by omega) (by omega)]
  refine hn_nn (m := 192) rfl ?_
  refine hn_putRF rfl rfl (by omega) rfl rfl rfl rfl (fun _ => ⟨rfl, rfl⟩) ?_
  obtain ⟨x3, hx3⟩ : ∃ z, z = hn_u x2 188 5 (some 191) := ⟨_, rfl⟩
  rw [← hx3]
  have zx3 : hs_z0 I J x3 192 := by rw [hx3]; exact z0_u (z0_m zx2 (by omega)) (by omega)
  refine hn_eq (D' := (I, J, x3)) rfl rfl rfl ?_
  refine hn_aload_n rfl rfl ?_
  refine hn_sipush rfl ?_
  refine hn_newarray2 (z := 1002) (kc2 := 19) (ks2 := 8029) rfl rfl (by decide) (by omega) (by omega) rfl rfl ?_
  rw [hz_z (a := 192) zx3 (by omega) (by omega)]
  refine hn_nn (m := 193) rfl ?_
  refine hn_putRF rfl rfl (by omega) rfl rfl rfl rfl (fun _ => ⟨rfl, rfl⟩) ?_
  obtain ⟨x4, hx4⟩ : ∃ z, z = hn_u x3 188 6 (some 192) := ⟨_, rfl⟩
  rw [← hx4]
  have zx4 : hs_z0 I J x4 193 := by rw [hx4]; exact z0_u (z0_m zx3 (by omega)) (by omega)
  refine hn_eq (D' := (I, J, x4)) rfl rfl rfl ?_
  refine hn_aload_n rfl rfl ?_
  refine hn_bipush rfl ?_
  refine hn_newarray2 (z := 24) (kc2 := 18) (ks2 := 8005) rfl rfl (by decide) (by omega) (by omega) rfl rfl ?_
  rw [hz_z (a := 193) zx4 (by omega) (by omega)]
  refine hn_nn (m := 194) rfl ?_
  refine hn_dup rfl rfl ?_
  refine hn_iconst rfl ?_
  refine hn_ldc2_w rfl ?_
  refine hn_lastore rfl rfl (by omega) (show (0 : Int32).toInt = ((0 : Nat) : Int) by decide) (by omega) ?_
  obtain ⟨j1, hj1⟩ : ∃ z, z = hn_u J 193 0 576924 := ⟨_, rfl⟩
  rw [← hj1]
  have yj1 : hs_z0 I j1 x4 194 := by rw [hj1]; exact z0_j (z0_m zx4 (by omega)) (by omega)
  refine hn_eq (D' := (I, j1, x4)) rfl rfl rfl ?_
  refine hn_dup rfl rfl ?_
  refine hn_iconst rfl ?_
  refine hn_ldc2_w rfl ?_
  refine hn_lastore rfl rfl (by omega) (show (1 : Int32).toInt = ((1 : Nat) : Int) by decide) (by omega) ?_
  obtain ⟨j2, hj2⟩ : ∃ z, z = hn_u j1 193 1 15769678 := ⟨_, rfl⟩
  rw [← hj2]
  have yj2 : hs_z0 I j2 x4 194 := by rw [hj2]; exact z0_j (z0_m yj1 (by omega)) (by omega)
  refine hn_eq (D' := (I, j2, x4)) rfl rfl rfl ?_
  refine hn_dup rfl rfl ?_
  refine hn_iconst rfl ?_
  refine hn_ldc2_w rfl ?_
  refine hn_lastore rfl rfl (by omega) (show (2 : Int32).toInt = ((2 : Nat) : Int) by decide) (by omega) ?_
  obtain ⟨j3, hj3⟩ : ∃ z, z = hn_u j2 193 2 1355943003 := ⟨_, rfl⟩
  rw [← hj3]
  have yj3 : hs_z0 I j3 x4 194 := by rw [hj3]; exact z0_j (z0_m yj2 (by omega)) (by omega)
  refine hn_eq (D' := (I, j3, x4)) rfl rfl rfl ?_
  refine hn_dup rfl rfl ?_
  refine hn_iconst rfl ?_
  refine hn_ldc2_w rfl ?_
  refine hn_lastore rfl rfl (by omega) (show (3 : Int32).toInt = ((3 : Nat) : Int) by decide) (by omega) ?_
  obtain ⟨j4, hj4⟩ : ∃ z, z = hn_u j3 193 3 3053484035 := ⟨_, rfl⟩
  rw [← hj4]
  have yj4 : hs_z0 I j4 x4 194 := by rw [hj4]; exact z0_j (z0_m yj3 (by omega)) (by omega)
  refine hn_eq (D' := (I, j4, x4)) rfl rfl rfl ?_
  refine hn_dup rfl rfl ?_
  refine hn_iconst rfl ?_
  refine hn_ldc2_w rfl ?_
  refine hn_lastore rfl rfl (by omega) (show (4 : Int32).toInt = ((4 : Nat) : Int) by decide) (by omega) ?_
  obtain ⟨j5, hj5⟩ : ∃ z, z = hn_u j4 193 4 1119812451 := ⟨_, rfl⟩
  rw [← hj5]
  have yj5 : hs_z0 I j5 x4 194 := by rw [hj5]; exact z0_j (z0_m yj4 (by omega)) (by omega)
  refine hn_eq (D' := (I, j5, x4)) rfl rfl rfl ?_
  refine hn_dup rfl rfl ?_
  refine hn_iconst rfl ?_
  refine hn_ldc2_w rfl ?_
  refine hn_lastore rfl rfl (by omega) (show (5 : Int32).toInt = ((5 : Nat) : Int) by decide) (by omega) ?_
  obtain ⟨j6, hj6⟩ : ∃ z, z = hn_u j5 193 5 1177796 := ⟨_, rfl⟩
  rw [← hj6]
  have yj6 : hs_z0 I j6 x4 194 := by rw [hj6]; exact z0_j (z0_m yj5 (by omega)) (by omega)
  refine hn_eq (D' := (I, j6, x4)) rfl rfl rfl ?_
  refine hn_dup rfl rfl ?_
  refine hn_bipush rfl ?_
  refine hn_ldc2_w rfl ?_
  refine hn_lastore rfl rfl (by omega) (show (6 : Int32).toInt = ((6 : Nat) : Int) by decide) (by omega) ?_
  obtain ⟨j7, hj7⟩ : ∃ z, z = hn_u j6 193 6 57 := ⟨_, rfl⟩
  rw [← hj7]
  have yj7 : hs_z0 I j7 x4 194 := by rw [hj7]; exact z0_j (z0_m yj6 (by omega)) (by omega)
  refine hn_eq (D' := (I, j7, x4)) rfl rfl rfl ?_
  refine hn_dup rfl rfl ?_
  refine hn_bipush rfl ?_
  refine hn_ldc2_w rfl ?_
  refine hn_lastore rfl rfl (by omega) (show (7 : Int32).toInt = ((7 : Nat) : Int) by decide) (by omega) ?_
  obtain ⟨j8, hj8⟩ : ∃ z, z = hn_u j7 193 7 23570536 := ⟨_, rfl⟩
  rw [← hj8]
  have yj8 : hs_z0 I j8 x4 194 := by rw [hj8]; exact z0_j (z0_m yj7 (by omega)) (by omega)
  refine hn_eq (D' := (I, j8, x4)) rfl rfl rfl ?_
  refine hn_dup rfl rfl ?_
  refine hn_bipush rfl ?_
  refine hn_ldc2_w rfl ?_
  refine hn_lastore rfl rfl (by omega) (show (8 : Int32).toInt = ((8 : Nat) : Int) by decide) (by omega) ?_
  obtain ⟨j9, hj9⟩ : ∃ z, z = hn_u j8 193 8 426554 := ⟨_, rfl⟩
  rw [← hj9]
  have yj9 : hs_z0 I j9 x4 194 := by rw [hj9]; exact z0_j (z0_m yj8 (by omega)) (by omega)
  refine hn_eq (D' := (I, j9, x4)) rfl rfl rfl ?_
  refine hn_dup rfl rfl ?_
  refine hn_bipush rfl ?_
  refine hn_ldc2_w rfl ?_
  refine hn_lastore rfl rfl (by omega) (show (9 : Int32).toInt = ((9 : Nat) : Int) by decide) (by omega) ?_
  obtain ⟨j10, hj10⟩ : ∃ z, z = hn_u j9 193 9 36026846 := ⟨_, rfl⟩
  rw [← hj10]
  have yj10 : hs_z0 I j10 x4 194 := by rw [hj10]; exact z0_j (z0_m yj9 (by omega)) (by omega)
  refine hn_eq (D' := (I, j10, x4)) rfl rfl rfl ?_
  refine hn_dup rfl rfl ?_
  refine hn_bipush rfl ?_
  refine hn_ldc2_w rfl ?_
  refine hn_lastore rfl rfl (by omega) (show (10 : Int32).toInt = ((10 : Nat) : Int) by decide) (by omega) ?_
  obtain ⟨j11, hj11⟩ : ∃ z, z = hn_u j10 193 10 34524150 := ⟨_, rfl⟩
  rw [← hj11]
  have yj11 : hs_z0 I j11 x4 194 := by rw [hj11]; exact z0_j (z0_m yj10 (by omega)) (by omega)
  refine hn_eq (D' := (I, j11, x4)) rfl rfl rfl ?_
  refine hn_dup rfl rfl ?_
  refine hn_bipush rfl ?_
  refine hn_ldc2_w rfl ?_
  refine hn_lastore rfl rfl (by omega) (show (11 : Int32).toInt = ((11 : Nat) : Int) by decide) (by omega) ?_
  obtain ⟨j12, hj12⟩ : ∃ z, z = hn_u j11 193 11 16766 := ⟨_, rfl⟩
  rw [← hj12]
  have yj12 : hs_z0 I j12 x4 194 := by rw [hj12]; exact z0_j (z0_m yj11 (by omega)) (by omega)
  refine hn_eq (D' := (I, j12, x4)) rfl rfl rfl ?_
  refine hn_dup rfl rfl ?_
  refine hn_bipush rfl ?_
  refine hn_ldc2_w rfl ?_
  refine hn_lastore rfl rfl (by omega) (show (12 : Int32).toInt = ((12 : Nat) : Int) by decide) (by omega) ?_
  obtain ⟨j13, hj13⟩ : ∃ z, z = hn_u j12 193 12 27718 := ⟨_, rfl⟩
  rw [← hj13]
  have yj13 : hs_z0 I j13 x4 194 := by rw [hj13]; exact z0_j (z0_m yj12 (by omega)) (by omega)
  refine hn_eq (D' := (I, j13, x4)) rfl rfl rfl ?_
  refine hn_dup rfl rfl ?_
  refine hn_bipush rfl ?_
  refine hn_ldc2_w rfl ?_
  refine hn_lastore rfl rfl (by omega) (show (13 : Int32).toInt = ((13 : Nat) : Int) by decide) (by omega) ?_
  obtain ⟨j14, hj14⟩ : ∃ z, z = hn_u j13 193 13 30596128 := ⟨_, rfl⟩
  rw [← hj14]
  have yj14 : hs_z0 I j14 x4 194 := by rw [hj14]; exact z0_j (z0_m yj13 (by omega)) (by omega)
  refine hn_eq (D' := (I, j14, x4)) rfl rfl rfl ?_
  refine hn_dup rfl rfl ?_
  refine hn_bipush rfl ?_
  refine hn_ldc2_w rfl ?_
  refine hn_lastore rfl rfl (by omega) (show (14 : Int32).toInt = ((14 : Nat) : Int) by decide) (by omega) ?_
  obtain ⟨j15, hj15⟩ : ∃ z, z = hn_u j14 193 14 316918 := ⟨_, rfl⟩
  rw [← hj15]
  have yj15 : hs_z0 I j15 x4 194 := by rw [hj15]; exact z0_j (z0_m yj14 (by omega)) (by omega)
  refine hn_eq (D' := (I, j15, x4)) rfl rfl rfl ?_
  refine hn_dup rfl rfl ?_
  refine hn_bipush rfl ?_
  refine hn_ldc2_w rfl ?_
  refine hn_lastore rfl rfl (by omega) (show (15 : Int32).toInt = ((15 : Nat) : Int) by decide) (by omega) ?_
  obtain ⟨j16, hj16⟩ : ∃ z, z = hn_u j15 193 15 979184 := ⟨_, rfl⟩
  rw [← hj16]
  have yj16 : hs_z0 I j16 x4 194 := by rw [hj16]; exact z0_j (z0_m yj15 (by omega)) (by omega)
  refine hn_eq (D' := (I, j16, x4)) rfl rfl rfl ?_
  refine hn_dup rfl rfl ?_
  refine hn_bipush rfl ?_
  refine hn_ldc2_w rfl ?_
  refine hn_lastore rfl rfl (by omega) (show (16 : Int32).toInt = ((16 : Nat) : Int) by decide) (by omega) ?_
  obtain ⟨j17, hj17⟩ : ∃ z, z = hn_u j16 193 16 209995 := ⟨_, rfl⟩
  rw [← hj17]
  have yj17 : hs_z0 I j17 x4 194 := by rw [hj17]; exact z0_j (z0_m yj16 (by omega)) (by omega)
  refine hn_eq (D' := (I, j17, x4)) rfl rfl rfl ?_
  refine hn_dup rfl rfl ?_
  refine hn_bipush rfl ?_
  refine hn_ldc2_w rfl ?_
  refine hn_lastore rfl rfl (by omega) (show (17 : Int32).toInt = ((17 : Nat) : Int) by decide) (by omega) ?_
  obtain ⟨j18, hj18⟩ : ∃ z, z = hn_u j17 193 17 19741 := ⟨_, rfl⟩
  rw [← hj18]
  have yj18 : hs_z0 I j18 x4 194 := by rw [hj18]; exact z0_j (z0_m yj17 (by omega)) (by omega)
  refine hn_eq (D' := (I, j18, x4)) rfl rfl rfl ?_
  refine hn_dup rfl rfl ?_
  refine hn_bipush rfl ?_
  refine hn_ldc2_w rfl ?_
  refine hn_lastore rfl rfl (by omega) (show (18 : Int32).toInt = ((18 : Nat) : Int) by decide) (by omega) ?_
  obtain ⟨j19, hj19⟩ : ∃ z, z = hn_u j18 193 18 1891 := ⟨_, rfl⟩
  rw [← hj19]
  have yj19 : hs_z0 I j19 x4 194 := by rw [hj19]; exact z0_j (z0_m yj18 (by omega)) (by omega)
  refine hn_eq (D' := (I, j19, x4)) rfl rfl rfl ?_
  refine hn_dup rfl rfl ?_
  refine hn_bipush rfl ?_
  refine hn_ldc2_w rfl ?_
  refine hn_lastore rfl rfl (by omega) (show (19 : Int32).toInt = ((19 : Nat) : Int) by decide) (by omega) ?_
  obtain ⟨j20, hj20⟩ : ∃ z, z = hn_u j19 193 19 573 := ⟨_, rfl⟩
  rw [← hj20]
  have yj20 : hs_z0 I j20 x4 194 := by rw [hj20]; exact z0_j (z0_m yj19 (by omega)) (by omega)
  refine hn_eq (D' := (I, j20, x4)) rfl rfl rfl ?_
  refine hn_dup rfl rfl ?_
  refine hn_bipush rfl ?_
  refine hn_ldc2_w rfl ?_
  refine hn_lastore rfl rfl (by omega) (show (20 : Int32).toInt = ((20 : Nat) : Int) by decide) (by omega) ?_
  obtain ⟨j21, hj21⟩ : ∃ z, z = hn_u j20 193 20 426207 := ⟨_, rfl⟩
  rw [← hj21]
  have yj21 : hs_z0 I j21 x4 194 := by rw [hj21]; exact z0_j (z0_m yj20 (by omega)) (by omega)
  refine hn_eq (D' := (I, j21, x4)) rfl rfl rfl ?_
  refine hn_dup rfl rfl ?_
  refine hn_bipush rfl ?_
  refine hn_ldc2_w rfl ?_
  refine hn_lastore rfl rfl (by omega) (show (21 : Int32).toInt = ((21 : Nat) : Int) by decide) (by omega) ?_
  obtain ⟨j22, hj22⟩ : ∃ z, z = hn_u j21 193 21 671332 := ⟨_, rfl⟩
  rw [← hj22]
  have yj22 : hs_z0 I j22 x4 194 := by rw [hj22]; exact z0_j (z0_m yj21 (by omega)) (by omega)
  refine hn_eq (D' := (I, j22, x4)) rfl rfl rfl ?_
  refine hn_dup rfl rfl ?_
  refine hn_bipush rfl ?_
  refine hn_ldc2_w rfl ?_
  refine hn_lastore rfl rfl (by omega) (show (22 : Int32).toInt = ((22 : Nat) : Int) by decide) (by omega) ?_
  obtain ⟨j23, hj23⟩ : ∃ z, z = hn_u j22 193 22 660401 := ⟨_, rfl⟩
  rw [← hj23]
  have yj23 : hs_z0 I j23 x4 194 := by rw [hj23]; exact z0_j (z0_m yj22 (by omega)) (by omega)
  refine hn_eq (D' := (I, j23, x4)) rfl rfl rfl ?_
  refine hn_dup rfl rfl ?_
  refine hn_bipush rfl ?_
  refine hn_ldc2_w rfl ?_
  refine hn_lastore rfl rfl (by omega) (show (23 : Int32).toInt = ((23 : Nat) : Int) by decide) (by omega) ?_
  obtain ⟨j24, hj24⟩ : ∃ z, z = hn_u j23 193 23 1078055329 := ⟨_, rfl⟩
  rw [← hj24]
  have yj24 : hs_z0 I j24 x4 194 := by rw [hj24]; exact z0_j (z0_m yj23 (by omega)) (by omega)
  refine hn_eq (D' := (I, j24, x4)) rfl rfl rfl ?_
  refine hn_putRF rfl rfl (by omega) rfl rfl rfl rfl (fun _ => ⟨rfl, rfl⟩) ?_
  obtain ⟨x5, hx5⟩ : ∃ z, z = hn_u x4 188 9 (some 193) := ⟨_, rfl⟩
  rw [← hx5]
  have zx5 : hs_z0 I j24 x5 194 := by rw [hx5]; exact z0_u (z0_m yj24 (by omega)) (by omega)
  refine hn_eq (D' := (I, j24, x5)) rfl rfl rfl ?_
  refine hn_aload_n rfl rfl ?_
  refine hn_bipush rfl ?_
  refine hn_newarray1 (z := 120) (kc2 := 17) (ks2 := 7885) rfl rfl (by decide) (by omega) (by omega) rfl rfl ?_
  rw [hz_z (a := 194) zx5 (by omega) (by omega)]
  refine hn_nn (m := 195) rfl ?_
  refine hn_putRF rfl rfl (by omega) rfl rfl rfl rfl (fun _ => ⟨rfl, rfl⟩) ?_
  obtain ⟨x6, hx6⟩ : ∃ z, z = hn_u x5 188 10 (some 194) := ⟨_, rfl⟩
  rw [← hx6]
  have zx6 : hs_z0 I j24 x6 195 := by rw [hx6]; exact z0_u (z0_m zx5 (by omega)) (by omega)
  refine hn_eq (D' := (I, j24, x6)) rfl rfl rfl ?_
  refine hn_aload_n rfl rfl ?_
  refine hn_sipush rfl ?_
  refine hn_newarray1 (z := 2200) (kc2 := 16) (ks2 := 5685) rfl rfl (by decide) (by omega) (by omega) rfl rfl ?_
  rw [hz_z (a := 195) zx6 (by omega) (by omega)]
  refine hn_nn (m := 196) rfl ?_
  refine hn_putRF rfl rfl (by omega) rfl rfl rfl rfl (fun _ => ⟨rfl, rfl⟩) ?_
  obtain ⟨x7, hx7⟩ : ∃ z, z = hn_u x6 188 11 (some 195) := ⟨_, rfl⟩
  rw [← hx7]
  have zx7 : hs_z0 I j24 x7 196 := by rw [hx7]; exact z0_u (z0_m zx6 (by omega)) (by omega)
  refine hn_eq (D' := (I, j24, x7)) rfl rfl rfl ?_
  refine hn_aload_n rfl rfl ?_
  refine hn_sipush rfl ?_
  refine hn_newarray1 (z := 2200) (kc2 := 15) (ks2 := 3485) rfl rfl (by decide) (by omega) (by omega) rfl rfl ?_
  rw [hz_z (a := 196) zx7 (by omega) (by omega)]
  refine hn_nn (m := 197) rfl ?_
  refine hn_putRF rfl rfl (by omega) rfl rfl rfl rfl (fun _ => ⟨rfl, rfl⟩) ?_
  obtain ⟨x8, hx8⟩ : ∃ z, z = hn_u x7 188 12 (some 196) := ⟨_, rfl⟩
  rw [← hx8]
  have zx8 : hs_z0 I j24 x8 197 := by rw [hx8]; exact z0_u (z0_m zx7 (by omega)) (by omega)
  refine hn_eq (D' := (I, j24, x8)) rfl rfl rfl ?_
  refine hn_aload_n rfl rfl ?_
  refine hn_bipush rfl ?_
  refine hn_newarray2 (z := 12) (kc2 := 14) (ks2 := 3473) rfl rfl (by decide) (by omega) (by omega) rfl rfl ?_
  rw [hz_z (a := 197) zx8 (by omega) (by omega)]
  refine hn_nn (m := 198) rfl ?_
  refine hn_putRF rfl rfl (by omega) rfl rfl rfl rfl (fun _ => ⟨rfl, rfl⟩) ?_
  obtain ⟨x9, hx9⟩ : ∃ z, z = hn_u x8 188 14 (some 197) := ⟨_, rfl⟩
  rw [← hx9]
  have zx9 : hs_z0 I j24 x9 198 := by rw [hx9]; exact z0_u (z0_m zx8 (by omega)) (by omega)
  refine hn_eq (D' := (I, j24, x9)) rfl rfl rfl ?_
  refine hn_aload_n rfl rfl ?_
  refine hn_bipush rfl ?_
  refine hn_newarray2 (z := 12) (kc2 := 13) (ks2 := 3461) rfl rfl (by decide) (by omega) (by omega) rfl rfl ?_
  rw [hz_z (a := 198) zx9 (by omega) (by omega)]
  refine hn_nn (m := 199) rfl ?_
  refine hn_putRF rfl rfl (by omega) rfl rfl rfl rfl (fun _ => ⟨rfl, rfl⟩) ?_
  obtain ⟨x10, hx10⟩ : ∃ z, z = hn_u x9 188 15 (some 198) := ⟨_, rfl⟩
  rw [← hx10]
  have zx10 : hs_z0 I j24 x10 199 := by rw [hx10]; exact z0_u (z0_m zx9 (by omega)) (by omega)
  refine hn_eq (D' := (I, j24, x10)) rfl rfl rfl ?_
  refine hn_aload_n rfl rfl ?_
  refine hn_bipush rfl ?_
  refine hn_newarray1 (z := 12) (kc2 := 12) (ks2 := 3449) rfl rfl (by decide) (by omega) (by omega) rfl rfl ?_
  rw [hz_z (a := 199) zx10 (by omega) (by omega)]
  refine hn_nn (m := 200) rfl ?_
  refine hn_putRF rfl rfl (by omega) rfl rfl rfl rfl (fun _ => ⟨rfl, rfl⟩) ?_
  obtain ⟨x11, hx11⟩ : ∃ z, z = hn_u x10 188 16 (some 199) := ⟨_, rfl⟩
  rw [← hx11]
  have zx11 : hs_z0 I j24 x11 200 := by rw [hx11]; exact z0_u (z0_m zx10 (by omega)) (by omega)
  refine hn_eq (D' := (I, j24, x11)) rfl rfl rfl ?_
  refine hn_aload_n rfl rfl ?_
  refine hn_bipush rfl ?_
  refine hn_newarray1 (z := 12) (kc2 := 11) (ks2 := 3437) rfl rfl (by decide) (by omega) (by omega) rfl rfl ?_
  rw [hz_z (a := 200) zx11 (by omega) (by omega)]
  refine hn_nn (m := 201) rfl ?_
  refine hn_putRF rfl rfl (by omega) rfl rfl rfl rfl (fun _ => ⟨rfl, rfl⟩) ?_
  obtain ⟨x12, hx12⟩ : ∃ z, z = hn_u x11 188 17 (some 200) := ⟨_, rfl⟩
  rw [← hx12]
  have zx12 : hs_z0 I j24 x12 201 := by rw [hx12]; exact z0_u (z0_m zx11 (by omega)) (by omega)
  refine hn_eq (D' := (I, j24, x12)) rfl rfl rfl ?_
  refine hn_aload_n rfl rfl ?_
  refine hn_sipush rfl ?_
  refine hn_newarray1 (z := 250) (kc2 := 10) (ks2 := 3187) rfl rfl (by decide) (by omega) (by omega) rfl rfl ?_
  rw [hz_z (a := 201) zx12 (by omega) (by omega)]
  refine hn_nn (m := 202) rfl ?_
  refine hn_putRF rfl rfl (by omega) rfl rfl rfl rfl (fun _ => ⟨rfl, rfl⟩) ?_
  obtain ⟨x13, hx13⟩ : ∃ z, z = hn_u x12 188 20 (some 201) := ⟨_, rfl⟩
  rw [← hx13]
  have zx13 : hs_z0 I j24 x13 202 := by rw [hx13]; exact z0_u (z0_m zx12 (by omega)) (by omega)
  refine hn_eq (D' := (I, j24, x13)) rfl rfl rfl ?_
  refine hn_aload_n rfl rfl ?_
  refine hn_iconst rfl ?_
  refine hn_newarray1 (z := 4) (kc2 := 9) (ks2 := 3183) rfl rfl (by decide) (by omega) (by omega) rfl rfl ?_
  rw [hz_z (a := 202) zx13 (by omega) (by omega)]
  refine hn_nn (m := 203) rfl ?_
  refine hn_putRF rfl rfl (by omega) rfl rfl rfl rfl (fun _ => ⟨rfl, rfl⟩) ?_
  obtain ⟨x14, hx14⟩ : ∃ z, z = hn_u x13 188 21 (some 202) := ⟨_, rfl⟩
  rw [← hx14]
  have zx14 : hs_z0 I j24 x14 203 := by rw [hx14]; exact z0_u (z0_m zx13 (by omega)) (by omega)
  refine hn_eq (D' := (I, j24, x14)) rfl rfl rfl ?_
  refine hn_aload_n rfl rfl ?_
  refine hn_sipush rfl ?_
  refine hn_newarray1 (z := 1100) (kc2 := 8) (ks2 := 2083) rfl rfl (by decide) (by omega) (by omega) rfl rfl ?_
  rw [hz_z (a := 203) zx14 (by omega) (by omega)]
  refine hn_nn (m := 204) rfl ?_
  refine hn_putRF rfl rfl (by omega) rfl rfl rfl rfl (fun _ => ⟨rfl, rfl⟩) ?_
  obtain ⟨x15, hx15⟩ : ∃ z, z = hn_u x14 188 22 (some 203) := ⟨_, rfl⟩
  rw [← hx15]
  have zx15 : hs_z0 I j24 x15 204 := by rw [hx15]; exact z0_u (z0_m zx14 (by omega)) (by omega)
  refine hn_eq (D' := (I, j24, x15)) rfl rfl rfl ?_
  refine hn_aload_n rfl rfl ?_
  refine hn_sipush rfl ?_
  refine hn_newarray1 (z := 1081) (kc2 := 7) (ks2 := 1002) rfl rfl (by decide) (by omega) (by omega) rfl rfl ?_
  rw [hz_z (a := 204) zx15 (by omega) (by omega)]
  refine hn_nn (m := 205) rfl ?_
  refine hn_putRF rfl rfl (by omega) rfl rfl rfl rfl (fun _ => ⟨rfl, rfl⟩) ?_
  obtain ⟨x16, hx16⟩ : ∃ z, z = hn_u x15 188 23 (some 204) := ⟨_, rfl⟩
  rw [← hx16]
  have zx16 : hs_z0 I j24 x16 205 := by rw [hx16]; exact z0_u (z0_m zx15 (by omega)) (by omega)
  refine hn_eq (D' := (I, j24, x16)) rfl rfl rfl ?_
  refine hn_aload_n rfl rfl ?_
  refine hn_iconst rfl ?_
  refine hn_newarray3 (z := 4) (kc2 := 6) (ks2 := 998) rfl rfl (by decide) (by omega) (by omega) rfl rfl ?_
  rw [hz_z (a := 205) zx16 (by omega) (by omega)]
  refine hn_nn (m := 206) rfl ?_
  refine hn_putRF rfl rfl (by omega) rfl rfl rfl rfl (fun _ => ⟨rfl, rfl⟩) ?_
  obtain ⟨x17, hx17⟩ : ∃ z, z = hn_u x16 188 25 (some 205) := ⟨_, rfl⟩
  rw [← hx17]
  have zx17 : hs_z0 I j24 x17 206 := by rw [hx17]; exact z0_u (z0_m zx16 (by omega)) (by omega)
  refine hn_eq (D' := (I, j24, x17)) rfl rfl rfl ?_
  refine hn_aload_n rfl rfl ?_
  refine hn_bipush rfl ?_
  refine hn_newarray1 (z := 16) (kc2 := 5) (ks2 := 982) rfl rfl (by decide) (by omega) (by omega) rfl rfl ?_
  rw [hz_z (a := 206) zx17 (by omega) (by omega)]
  refine hn_nn (m := 207) rfl ?_
  refine hn_putRF rfl rfl (by omega) rfl rfl rfl rfl (fun _ => ⟨rfl, rfl⟩) ?_
  obtain ⟨x18, hx18⟩ : ∃ z, z = hn_u x17 188 27 (some 206) := ⟨_, rfl⟩
  rw [← hx18]
  have zx18 : hs_z0 I j24 x18 207 := by rw [hx18]; exact z0_u (z0_m zx17 (by omega)) (by omega)
  refine hn_eq (D' := (I, j24, x18)) rfl rfl rfl ?_
  refine hn_aload_n rfl rfl ?_
  refine hn_sipush rfl ?_
  refine hn_newarray3 (z := 656) (kc2 := 4) (ks2 := 326) rfl rfl (by decide) (by omega) (by omega) rfl rfl ?_
  rw [hz_z (a := 207) zx18 (by omega) (by omega)]
  refine hn_nn (m := 208) rfl ?_
  refine hn_putRF rfl rfl (by omega) rfl rfl rfl rfl (fun _ => ⟨rfl, rfl⟩) ?_
  obtain ⟨x19, hx19⟩ : ∃ z, z = hn_u x18 188 28 (some 207) := ⟨_, rfl⟩
  rw [← hx19]
  have zx19 : hs_z0 I j24 x19 208 := by rw [hx19]; exact z0_u (z0_m zx18 (by omega)) (by omega)
  refine hn_eq (D' := (I, j24, x19)) rfl rfl rfl ?_
  refine hn_aload_n rfl rfl ?_
  refine hn_bipush rfl ?_
  refine hn_newarray1 (z := 8) (kc2 := 3) (ks2 := 318) rfl rfl (by decide) (by omega) (by omega) rfl rfl ?_
  rw [hz_z (a := 208) zx19 (by omega) (by omega)]
  refine hn_nn (m := 209) rfl ?_
  refine hn_putRF rfl rfl (by omega) rfl rfl rfl rfl (fun _ => ⟨rfl, rfl⟩) ?_
  obtain ⟨x20, hx20⟩ : ∃ z, z = hn_u x19 188 29 (some 208) := ⟨_, rfl⟩
  rw [← hx20]
  have zx20 : hs_z0 I j24 x20 209 := by rw [hx20]; exact z0_u (z0_m zx19 (by omega)) (by omega)
  refine hn_eq (D' := (I, j24, x20)) rfl rfl rfl ?_
  refine hn_aload_n rfl rfl ?_
  refine hn_bipush rfl ?_
  refine hn_newarray1 (z := 8) (kc2 := 2) (ks2 := 310) rfl rfl (by decide) (by omega) (by omega) rfl rfl ?_
  rw [hz_z (a := 209) zx20 (by omega) (by omega)]
  refine hn_nn (m := 210) rfl ?_
  refine hn_putRF rfl rfl (by omega) rfl rfl rfl rfl (fun _ => ⟨rfl, rfl⟩) ?_
  obtain ⟨x21, hx21⟩ : ∃ z, z = hn_u x20 188 30 (some 209) := ⟨_, rfl⟩
  rw [← hx21]
  have zx21 : hs_z0 I j24 x21 210 := by rw [hx21]; exact z0_u (z0_m zx20 (by omega)) (by omega)
  refine hn_eq (D' := (I, j24, x21)) rfl rfl rfl ?_
  refine hn_aload_n rfl rfl ?_
  refine hn_bipush rfl ?_
  refine hn_newarray1 (z := 31) (kc2 := 1) (ks2 := 279) rfl rfl (by decide) (by omega) (by omega) rfl rfl ?_
  rw [hz_z (a := 210) zx21 (by omega) (by omega)]
  refine hn_nn (m := 211) rfl ?_
  refine hn_putRF rfl rfl (by omega) rfl rfl rfl rfl (fun _ => ⟨rfl, rfl⟩) ?_
  obtain ⟨x22, hx22⟩ : ∃ z, z = hn_u x21 188 31 (some 210) := ⟨_, rfl⟩
  rw [← hx22]
  have zx22 : hs_z0 I j24 x22 211 := by rw [hx22]; exact z0_u (z0_m zx21 (by omega)) (by omega)
  refine hn_eq (D' := (I, j24, x22)) rfl rfl rfl ?_
  refine hn_aload_n rfl rfl ?_
  refine hn_sipush rfl ?_
  refine hn_newarray1 (z := 279) (kc2 := 0) (ks2 := 0) rfl rfl (by decide) (by omega) (by omega) rfl rfl ?_
  rw [hz_z (a := 211) zx22 (by omega) (by omega)]
  refine hn_nn (m := 212) rfl ?_
  refine hn_putRF rfl rfl (by omega) rfl rfl rfl rfl (fun _ => ⟨rfl, rfl⟩) ?_
  obtain ⟨x23, hx23⟩ : ∃ z, z = hn_u x22 188 32 (some 211) := ⟨_, rfl⟩
  rw [← hx23]
  have zx23 : hs_z0 I j24 x23 212 := by rw [hx23]; exact z0_u (z0_m zx22 (by omega)) (by omega)
  refine hn_eq (D' := (I, j24, x23)) rfl rfl rfl ?_
  have eR : x23 = mR R := by rw [hx23, hx22, hx21, hx20, hx19, hx18, hx17, hx16, hx15, hx14, hx13, hx12, hx11, hx10, hx9, hx8, hx7, hx6, hx5, hx4, hx3, hx2, hx1]; rfl
  have eJ : j24 = mJ J := by rw [hj24, hj23, hj22, hj21, hj20, hj19, hj18, hj17, hj16, hj15, hj14, hj13, hj12, hj11, hj10, hj9, hj8, hj7, hj6, hj5, hj4, hj3, hj2, hj1]; rfl
  rw [show ∀ (X : Nat → Nat → Int32), (X, j24, x23) = (X, mJ J, mR R) from fun X => by rw [eR, eJ]]
  refine hn_aload_n rfl rfl ?_
  refine hn_iconst rfl ?_
  refine hn_callV (kc2 := 0) (ks2 := 0) rfl rfl hk_M_standsAsAlways rfl rfl rfl rfl (by omega) rfl (Nat.le_of_ble_eq_true rfl) (q_M_standsAsAlways (mR_M R) rfl (Or.inl rfl) true 212 (by omega)) (by omega) rfl rfl (fun r n D h _ => h.1) (fun r n' D' q => ?_)
  obtain ⟨rfl, rfl, I1, rfl, f1, f2⟩ := q
  have h194 : ∀ j, I 194 j = 0 := fun j => by rw [hI 194 (by omega)]
  have a0 : I1 194 0 = nI N0.1 := by rw [f2, if_pos (by omega), if_neg (by omega)]; rfl
  have a3 : I1 194 3 = nI N0.2.1 := by rw [f2, if_pos (by omega), if_neg (by omega)]; rfl
  have hS : hs_Sm I1 N0 Q0 := ⟨fun k hk => absurd hk (Nat.not_lt_zero _), fun k hk => absurd hk (Nat.not_lt_zero _), fun _ => rfl, rfl⟩
  refine hn_aload_n rfl rfl ?_
  refine hn_callV (kc2 := 0) (ks2 := 0) rfl rfl hk_M_begins rfl rfl rfl rfl (by omega) rfl (Nat.le_of_ble_eq_true rfl) (q_M_begins (N := N0) (S := Q0) (mR_M R) a0 (Nat.zero_le _) a3 (Nat.zero_le _) hS Q0_w true 212 (by omega)) (by omega) rfl rfl (fun r n D h _ => h.1) (fun r n' D' q => ?_)
  obtain ⟨rfl, rfl, I2, rfl, g⟩ := q
  exact hn_return_ (st := []) rfl trivial ⟨rfl, rfl, I1, I2, rfl, f1, f2, g⟩
end HNsecond
