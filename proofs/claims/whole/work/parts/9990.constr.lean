section HNconstr
variable {I : Nat → Nat → Int32} {J : Nat → Nat → Int64} {R : Nat → Nat → Option Nat}
/-- nothing yet from n on -/
def hs_z0 (I : Nat → Nat → Int32) (J : Nat → Nat → Int64) (R : Nat → Nat → Option Nat) (n : Nat) : Prop := ∀ b, n ≤ b → b < 5000 → I b = (fun _ => 0) ∧ J b = (fun _ => 0) ∧ R b = fun _ => none
theorem hz_z {n a : Nat} (h : hs_z0 I J R n) (ha : n ≤ a) (h5 : a < 5000) : hn_z (I, J, R) a = (I, J, R) := by
  obtain ⟨h1, h2, h3⟩ := h a ha h5
  have e : ∀ {α : Type} (f : Nat → Nat → α) (r : Nat → α), f a = r → hn_ur f a r = f := fun f r hr => funext (fun b => by
    show (if b = a then r else f b) = f b
    by_cases hb : b = a
    · rw [if_pos hb, hb, hr]
    · rw [if_neg hb])
  show (hn_ur I a _, hn_ur J a _, hn_ur R a _) = _
  rw [e I _ h1, e J _ h2, e R _ h3]
theorem z0_u {n a k : Nat} {v : Option Nat} (h : hs_z0 I J R n) (ha : a < n) : hs_z0 I J (hn_u R a k v) n := fun b h1 h2 => ⟨(h b h1 h2).1, (h b h1 h2).2.1, by rw [hn_u_ne _ _ _ (by omega)]; exact (h b h1 h2).2.2⟩
theorem z0_m {n m : Nat} (h : hs_z0 I J R n) (hm : n ≤ m) : hs_z0 I J R m := fun b h1 h2 => h b (by omega) h2
theorem hn_nn {g : Bool} {d kc ks : Nat} {M : hnM} {P : Option Value → Nat → hnD → Prop} {pc : Nat} {ls st : List Value} {n m : Nat} {D : hnD} (e : n = m) (h : hn_R g d kc ks M P pc ls st m D) : hn_R g d kc ks M P pc ls st n D := by subst e; exact h
def st_R (R : Nat → Nat → Option Nat) (a : Nat) : Nat → Nat → Option Nat := hn_u (hn_u (hn_u (hn_u (R) a 0 (some (a + 1))) a 1 (some (a + 2))) a 2 (some (a + 3))) a 3 (some (a + 4))
theorem z0_st {n a : Nat} (h : hs_z0 I J R n) (ha : a < n) : hs_z0 I J (st_R R a) n := z0_u (z0_u (z0_u (z0_u (h) ha) ha) ha) ha
theorem c_State_init {a : Nat} (hk : ∀ i, i < 5 → hn_kind (a + i) = ([((0 : Nat), (5 : Nat)), (1, 8), (1, 4), (1, 4), (1, 4)]).getD i (0, 0)) (ha : a + 5 ≤ 5000) (hz : hs_z0 I J R (a + 1)) : hn_E true 1 4 20 hm_State_init [.ref a] (a + 1) (I, J, R) (fun r n' D' => r = none ∧ n' = a + 1 + 4 ∧ D' = (I, J, st_R R a)) := by
  have k0 : hn_kind (a + 0) = (0, 5) := hk 0 (by omega)
  have k1 : hn_kind (a + 1) = (1, 8) := hk 1 (by omega)
  have k2 : hn_kind (a + 2) = (1, 4) := hk 2 (by omega)
  have k3 : hn_kind (a + 3) = (1, 4) := hk 3 (by omega)
  have k4 : hn_kind (a + 4) = (1, 4) := hk 4 (by omega)
  refine hn_E_of _ hk_State_init rfl (Nat.le_of_ble_eq_true rfl) ?_
  refine hn_aload_n rfl rfl ?_
  refine hn_objInit rfl rfl (Nat.le_of_ble_eq_true rfl) (by omega) (Nat.le_of_ble_eq_true rfl) ?_
  refine hn_aload_n rfl rfl ?_
  refine hn_bipush rfl ?_
  refine hn_newarray1 (z := 8) (kc2 := 3) (ks2 := 12) rfl k1 (by decide) (by omega) (by omega) rfl rfl ?_
  rw [hz_z (a := a + 1) hz (by omega) (by omega)]
  refine hn_nn (m := a + 2) rfl ?_
  refine hn_putRF rfl k0 (by omega) rfl rfl rfl rfl (fun _ => ⟨rfl, rfl⟩) ?_
  obtain ⟨x1, hx1⟩ : ∃ z, z = hn_u R a 0 (some (a + 1)) := ⟨_, rfl⟩
  rw [← hx1]
  have zx1 : hs_z0 I J x1 (a + 2) := by rw [hx1]; exact z0_u (z0_m hz (by omega)) (by omega)
  refine hn_aload_n rfl rfl ?_
  refine hn_iconst rfl ?_
  refine hn_newarray1 (z := 4) (kc2 := 2) (ks2 := 8) rfl k2 (by decide) (by omega) (by omega) rfl rfl ?_
  rw [hz_z (a := a + 2) zx1 (by omega) (by omega)]
  refine hn_nn (m := a + 3) rfl ?_
  refine hn_putRF rfl k0 (by omega) rfl rfl rfl rfl (fun _ => ⟨rfl, rfl⟩) ?_
  obtain ⟨x2, hx2⟩ : ∃ z, z = hn_u x1 a 1 (some (a + 2)) := ⟨_, rfl⟩
  rw [← hx2]
  have zx2 : hs_z0 I J x2 (a + 3) := by rw [hx2]; exact z0_u (z0_m zx1 (by omega)) (by omega)
  refine hn_aload_n rfl rfl ?_
  refine hn_iconst rfl ?_
  refine hn_newarray1 (z := 4) (kc2 := 1) (ks2 := 4) rfl k3 (by decide) (by omega) (by omega) rfl rfl ?_
  rw [hz_z (a := a + 3) zx2 (by omega) (by omega)]
  refine hn_nn (m := a + 4) rfl ?_
  refine hn_putRF rfl k0 (by omega) rfl rfl rfl rfl (fun _ => ⟨rfl, rfl⟩) ?_
  obtain ⟨x3, hx3⟩ : ∃ z, z = hn_u x2 a 2 (some (a + 3)) := ⟨_, rfl⟩
  rw [← hx3]
  have zx3 : hs_z0 I J x3 (a + 4) := by rw [hx3]; exact z0_u (z0_m zx2 (by omega)) (by omega)
  refine hn_aload_n rfl rfl ?_
  refine hn_iconst rfl ?_
  refine hn_newarray1 (z := 4) (kc2 := 0) (ks2 := 0) rfl k4 (by decide) (by omega) (by omega) rfl rfl ?_
  rw [hz_z (a := a + 4) zx3 (by omega) (by omega)]
  refine hn_nn (m := a + 5) rfl ?_
  refine hn_putRF rfl k0 (by omega) rfl rfl rfl rfl (fun _ => ⟨rfl, rfl⟩) ?_
  obtain ⟨x4, hx4⟩ : ∃ z, z = hn_u x3 a 3 (some (a + 4)) := ⟨_, rfl⟩
  rw [← hx4]
  have zx4 : hs_z0 I J x4 (a + 5) := by rw [hx4]; exact z0_u (z0_m zx3 (by omega)) (by omega)
  exact hn_return_ (st := []) rfl trivial ⟨rfl, rfl, by rw [hx4, hx3, hx2, hx1]; rfl⟩
def sn_R (R : Nat → Nat → Option Nat) (a : Nat) : Nat → Nat → Option Nat := hn_u (hn_u (hn_u (R) a 2 (some (a + 1))) a 3 (some (a + 2))) a 4 (some (a + 3))
theorem z0_sn {n a : Nat} (h : hs_z0 I J R n) (ha : a < n) : hs_z0 I J (sn_R R a) n := z0_u (z0_u (z0_u (h) ha) ha) ha
theorem c_Seen_init {a : Nat} (hk : ∀ i, i < 4 → hn_kind (a + i) = ([((0 : Nat), (6 : Nat)), (1, 8), (1, 8), (3, 8)]).getD i (0, 0)) (ha : a + 4 ≤ 5000) (hz : hs_z0 I J R (a + 1)) : hn_E true 1 3 24 hm_Seen_init [.ref a] (a + 1) (I, J, R) (fun r n' D' => r = none ∧ n' = a + 1 + 3 ∧ D' = (I, J, sn_R R a)) := by
  have k0 : hn_kind (a + 0) = (0, 6) := hk 0 (by omega)
  have k1 : hn_kind (a + 1) = (1, 8) := hk 1 (by omega)
  have k2 : hn_kind (a + 2) = (1, 8) := hk 2 (by omega)
  have k3 : hn_kind (a + 3) = (3, 8) := hk 3 (by omega)
  refine hn_E_of _ hk_Seen_init rfl (Nat.le_of_ble_eq_true rfl) ?_
  refine hn_aload_n rfl rfl ?_
  refine hn_objInit rfl rfl (Nat.le_of_ble_eq_true rfl) (by omega) (Nat.le_of_ble_eq_true rfl) ?_
  refine hn_aload_n rfl rfl ?_
  refine hn_bipush rfl ?_
  refine hn_newarray1 (z := 8) (kc2 := 2) (ks2 := 16) rfl k1 (by decide) (by omega) (by omega) rfl rfl ?_
  rw [hz_z (a := a + 1) hz (by omega) (by omega)]
  refine hn_nn (m := a + 2) rfl ?_
  refine hn_putRF rfl k0 (by omega) rfl rfl rfl rfl (fun _ => ⟨rfl, rfl⟩) ?_
  obtain ⟨x1, hx1⟩ : ∃ z, z = hn_u R a 2 (some (a + 1)) := ⟨_, rfl⟩
  rw [← hx1]
  have zx1 : hs_z0 I J x1 (a + 2) := by rw [hx1]; exact z0_u (z0_m hz (by omega)) (by omega)
  refine hn_aload_n rfl rfl ?_
  refine hn_bipush rfl ?_
  refine hn_newarray1 (z := 8) (kc2 := 1) (ks2 := 8) rfl k2 (by decide) (by omega) (by omega) rfl rfl ?_
  rw [hz_z (a := a + 2) zx1 (by omega) (by omega)]
  refine hn_nn (m := a + 3) rfl ?_
  refine hn_putRF rfl k0 (by omega) rfl rfl rfl rfl (fun _ => ⟨rfl, rfl⟩) ?_
  obtain ⟨x2, hx2⟩ : ∃ z, z = hn_u x1 a 3 (some (a + 2)) := ⟨_, rfl⟩
  rw [← hx2]
  have zx2 : hs_z0 I J x2 (a + 3) := by rw [hx2]; exact z0_u (z0_m zx1 (by omega)) (by omega)
  refine hn_aload_n rfl rfl ?_
  refine hn_bipush rfl ?_
  refine hn_newarray3 (z := 8) (kc2 := 0) (ks2 := 0) rfl k3 (by decide) (by omega) (by omega) rfl rfl ?_
  rw [hz_z (a := a + 3) zx2 (by omega) (by omega)]
  refine hn_nn (m := a + 4) rfl ?_
  refine hn_putRF rfl k0 (by omega) rfl rfl rfl rfl (fun _ => ⟨rfl, rfl⟩) ?_
  obtain ⟨x3, hx3⟩ : ∃ z, z = hn_u x2 a 4 (some (a + 3)) := ⟨_, rfl⟩
  rw [← hx3]
  have zx3 : hs_z0 I J x3 (a + 4) := by rw [hx3]; exact z0_u (z0_m zx2 (by omega)) (by omega)
  exact hn_return_ (st := []) rfl trivial ⟨rfl, rfl, by rw [hx3, hx2, hx1]; rfl⟩
def re_R (R : Nat → Nat → Option Nat) (a : Nat) : Nat → Nat → Option Nat := hn_u (hn_u (hn_u (R) a 0 (some (a + 1))) a 1 (some (a + 2))) a 2 (some (a + 3))
theorem z0_re {n a : Nat} (h : hs_z0 I J R n) (ha : a < n) : hs_z0 I J (re_R R a) n := z0_u (z0_u (z0_u (h) ha) ha) ha
theorem c_Rest_init {a : Nat} (hk : ∀ i, i < 4 → hn_kind (a + i) = ([((0 : Nat), (4 : Nat)), (7, 40), (1, 40), (1, 40)]).getD i (0, 0)) (ha : a + 4 ≤ 5000) (hz : hs_z0 I J R (a + 1)) : hn_E true 1 3 120 hm_Rest_init [.ref a] (a + 1) (I, J, R) (fun r n' D' => r = none ∧ n' = a + 1 + 3 ∧ D' = (I, J, re_R R a)) := by
  have k0 : hn_kind (a + 0) = (0, 4) := hk 0 (by omega)
  have k1 : hn_kind (a + 1) = (7, 40) := hk 1 (by omega)
  have k2 : hn_kind (a + 2) = (1, 40) := hk 2 (by omega)
  have k3 : hn_kind (a + 3) = (1, 40) := hk 3 (by omega)
  refine hn_E_of _ hk_Rest_init rfl (Nat.le_of_ble_eq_true rfl) ?_
  refine hn_aload_n rfl rfl ?_
  refine hn_objInit rfl rfl (Nat.le_of_ble_eq_true rfl) (by omega) (Nat.le_of_ble_eq_true rfl) ?_
  refine hn_aload_n rfl rfl ?_
  refine hn_bipush rfl ?_
  refine hn_anewarray (z := 40) (kc2 := 2) (ks2 := 80) rfl k1 (by decide) (by decide) (by omega) (by omega) rfl rfl ?_
  rw [hz_z (a := a + 1) hz (by omega) (by omega)]
  refine hn_nn (m := a + 2) rfl ?_
  refine hn_putRF rfl k0 (by omega) rfl rfl rfl rfl (fun _ => ⟨rfl, rfl⟩) ?_
  obtain ⟨x1, hx1⟩ : ∃ z, z = hn_u R a 0 (some (a + 1)) := ⟨_, rfl⟩
  rw [← hx1]
  have zx1 : hs_z0 I J x1 (a + 2) := by rw [hx1]; exact z0_u (z0_m hz (by omega)) (by omega)
  refine hn_aload_n rfl rfl ?_
  refine hn_bipush rfl ?_
  refine hn_newarray1 (z := 40) (kc2 := 1) (ks2 := 40) rfl k2 (by decide) (by omega) (by omega) rfl rfl ?_
  rw [hz_z (a := a + 2) zx1 (by omega) (by omega)]
  refine hn_nn (m := a + 3) rfl ?_
  refine hn_putRF rfl k0 (by omega) rfl rfl rfl rfl (fun _ => ⟨rfl, rfl⟩) ?_
  obtain ⟨x2, hx2⟩ : ∃ z, z = hn_u x1 a 1 (some (a + 2)) := ⟨_, rfl⟩
  rw [← hx2]
  have zx2 : hs_z0 I J x2 (a + 3) := by rw [hx2]; exact z0_u (z0_m zx1 (by omega)) (by omega)
  refine hn_aload_n rfl rfl ?_
  refine hn_bipush rfl ?_
  refine hn_newarray1 (z := 40) (kc2 := 0) (ks2 := 0) rfl k3 (by decide) (by omega) (by omega) rfl rfl ?_
  rw [hz_z (a := a + 3) zx2 (by omega) (by omega)]
  refine hn_nn (m := a + 4) rfl ?_
  refine hn_putRF rfl k0 (by omega) rfl rfl rfl rfl (fun _ => ⟨rfl, rfl⟩) ?_
  obtain ⟨x3, hx3⟩ : ∃ z, z = hn_u x2 a 2 (some (a + 3)) := ⟨_, rfl⟩
  rw [← hx3]
  have zx3 : hs_z0 I J x3 (a + 4) := by rw [hx3]; exact z0_u (z0_m zx2 (by omega)) (by omega)
  exact hn_return_ (st := []) rfl trivial ⟨rfl, rfl, by rw [hx3, hx2, hx1]; rfl⟩
def lu_R (R : Nat → Nat → Option Nat) (a : Nat) : Nat → Nat → Option Nat := hn_u (hn_u (hn_u (hn_u (R) a 0 (some (a + 1))) a 2 (some (a + 2))) a 6 (some (a + 3))) a 7 (some (a + 4))
theorem z0_lu {n a : Nat} (h : hs_z0 I J R n) (ha : a < n) : hs_z0 I J (lu_R R a) n := z0_u (z0_u (z0_u (z0_u (h) ha) ha) ha) ha
theorem c_Lulls_init {a : Nat} (hk : ∀ i, i < 5 → hn_kind (a + i) = ([((0 : Nat), (9 : Nat)), (1, 1000), (1, 64), (1, 64), (1, 4)]).getD i (0, 0)) (ha : a + 5 ≤ 5000) (hz : hs_z0 I J R (a + 1)) : hn_E true 1 4 1132 hm_Lulls_init [.ref a] (a + 1) (I, J, R) (fun r n' D' => r = none ∧ n' = a + 1 + 4 ∧ D' = (I, J, lu_R R a)) := by
  have k0 : hn_kind (a + 0) = (0, 9) := hk 0 (by omega)
  have k1 : hn_kind (a + 1) = (1, 1000) := hk 1 (by omega)
  have k2 : hn_kind (a + 2) = (1, 64) := hk 2 (by omega)
  have k3 : hn_kind (a + 3) = (1, 64) := hk 3 (by omega)
  have k4 : hn_kind (a + 4) = (1, 4) := hk 4 (by omega)
  refine hn_E_of _ hk_Lulls_init rfl (Nat.le_of_ble_eq_true rfl) ?_
  refine hn_aload_n rfl rfl ?_
  refine hn_objInit rfl rfl (Nat.le_of_ble_eq_true rfl) (by omega) (Nat.le_of_ble_eq_true rfl) ?_
  refine hn_aload_n rfl rfl ?_
  refine hn_sipush rfl ?_
  refine hn_newarray1 (z := 1000) (kc2 := 3) (ks2 := 132) rfl k1 (by decide) (by omega) (by omega) rfl rfl ?_
  rw [hz_z (a := a + 1) hz (by omega) (by omega)]
  refine hn_nn (m := a + 2) rfl ?_
  refine hn_putRF rfl k0 (by omega) rfl rfl rfl rfl (fun _ => ⟨rfl, rfl⟩) ?_
  obtain ⟨x1, hx1⟩ : ∃ z, z = hn_u R a 0 (some (a + 1)) := ⟨_, rfl⟩
  rw [← hx1]
  have zx1 : hs_z0 I J x1 (a + 2) := by rw [hx1]; exact z0_u (z0_m hz (by omega)) (by omega)
  refine hn_aload_n rfl rfl ?_
  refine hn_bipush rfl ?_
  refine hn_newarray1 (z := 64) (kc2 := 2) (ks2 := 68) rfl k2 (by decide) (by omega) (by omega) rfl rfl ?_
  rw [hz_z (a := a + 2) zx1 (by omega) (by omega)]
  refine hn_nn (m := a + 3) rfl ?_
  refine hn_putRF rfl k0 (by omega) rfl rfl rfl rfl (fun _ => ⟨rfl, rfl⟩) ?_
  obtain ⟨x2, hx2⟩ : ∃ z, z = hn_u x1 a 2 (some (a + 2)) := ⟨_, rfl⟩
  rw [← hx2]
  have zx2 : hs_z0 I J x2 (a + 3) := by rw [hx2]; exact z0_u (z0_m zx1 (by omega)) (by omega)
  refine hn_aload_n rfl rfl ?_
  refine hn_bipush rfl ?_
  refine hn_newarray1 (z := 64) (kc2 := 1) (ks2 := 4) rfl k3 (by decide) (by omega) (by omega) rfl rfl ?_
  rw [hz_z (a := a + 3) zx2 (by omega) (by omega)]
  refine hn_nn (m := a + 4) rfl ?_
  refine hn_putRF rfl k0 (by omega) rfl rfl rfl rfl (fun _ => ⟨rfl, rfl⟩) ?_
  obtain ⟨x3, hx3⟩ : ∃ z, z = hn_u x2 a 6 (some (a + 3)) := ⟨_, rfl⟩
  rw [← hx3]
  have zx3 : hs_z0 I J x3 (a + 4) := by rw [hx3]; exact z0_u (z0_m zx2 (by omega)) (by omega)
  refine hn_aload_n rfl rfl ?_
  refine hn_iconst rfl ?_
  refine hn_newarray1 (z := 4) (kc2 := 0) (ks2 := 0) rfl k4 (by decide) (by omega) (by omega) rfl rfl ?_
  rw [hz_z (a := a + 4) zx3 (by omega) (by omega)]
  refine hn_nn (m := a + 5) rfl ?_
  refine hn_putRF rfl k0 (by omega) rfl rfl rfl rfl (fun _ => ⟨rfl, rfl⟩) ?_
  obtain ⟨x4, hx4⟩ : ∃ z, z = hn_u x3 a 7 (some (a + 4)) := ⟨_, rfl⟩
  rw [← hx4]
  have zx4 : hs_z0 I J x4 (a + 5) := by rw [hx4]; exact z0_u (z0_m zx3 (by omega)) (by omega)
  exact hn_return_ (st := []) rfl trivial ⟨rfl, rfl, by rw [hx4, hx3, hx2, hx1]; rfl⟩
def wy_R (R : Nat → Nat → Option Nat) (a : Nat) : Nat → Nat → Option Nat := hn_u (hn_u (hn_u (hn_u (R) a 0 (some (a + 1))) a 1 (some (a + 2))) a 2 (some (a + 3))) a 3 (some (a + 4))
theorem z0_wy {n a : Nat} (h : hs_z0 I J R n) (ha : a < n) : hs_z0 I J (wy_R R a) n := z0_u (z0_u (z0_u (z0_u (h) ha) ha) ha) ha
theorem c_Ways_init {a : Nat} (hk : ∀ i, i < 5 → hn_kind (a + i) = ([((0 : Nat), (7 : Nat)), (1, 8), (1, 8), (1, 8), (1, 8)]).getD i (0, 0)) (ha : a + 5 ≤ 5000) (hz : hs_z0 I J R (a + 1)) : hn_E true 1 4 32 hm_Ways_init [.ref a] (a + 1) (I, J, R) (fun r n' D' => r = none ∧ n' = a + 1 + 4 ∧ D' = (I, J, wy_R R a)) := by
  have k0 : hn_kind (a + 0) = (0, 7) := hk 0 (by omega)
  have k1 : hn_kind (a + 1) = (1, 8) := hk 1 (by omega)
  have k2 : hn_kind (a + 2) = (1, 8) := hk 2 (by omega)
  have k3 : hn_kind (a + 3) = (1, 8) := hk 3 (by omega)
  have k4 : hn_kind (a + 4) = (1, 8) := hk 4 (by omega)
  refine hn_E_of _ hk_Ways_init rfl (Nat.le_of_ble_eq_true rfl) ?_
  refine hn_aload_n rfl rfl ?_
  refine hn_objInit rfl rfl (Nat.le_of_ble_eq_true rfl) (by omega) (Nat.le_of_ble_eq_true rfl) ?_
  refine hn_aload_n rfl rfl ?_
  refine hn_bipush rfl ?_
  refine hn_newarray1 (z := 8) (kc2 := 3) (ks2 := 24) rfl k1 (by decide) (by omega) (by omega) rfl rfl ?_
  rw [hz_z (a := a + 1) hz (by omega) (by omega)]
  refine hn_nn (m := a + 2) rfl ?_
  refine hn_putRF rfl k0 (by omega) rfl rfl rfl rfl (fun _ => ⟨rfl, rfl⟩) ?_
  obtain ⟨x1, hx1⟩ : ∃ z, z = hn_u R a 0 (some (a + 1)) := ⟨_, rfl⟩
  rw [← hx1]
  have zx1 : hs_z0 I J x1 (a + 2) := by rw [hx1]; exact z0_u (z0_m hz (by omega)) (by omega)
  refine hn_aload_n rfl rfl ?_
  refine hn_bipush rfl ?_
  refine hn_newarray1 (z := 8) (kc2 := 2) (ks2 := 16) rfl k2 (by decide) (by omega) (by omega) rfl rfl ?_
  rw [hz_z (a := a + 2) zx1 (by omega) (by omega)]
  refine hn_nn (m := a + 3) rfl ?_
  refine hn_putRF rfl k0 (by omega) rfl rfl rfl rfl (fun _ => ⟨rfl, rfl⟩) ?_
  obtain ⟨x2, hx2⟩ : ∃ z, z = hn_u x1 a 1 (some (a + 2)) := ⟨_, rfl⟩
  rw [← hx2]
  have zx2 : hs_z0 I J x2 (a + 3) := by rw [hx2]; exact z0_u (z0_m zx1 (by omega)) (by omega)
  refine hn_aload_n rfl rfl ?_
  refine hn_bipush rfl ?_
  refine hn_newarray1 (z := 8) (kc2 := 1) (ks2 := 8) rfl k3 (by decide) (by omega) (by omega) rfl rfl ?_
  rw [hz_z (a := a + 3) zx2 (by omega) (by omega)]
  refine hn_nn (m := a + 4) rfl ?_
  refine hn_putRF rfl k0 (by omega) rfl rfl rfl rfl (fun _ => ⟨rfl, rfl⟩) ?_
  obtain ⟨x3, hx3⟩ : ∃ z, z = hn_u x2 a 2 (some (a + 3)) := ⟨_, rfl⟩
  rw [← hx3]
  have zx3 : hs_z0 I J x3 (a + 4) := by rw [hx3]; exact z0_u (z0_m zx2 (by omega)) (by omega)
  refine hn_aload_n rfl rfl ?_
  refine hn_bipush rfl ?_
  refine hn_newarray1 (z := 8) (kc2 := 0) (ks2 := 0) rfl k4 (by decide) (by omega) (by omega) rfl rfl ?_
  rw [hz_z (a := a + 4) zx3 (by omega) (by omega)]
  refine hn_nn (m := a + 5) rfl ?_
  refine hn_putRF rfl k0 (by omega) rfl rfl rfl rfl (fun _ => ⟨rfl, rfl⟩) ?_
  obtain ⟨x4, hx4⟩ : ∃ z, z = hn_u x3 a 3 (some (a + 4)) := ⟨_, rfl⟩
  rw [← hx4]
  have zx4 : hs_z0 I J x4 (a + 5) := by rw [hx4]; exact z0_u (z0_m zx3 (by omega)) (by omega)
  exact hn_return_ (st := []) rfl trivial ⟨rfl, rfl, by rw [hx4, hx3, hx2, hx1]; rfl⟩
def se_R (R : Nat → Nat → Option Nat) (a : Nat) : Nat → Nat → Option Nat := hn_u (hn_u (R) a 0 (some (a + 1))) a 1 (some (a + 2))
theorem z0_se {n a : Nat} (h : hs_z0 I J R n) (ha : a < n) : hs_z0 I J (se_R R a) n := z0_u (z0_u (h) ha) ha
theorem c_Search_init {a : Nat} (hk : ∀ i, i < 3 → hn_kind (a + i) = ([((0 : Nat), (8 : Nat)), (2, 8), (2, 8)]).getD i (0, 0)) (ha : a + 3 ≤ 5000) (hz : hs_z0 I J R (a + 1)) : hn_E true 1 2 16 hm_Search_init [.ref a] (a + 1) (I, J, R) (fun r n' D' => r = none ∧ n' = a + 1 + 2 ∧ D' = (I, J, se_R R a)) := by
  have k0 : hn_kind (a + 0) = (0, 8) := hk 0 (by omega)
  have k1 : hn_kind (a + 1) = (2, 8) := hk 1 (by omega)
  have k2 : hn_kind (a + 2) = (2, 8) := hk 2 (by omega)
  refine hn_E_of _ hk_Search_init rfl (Nat.le_of_ble_eq_true rfl) ?_
  refine hn_aload_n rfl rfl ?_
  refine hn_objInit rfl rfl (Nat.le_of_ble_eq_true rfl) (by omega) (Nat.le_of_ble_eq_true rfl) ?_
  refine hn_aload_n rfl rfl ?_
  refine hn_bipush rfl ?_
  refine hn_newarray2 (z := 8) (kc2 := 1) (ks2 := 8) rfl k1 (by decide) (by omega) (by omega) rfl rfl ?_
  rw [hz_z (a := a + 1) hz (by omega) (by omega)]
  refine hn_nn (m := a + 2) rfl ?_
  refine hn_putRF rfl k0 (by omega) rfl rfl rfl rfl (fun _ => ⟨rfl, rfl⟩) ?_
  obtain ⟨x1, hx1⟩ : ∃ z, z = hn_u R a 0 (some (a + 1)) := ⟨_, rfl⟩
  rw [← hx1]
  have zx1 : hs_z0 I J x1 (a + 2) := by rw [hx1]; exact z0_u (z0_m hz (by omega)) (by omega)
  refine hn_aload_n rfl rfl ?_
  refine hn_bipush rfl ?_
  refine hn_newarray2 (z := 8) (kc2 := 0) (ks2 := 0) rfl k2 (by decide) (by omega) (by omega) rfl rfl ?_
  rw [hz_z (a := a + 2) zx1 (by omega) (by omega)]
  refine hn_nn (m := a + 3) rfl ?_
  refine hn_putRF rfl k0 (by omega) rfl rfl rfl rfl (fun _ => ⟨rfl, rfl⟩) ?_
  obtain ⟨x2, hx2⟩ : ∃ z, z = hn_u x1 a 1 (some (a + 2)) := ⟨_, rfl⟩
  rw [← hx2]
  have zx2 : hs_z0 I J x2 (a + 3) := by rw [hx2]; exact z0_u (z0_m zx1 (by omega)) (by omega)
  exact hn_return_ (st := []) rfl trivial ⟨rfl, rfl, by rw [hx2, hx1]; rfl⟩
def ta_R (R : Nat → Nat → Option Nat) (a : Nat) : Nat → Nat → Option Nat := hn_u (hn_u (R) a 0 (some (a + 1))) a 5 (some (5000))
theorem z0_ta {n a : Nat} (h : hs_z0 I J R n) (ha : a < n) : hs_z0 I J (ta_R R a) n := z0_u (z0_u (h) ha) ha
theorem c_Tape_init {a : Nat} (hk : ∀ i, i < 2 → hn_kind (a + i) = ([((0 : Nat), (1 : Nat)), (4, 1000)]).getD i (0, 0)) (ha : a + 2 ≤ 5000) (hz : hs_z0 I J R (a + 1)) : hn_E true 1 1 1000 hm_Tape_init [.ref a] (a + 1) (I, J, R) (fun r n' D' => r = none ∧ n' = a + 1 + 1 ∧ D' = (I, J, ta_R R a)) := by
  have k0 : hn_kind (a + 0) = (0, 1) := hk 0 (by omega)
  have k1 : hn_kind (a + 1) = (4, 1000) := hk 1 (by omega)
  refine hn_E_of _ hk_Tape_init rfl (Nat.le_of_ble_eq_true rfl) ?_
  refine hn_aload_n rfl rfl ?_
  refine hn_objInit rfl rfl (Nat.le_of_ble_eq_true rfl) (by omega) (Nat.le_of_ble_eq_true rfl) ?_
  refine hn_aload_n rfl rfl ?_
  refine hn_sipush rfl ?_
  refine hn_newarray4 (z := 1000) (kc2 := 0) (ks2 := 0) rfl k1 (by decide) (by omega) (by omega) rfl rfl ?_
  rw [hz_z (a := a + 1) hz (by omega) (by omega)]
  refine hn_nn (m := a + 2) rfl ?_
  refine hn_putRF rfl k0 (by omega) rfl rfl rfl rfl (fun _ => ⟨rfl, rfl⟩) ?_
  obtain ⟨x1, hx1⟩ : ∃ z, z = hn_u R a 0 (some (a + 1)) := ⟨_, rfl⟩
  rw [← hx1]
  have zx1 : hs_z0 I J x1 (a + 2) := by rw [hx1]; exact z0_u (z0_m hz (by omega)) (by omega)
  refine hn_aload_n rfl rfl ?_
  refine hn_getsW rfl ?_
  refine hn_putR rfl k0 (by omega) rfl rfl (fun _ => ⟨rfl, rfl⟩) ?_
  obtain ⟨x2, hx2⟩ : ∃ z, z = hn_u x1 a 5 (some (5000)) := ⟨_, rfl⟩
  rw [← hx2]
  have zx2 : hs_z0 I J x2 (a + 2) := by rw [hx2]; exact z0_u (z0_m zx1 (by omega)) (by omega)
  exact hn_return_ (st := []) rfl trivial ⟨rfl, rfl, by rw [hx2, hx1]; rfl⟩
def nt_R (R : Nat → Nat → Option Nat) (a : Nat) : Nat → Nat → Option Nat := hn_u (st_R (hn_u (lu_R (hn_u (hn_u (hn_u (hn_u (hn_u R a 1 (some (a + 1))) a 2 (some (a + 2))) a 3 (some (a + 3))) a 4 (some (a + 4))) a 5 (some (a + 5))) (a + 6)) a 7 (some (a + 6))) (a + 11)) a 8 (some (a + 11))
theorem z0_nt {n a : Nat} (h : hs_z0 I J R n) (ha : a + 11 < n) : hs_z0 I J (nt_R R a) n := z0_u (z0_st (z0_u (z0_lu (z0_u (z0_u (z0_u (z0_u (z0_u h (by omega)) (by omega)) (by omega)) (by omega)) (by omega)) (by omega)) (by omega)) (by omega)) (by omega)
theorem c_Net_init {a : Nat} (hk : ∀ i, i < 16 → hn_kind (a + i) = ([((0 : Nat), (3 : Nat)), ((2 : Nat), (8 : Nat)), ((1 : Nat), (8 : Nat)), ((1 : Nat), (8 : Nat)), ((1 : Nat), (8 : Nat)), ((2 : Nat), (4 : Nat)), ((0 : Nat), (9 : Nat)), ((1 : Nat), (1000 : Nat)), ((1 : Nat), (64 : Nat)), ((1 : Nat), (64 : Nat)), ((1 : Nat), (4 : Nat)), ((0 : Nat), (5 : Nat)), ((1 : Nat), (8 : Nat)), ((1 : Nat), (4 : Nat)), ((1 : Nat), (4 : Nat)), ((1 : Nat), (4 : Nat))]).getD i (0, 0)) (ha : a + 16 ≤ 5000) (hz : hs_z0 I J R (a + 1)) : hn_E true 2 15 1203 hm_Net_init [.ref a] (a + 1) (I, J, R) (fun r n' D' => r = none ∧ n' = a + 1 + 15 ∧ D' = (I, J, nt_R R a)) := by
  have k0 : hn_kind (a + 0) = (0, 3) := hk 0 (by omega)
  have k1 : hn_kind (a + 1) = (2, 8) := hk 1 (by omega)
  have k2 : hn_kind (a + 2) = (1, 8) := hk 2 (by omega)
  have k3 : hn_kind (a + 3) = (1, 8) := hk 3 (by omega)
  have k4 : hn_kind (a + 4) = (1, 8) := hk 4 (by omega)
  have k5 : hn_kind (a + 5) = (2, 4) := hk 5 (by omega)
  have k6 : hn_kind (a + 6) = (0, 9) := hk 6 (by omega)
  have k7 : hn_kind (a + 7) = (1, 1000) := hk 7 (by omega)
  have k8 : hn_kind (a + 8) = (1, 64) := hk 8 (by omega)
  have k9 : hn_kind (a + 9) = (1, 64) := hk 9 (by omega)
  have k10 : hn_kind (a + 10) = (1, 4) := hk 10 (by omega)
  have k11 : hn_kind (a + 11) = (0, 5) := hk 11 (by omega)
  have k12 : hn_kind (a + 12) = (1, 8) := hk 12 (by omega)
  have k13 : hn_kind (a + 13) = (1, 4) := hk 13 (by omega)
  have k14 : hn_kind (a + 14) = (1, 4) := hk 14 (by omega)
  have k15 : hn_kind (a + 15) = (1, 4) := hk 15 (by omega)
  refine hn_E_of _ hk_Net_init rfl (Nat.le_of_ble_eq_true rfl) ?_
  refine hn_aload_n rfl rfl ?_
  refine hn_objInit rfl rfl (Nat.le_of_ble_eq_true rfl) (by omega) (Nat.le_of_ble_eq_true rfl) ?_
  refine hn_aload_n rfl rfl ?_
  refine hn_bipush rfl ?_
  refine hn_newarray2 (z := 8) (kc2 := 14) (ks2 := 1195) rfl k1 (by decide) (by omega) (by omega) rfl rfl ?_
  rw [hz_z (a := a + 1) hz (by omega) (by omega)]
  refine hn_nn (m := a + 2) rfl ?_
  refine hn_putRF rfl k0 (by omega) rfl rfl rfl rfl (fun _ => ⟨rfl, rfl⟩) ?_
  obtain ⟨x1, hx1⟩ : ∃ z, z = hn_u R a 1 (some (a + 1)) := ⟨_, rfl⟩
  rw [← hx1]
  have zx1 : hs_z0 I J x1 (a + 2) := by rw [hx1]; exact z0_u (z0_m hz (by omega)) (by omega)
  refine hn_aload_n rfl rfl ?_
  refine hn_bipush rfl ?_
  refine hn_newarray1 (z := 8) (kc2 := 13) (ks2 := 1187) rfl k2 (by decide) (by omega) (by omega) rfl rfl ?_
  rw [hz_z (a := a + 2) zx1 (by omega) (by omega)]
  refine hn_nn (m := a + 3) rfl ?_
  refine hn_putRF rfl k0 (by omega) rfl rfl rfl rfl (fun _ => ⟨rfl, rfl⟩) ?_
  obtain ⟨x2, hx2⟩ : ∃ z, z = hn_u x1 a 2 (some (a + 2)) := ⟨_, rfl⟩
  rw [← hx2]
  have zx2 : hs_z0 I J x2 (a + 3) := by rw [hx2]; exact z0_u (z0_m zx1 (by omega)) (by omega)
  refine hn_aload_n rfl rfl ?_
  refine hn_bipush rfl ?_
  refine hn_newarray1 (z := 8) (kc2 := 12) (ks2 := 1179) rfl k3 (by decide) (by omega) (by omega) rfl rfl ?_
  rw [hz_z (a := a + 3) zx2 (by omega) (by omega)]
  refine hn_nn (m := a + 4) rfl ?_
  refine hn_putRF rfl k0 (by omega) rfl rfl rfl rfl (fun _ => ⟨rfl, rfl⟩) ?_
  obtain ⟨x3, hx3⟩ : ∃ z, z = hn_u x2 a 3 (some (a + 3)) := ⟨_, rfl⟩
  rw [← hx3]
  have zx3 : hs_z0 I J x3 (a + 4) := by rw [hx3]; exact z0_u (z0_m zx2 (by omega)) (by omega)
  refine hn_aload_n rfl rfl ?_
  refine hn_bipush rfl ?_
  refine hn_newarray1 (z := 8) (kc2 := 11) (ks2 := 1171) rfl k4 (by decide) (by omega) (by omega) rfl rfl ?_
  rw [hz_z (a := a + 4) zx3 (by omega) (by omega)]
  refine hn_nn (m := a + 5) rfl ?_
  refine hn_putRF rfl k0 (by omega) rfl rfl rfl rfl (fun _ => ⟨rfl, rfl⟩) ?_
  obtain ⟨x4, hx4⟩ : ∃ z, z = hn_u x3 a 4 (some (a + 4)) := ⟨_, rfl⟩
  rw [← hx4]
  have zx4 : hs_z0 I J x4 (a + 5) := by rw [hx4]; exact z0_u (z0_m zx3 (by omega)) (by omega)
  refine hn_aload_n rfl rfl ?_
  refine hn_iconst rfl ?_
  refine hn_newarray2 (z := 4) (kc2 := 10) (ks2 := 1167) rfl k5 (by decide) (by omega) (by omega) rfl rfl ?_
  rw [hz_z (a := a + 5) zx4 (by omega) (by omega)]
  refine hn_nn (m := a + 6) rfl ?_
  refine hn_putRF rfl k0 (by omega) rfl rfl rfl rfl (fun _ => ⟨rfl, rfl⟩) ?_
  obtain ⟨x5, hx5⟩ : ∃ z, z = hn_u x4 a 5 (some (a + 5)) := ⟨_, rfl⟩
  rw [← hx5]
  have zx5 : hs_z0 I J x5 (a + 6) := by rw [hx5]; exact z0_u (z0_m zx4 (by omega)) (by omega)
  refine hn_aload_n rfl rfl ?_
  refine hn_new (kc2 := 9) (ks2 := 1159) rfl k6 rfl (by omega) (by decide) rfl rfl ?_
  rw [hz_z (a := a + 6) zx5 (by omega) (by omega)]
  refine hn_nn (m := a + 7) rfl ?_
  refine hn_dup rfl rfl ?_
  refine hn_callI (kc2 := 5) (ks2 := 27) rfl rfl (by decide) hk_Lulls_init rfl rfl rfl rfl (Nat.le_of_ble_eq_true rfl) (c_Lulls_init (fun i hi => match i, hi with | 0, _ => k6 | 1, _ => k7 | 2, _ => k8 | 3, _ => k9 | 4, _ => k10 | i + 5, hi => absurd hi (by omega)) (by omega) (z0_m zx5 (by omega))) (by omega) rfl rfl (fun r n D h _ => by have := h.2.1; omega) (fun r n' D' q => ?_)
  obtain ⟨rfl, rfl, rfl⟩ := q
  refine hn_nn (m := a + 11) rfl ?_
  obtain ⟨x6, hx6⟩ : ∃ z, z = lu_R x5 (a + 6) := ⟨_, rfl⟩
  rw [← hx6]
  have zx6 : hs_z0 I J x6 (a + 11) := by rw [hx6]; exact z0_lu (z0_m zx5 (by omega)) (by omega)
  refine hn_putRF rfl k0 (by omega) rfl rfl rfl rfl (fun _ => ⟨rfl, rfl⟩) ?_
  obtain ⟨x7, hx7⟩ : ∃ z, z = hn_u x6 a 7 (some (a + 6)) := ⟨_, rfl⟩
  rw [← hx7]
  have zx7 : hs_z0 I J x7 (a + 11) := by rw [hx7]; exact z0_u (z0_m zx6 (by omega)) (by omega)
  refine hn_aload_n rfl rfl ?_
  refine hn_new (kc2 := 4) (ks2 := 20) rfl k11 rfl (by omega) (by decide) rfl rfl ?_
  rw [hz_z (a := a + 11) zx7 (by omega) (by omega)]
  refine hn_nn (m := a + 12) rfl ?_
  refine hn_dup rfl rfl ?_
  refine hn_callI (kc2 := 0) (ks2 := 0) rfl rfl (by decide) hk_State_init rfl rfl rfl rfl (Nat.le_of_ble_eq_true rfl) (c_State_init (fun i hi => match i, hi with | 0, _ => k11 | 1, _ => k12 | 2, _ => k13 | 3, _ => k14 | 4, _ => k15 | i + 5, hi => absurd hi (by omega)) (by omega) (z0_m zx7 (by omega))) (by omega) rfl rfl (fun r n D h _ => by have := h.2.1; omega) (fun r n' D' q => ?_)
  obtain ⟨rfl, rfl, rfl⟩ := q
  refine hn_nn (m := a + 16) rfl ?_
  obtain ⟨x8, hx8⟩ : ∃ z, z = st_R x7 (a + 11) := ⟨_, rfl⟩
  rw [← hx8]
  have zx8 : hs_z0 I J x8 (a + 16) := by rw [hx8]; exact z0_st (z0_m zx7 (by omega)) (by omega)
  refine hn_putRF rfl k0 (by omega) rfl rfl rfl rfl (fun _ => ⟨rfl, rfl⟩) ?_
  obtain ⟨x9, hx9⟩ : ∃ z, z = hn_u x8 a 8 (some (a + 11)) := ⟨_, rfl⟩
  rw [← hx9]
  have zx9 : hs_z0 I J x9 (a + 16) := by rw [hx9]; exact z0_u (z0_m zx8 (by omega)) (by omega)
  exact hn_return_ (st := []) rfl trivial ⟨rfl, rfl, by rw [hx9, hx8, hx7, hx6, hx5, hx4, hx3, hx2, hx1]; rfl⟩
end HNconstr
