/-! the law from its entry on: both objects, the row for an answer, the loop -/
section HNentry
variable {LL : Nat} {sc : Nat → Int32}
/-- an object's or a row's making changes nothing where all is empty -/
theorem hn_ur_s {α : Type} {f : Nat → Nat → α} {a : Nat} {r : Nat → α} (h : f a = r) : hn_ur f a r = f := by
  funext b
  by_cases e : b = a
  · subst e; rw [hn_ur_eq, h]
  · rw [hn_ur_ne _ _ e]
theorem hn_z_s {I : Nat → Nat → Int32} {J : Nat → Nat → Int64} {R : Nat → Nat → Option Nat} {a : Nat} (h1 : I a = fun _ => 0) (h2 : J a = fun _ => 0) (h3 : R a = fun _ => none) : hn_z (I, J, R) a = (I, J, R) := by
  show (hn_ur I a (fun _ => 0), hn_ur J a (fun _ => 0), hn_ur R a (fun _ => none)) = _
  rw [hn_ur_s h1, hn_ur_s h2, hn_ur_s h3]
def I00 (sc : Nat → Int32) (LL : Nat) : Nat → Nat → Int32 := fun b => if b = 6000 then sc else if b = 6001 then (fun _ => nI LL) else fun _ => 0
theorem I00_z {b : Nat} (h : b < 5000) : I00 sc LL b = fun _ => 0 := by
  unfold I00
  rw [if_neg (by omega), if_neg (by omega)]
def J00 : Nat → Nat → Int64 := fun _ _ => 0
def hs_pg (R : Nat → Nat → Option Nat) : Prop := ∀ b, 188 ≤ b → R b = fun _ => none
theorem pg_u {R : Nat → Nat → Option Nat} {a k : Nat} {v : Option Nat} (ha : a < 188) (h : hs_pg R) : hs_pg (hn_u R a k v) := fun b hb => by rw [hn_u_ne _ _ _ (by omega)]; exact h b hb
set_option maxRecDepth 100000 in
theorem xR_pg : hs_pg (xR R00) := by
  unfold xR nt_R se_R wy_R sn_R st_R re_R lu_R ta_R
  repeat refine pg_u (Nat.le_of_ble_eq_true rfl) ?_
  exact fun b _ => rfl
theorem xR_ge {b : Nat} (h : 188 ≤ b) : xR R00 b = fun _ => none := xR_pg b h
theorem hn_gw {d kc ks : Nat} {M : hnM} {P : Option Value → Nat → hnD → Prop} {pc : Nat} {ls st : List Value} {n : Nat} {D : hnD} (hgl : hn_gl M = false) (h : hn_R false d kc ks M P pc ls st n D) : hn_R true d kc ks M P pc ls st n D := by
  intro p l e R s m args below meth cd dC dI ty ad b0 L xs Q C F H locs cells slots lsA hS hc hs hL
  have F' : hn_Fin false M P p l e R s m args below meth cd dC dI ty ad b0 L xs Q := by
    unfold hn_Fin at F ⊢
    rw [hgl] at F ⊢
    exact F
  exact h p l e R s m args below meth cd dC dI ty ad b0 L xs Q C F' H locs cells slots lsA ⟨hS.1, hS.2.1, hS.2.2.1, (fun h => nomatch h), hS.2.2.2.2⟩ hc hs hL
set_option maxRecDepth 100000 in
set_option maxHeartbeats 4000000 in
theorem l_entry (hL : LL ≤ 3584) : hn_R true 60 725 19977 hm_Law_law l_P 0 [.ref 6000, .null, .null, .null, .null, .null, .null] [] 0 (I00 sc LL, J00, R00) := by
  refine hn_new (kc2 := 724) (ks2 := 19957) (N := 20) rfl rfl rfl (Nat.le_of_ble_eq_true rfl) (Nat.le_of_ble_eq_true rfl) rfl rfl ?_
  rw [hn_z_s (I00_z (by omega)) rfl rfl]
  refine hn_dup rfl rfl ?_
  refine hn_callI (kc2 := 537) (ks2 := 15142) rfl rfl (by decide) hk_X_init rfl rfl rfl rfl (Nat.le_of_ble_eq_true rfl) (c_X_init (fun b h1 h2 => ⟨I00_z h2, rfl, rfl⟩)) (Nat.le_of_ble_eq_true rfl) rfl rfl (fun r n' D' q _ => q.2.1) (fun r n' D' q => ?_)
  obtain ⟨rfl, rfl, rfl⟩ := q
  refine hn_astore_n rfl (Nat.le_of_ble_eq_true rfl) ?_
  refine hn_new (kc2 := 536) (ks2 := 15108) (N := 34) rfl rfl rfl (Nat.le_of_ble_eq_true rfl) (Nat.le_of_ble_eq_true rfl) rfl rfl ?_
  rw [hn_z_s (I00_z (by omega)) rfl (xR_ge (by omega))]
  refine hn_dup rfl rfl ?_
  refine hn_callI (kc2 := 513) (ks2 := 3073) rfl rfl (by decide) hk_M_init rfl rfl rfl rfl (Nat.le_of_ble_eq_true rfl) (c_M_init (fun b h2 => I00_z h2) (fun b h1 h2 => ⟨I00_z h2, rfl, xR_ge (by omega)⟩)) (Nat.le_of_ble_eq_true rfl) rfl rfl (fun r n' D' q _ => q.2.1) (fun r n' D' q => ?_)
  obtain ⟨rfl, rfl, I1, I2, rfl, f1, f2, g⟩ := q
  have hI2 : ∀ b, b = 212 ∨ b = 6000 ∨ b = 6001 → I2 b = I00 sc LL b := fun b hb => by
    obtain ⟨g1, g2, g3, g4, g5, g6, g7, g8, g9⟩ := g
    rw [g8 b (by omega) (by omega) (by omega) (by omega), f1 b (by omega)]
  refine hn_astore_n rfl (Nat.le_of_ble_eq_true rfl) ?_
  refine hn_iconst rfl ?_
  refine hn_newarray2 (kc2 := 512) (ks2 := 3072) (z := 1) rfl rfl rfl (Nat.le_of_ble_eq_true rfl) (Nat.le_of_ble_eq_true rfl) rfl rfl ?_
  rw [hn_z_s ((hI2 212 (Or.inl rfl)).trans (I00_z (by omega))) (mJ_ne (by omega)) ((mR_ne (by omega)).trans (xR_ge (by omega)))]
  refine hn_astore_n rfl (Nat.le_of_ble_eq_true rfl) ?_
  refine hn_iconst rfl ?_
  refine hn_istore rfl (Nat.le_of_ble_eq_true rfl) ?_
  refine hn_gw rfl ?_
  exact l_lp hL 512 0 _ (by omega) (by omega) (l_W_of (W_0 (fun b h => I00_z h) f1 f2 g) ⟨hI2 6000 (Or.inr (Or.inl rfl)), congrFun (hI2 6001 (Or.inr (Or.inr rfl))) 0⟩)
end HNentry
