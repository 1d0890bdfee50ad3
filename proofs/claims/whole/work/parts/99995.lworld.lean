/-! the law's loop: what holds between two calls, and the rows of its walk -/
section HNlworld
variable {I : Nat → Nat → Int32} {J : Nat → Nat → Int64} {R : Nat → Nat → Option Nat} {t t2 l l2 LL a kc ks : Nat} {N : sp_N} {S : sp_Q} {U : sp_U} {V : sp_V} {K : sp_K} {L : sp_L} {T : sp_T} {nm pm : Nat → Nat} {sc : Nat → Int32}
def l_P : Option Value → Nat → hnD → Prop := fun r _ _ => r = some (.int 1)
abbrev l_ls (a : Nat) : List Value := [.ref 6000, .ref 0, .ref 188, .ref 212, .int (nI a), .null, .null]
/-- the script -/
abbrev l_S (sc : Nat → Int32) (LL : Nat) (I : Nat → Nat → Int32) : Prop := I 6000 = sc ∧ I 6001 0 = nI LL
def l_W (sc : Nat → Int32) (LL : Nat) (D : hnD) : Prop := ∃ (t t2 l l2 : Nat) (N : sp_N) (S : sp_Q) (U : sp_U) (V : sp_V) (K : sp_K) (L : sp_L) (T : sp_T) (nm pm : Nat → Nat), hs_Wo D.1 D.2.1 D.2.2 t t2 l l2 N S U V K L T nm pm ∧ l_S sc LL D.1
theorem l_W_of (h : hs_Wo I J R t t2 l l2 N S U V K L T nm pm) (hS : l_S sc LL I) : l_W sc LL (I, J, R) := ⟨t, t2, l, l2, N, S, U, V, K, L, T, nm, pm, h, hS⟩
/-- from the end of a case on -/
abbrev l_IH (kc ks : Nat) (sc : Nat → Int32) (LL a : Nat) : Prop := ∀ D : hnD, l_W sc LL D → hn_R false 60 kc ks hm_Law_law l_P 1642 (l_ls a) [] 213 D
theorem l_S_of {D' : hnD} (hS : l_S sc LL I) (h1 : D'.1 6000 = I 6000) (h2 : D'.1 6001 0 = I 6001 0) : l_S sc LL D'.1 := ⟨h1.trans hS.1, h2.trans hS.2⟩
theorem hn_E.scr {g : Bool} {d kc ks : Nat} {M : hnM} {av : List Value} {n : Nat} {D : hnD} {P : Option Value → Nat → hnD → Prop} (h : hn_E g d kc ks M av n D P) : hn_E g d kc ks M av n D (fun r n' D' => P r n' D' ∧ D'.1 6000 = D.1 6000 ∧ D'.1 6001 0 = D.1 6001 0) := by
  intro l hst dC dI ty ad b0 L xs
  have h1 := h l hst dC dI ty ad b0 L xs
  unfold Met at h1 ⊢
  refine MetFree.mono h1 (fun _ _ z => z) (fun _ _ _ _ _ z => z) ?_
  intro a st o t hp hq
  obtain ⟨⟨r, n', D', h2, h3, h4, h5, h6, hr0, hr1, h7⟩, h8⟩ := hq
  obtain ⟨-, -, -, -, -, p0, p1, -⟩ := hp
  exact ⟨⟨r, n', D', ⟨h2, hr0.trans p0.symm, hr1.trans p1.symm⟩, h3, h4, h5, h6, hr0, hr1, h7⟩, h8⟩
theorem l_callV {kc ks d1 : Nat} {M1 : hnM} {P1 : Option Value → hnD → Prop} {pc : Nat} {ls st : List Value} {D : hnD} {nx tg c k x b ci : Nat} {v : Value} {as : List Value}
    (hr : hn_lk (hn_rows hm_Law_law) pc = some (.invokevirtual x, 3, nx, tg, v, c, k)) (hy : hn_yl[c]? = some (hn_y M1)) (hok1 : hn_ok M1 = true) (hkd : hn_kd M1 = 1) (hci : (hn_cl[ci]?).map (fun q => q.1) = some (hn_y M1).cls) (hav : (st.take k).reverse = .ref b :: as) (hkb : hn_kind b = (0, ci)) (hbn : b < 213) (hna : as.length + 1 = hn_na M1) (hst : ((st.drop k).map fun v => v.category).sum ≤ 8)
    (hE : hn_F d1 M1 (.ref b :: as) D P1) (hdd : d1 < 60) (h : ∀ r D', P1 r D' → D'.1 6000 = D.1 6000 → D'.1 6001 0 = D.1 6001 0 → hn_R false 60 kc ks hm_Law_law l_P nx ls (r.toList ++ st.drop k) 213 D') : hn_R false 60 kc ks hm_Law_law l_P pc ls st 213 D :=
  hn_callV hr hy hok1 hkd hci hav hkb hbn hna hst (hn_E.scr (hE false 213 (Nat.le_of_ble_eq_true rfl))) hdd (Nat.zero_add _) (Nat.zero_add _) (fun _ _ _ _ q => nomatch q) (fun r n' D' q => by obtain ⟨⟨q1, q2⟩, q3, q4⟩ := q; subst q1; exact h r D' q2 q3 q4)
theorem l_ix {c : Nat} (h : a + c < 10000) : (nI a + nI c).toInt = ((a + c : Nat) : Int) := by
  rw [nI_add, nI_toInt (by omega)]
theorem l_sload {pc : Nat} {ls st : List Value} {nx tg c k j : Nat} {v : Value} {y : Int32} (hr : hn_lk (hn_rows hm_Law_law) pc = some (.iaload, 1, nx, tg, v, c, k)) (hS : l_S sc LL I) (hL : LL ≤ 3584) (hi : y.toInt = (j : Int)) (hj : j < LL) (h : hn_R false 60 kc ks hm_Law_law l_P nx ls (.int (sc j) :: st) 213 (I, J, R)) : hn_R false 60 kc ks hm_Law_law l_P pc ls (.int y :: .ref 6000 :: st) 213 (I, J, R) := by
  refine hn_sload (D := (I, J, R)) hr hi ?_ ?_ ?_
  · show (j : Int) < (I 6001 0).toInt
    rw [hS.2, nI_toInt (by omega)]
    omega
  · intro L9 e9
    have e9 : I 6001 0 = nI L9 := e9
    rw [hS.2] at e9
    by_cases h9 : L9 < 2147483648
    · have := (hi_nIe (by omega) h9).mp e9
      omega
    · omega
  · show hn_R false 60 kc ks hm_Law_law l_P nx ls (.int (I 6000 j) :: st) 213 (I, J, R)
    rw [hS.1]
    exact h
/-- a truth value made of an int -/
theorem l_bool {pc p1 p2 p0 pe : Nat} {ls st : List Value} {D : hnD} {x b : Int32} {t2 t4 c1 c2 c3 c4 k1 k2 k3 k4 n2 : Nat} {v1 v3 : Value} {z1 z3 : Int}
    (hr : hn_lk (hn_rows hm_Law_law) pc = some (.ifCond .eq z1, 3, p1, p0, v1, c1, k1)) (h1 : hn_lk (hn_rows hm_Law_law) p1 = some (.iconst 1, 1, p2, t2, .int 1, c2, k2)) (h2 : hn_lk (hn_rows hm_Law_law) p2 = some (.goto z3, 3, n2, pe, v3, c3, k3)) (h0 : hn_lk (hn_rows hm_Law_law) p0 = some (.iconst 0, 1, pe, t4, .int 0, c4, k4))
    (hb : b = if x = 0 then 0 else 1) (h : hn_R false 60 kc ks hm_Law_law l_P pe ls (.int b :: st) 213 D) : hn_R false 60 kc ks hm_Law_law l_P pc ls (.int x :: st) 213 D := by
  refine hn_if_eq hr (fun c => ?_) (fun c => ?_)
  · rw [if_pos c] at hb
    subst hb
    exact hn_iconst h0 h
  · rw [if_neg c] at hb
    subst hb
    exact hn_iconst h1 (hn_goto h2 h)
theorem l_b01 {x : Int32} : (if x = 0 then (0 : Int32) else 1) = 0 ∨ (if x = 0 then (0 : Int32) else 1) = 1 := by
  by_cases h : x = 0
  · exact Or.inl (if_pos h)
  · exact Or.inr (if_neg h)
/-- more locals than are wanted -/
theorem hn_lp {g : Bool} {d kc ks : Nat} {M : hnM} {P : Option Value → Nat → hnD → Prop} {pc : Nat} {ls ls' st : List Value} {n : Nat} {D : hnD} (h : hn_R g d kc ks M P pc ls' st n D) (h1 : hn_le ls' ls) : hn_R g d kc ks M P pc ls st n D := by
  intro p l e R s m args below meth cd dC dI ty ad b0 L xs Q C F H locs cells slots lsA hS hc hs hL
  exact h p l e R s m args below meth cd dC dI ty ad b0 L xs Q C F H locs cells slots lsA hS hc hs ⟨hL.1, hL.2.1, fun i v hi hv => hL.2.2 i v (hn_le_get h1 hi hv) hv⟩
theorem l_63 (x : Int32) : ∃ k, k < 64 ∧ x &&& 63 = nI k := by
  refine ⟨(x &&& 63).toBitVec.toNat, ?_, ?_⟩
  · have h : (x &&& 63).toBitVec.toNat = x.toBitVec.toNat &&& 63 := by rw [Int32.toBitVec_and, BitVec.toNat_and]; rfl
    rw [h]
    exact Nat.lt_succ_of_le Nat.and_le_right
  · exact Int32.toBitVec_inj.mp (BitVec.eq_of_toNat_eq (by show _ = (BitVec.ofNat 32 _).toNat; rw [BitVec.toNat_ofNat]; exact (Nat.mod_eq_of_lt (BitVec.isLt _)).symm))
theorem W_J212 {v : Int64} (h : hs_Wo I J R t t2 l l2 N S U V K L T nm pm) : hs_Wo I (hn_u J 212 0 v) R t t2 l l2 N S U V K L T nm pm := by
  obtain ⟨hX, ⟨b0, pm0, sm, lm, vm, km, tm, nt, wm⟩, hw⟩ := h
  exact ⟨WX_same hX (fun _ _ => rfl) (fun b hb => hn_u_ne _ _ _ (by omega)), ⟨b0, pm0, sm, lm, vm, km, tm, hs_Nt_c nt rfl rfl (hn_u_ne _ _ _ (by omega)), hs_Wm_c wm (hn_u_ne _ _ _ (by omega))⟩, hw⟩
/-- a deed, done on both sides -/
theorem W_uu {I2 I3 : Nat → Nat → Int32} {U2 : sp_U} (hX : hs_WX I2 J R t t2 l l2 N S U2 V K L T nm pm) (e3 : ∀ b, b < 188 → I3 b = I2 b) (hM : hs_WM I3 J R N S U2 V K L T nm pm) (hw : hs_Ww N S U V K L T nm pm) (hU : hs_Uw N U2) : hs_Wo I3 J R t t2 l l2 N S U2 V K L T nm pm :=
  ⟨WX_same hX e3 (fun _ _ => rfl), hM, hw.1, hw.2.1, hw.2.2.1, hU, hw.2.2.2.2⟩
end HNlworld
