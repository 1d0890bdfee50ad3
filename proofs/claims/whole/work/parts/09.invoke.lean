section HNinv
theorem hn_take {st : List Value} {na : Nat} {as : List Value} {b : Nat} (ad : Nat → Nat) (h : (st.take na).reverse = .ref b :: as) : st.map (hn_v ad) = (as.map (hn_v ad)).reverse ++ .ref (ad b) :: (st.drop na).map (hn_v ad) := by
  have h1 : st.take na = as.reverse ++ [.ref b] := by
    have := congrArg List.reverse h
    rw [List.reverse_reverse, List.reverse_cons] at this
    exact this
  conv => lhs; rw [← List.take_append_drop na st, h1]
  simp [hn_v, List.map_reverse]
theorem hn_takeS {st : List Value} {na : Nat} {as : List Value} (ad : Nat → Nat) (h : (st.take na).reverse = as) : st.map (hn_v ad) = (as.map (hn_v ad)).reverse ++ (st.drop na).map (hn_v ad) := by
  have h1 : st.take na = as.reverse := by
    have := congrArg List.reverse h
    rw [List.reverse_reverse] at this
    exact this
  conv => lhs; rw [← List.take_append_drop na st, h1]
  simp [List.map_reverse]
theorem hn_okcsx {M : hnM} (h : hn_okx M = true) : Cond.code (hn_y M) (hn_b M) (hn_mx M) (hn_ret M) ∈ hn_T ∧ (hn_kd M = 0 → Cond.static (hn_y M) ∈ hn_T) ∧ (¬ hn_kd M = 0 → Cond.instanceMethod (hn_y M) ∈ hn_T) ∧ (hn_kd M = 1 → Cond.selects (hn_y M).cls (hn_y M) (hn_y M) ∈ hn_T) ∧ Cond.initialized (hn_y M).cls ∈ hn_T ∧ ((hn_y M).cls ≠ "java/lang/invoke/MethodHandle" ∧ (hn_y M).cls ≠ "java/lang/invoke/VarHandle") ∧ (parseMethodDescriptor (hn_y M).desc).map (fun d => d.parameters.length) = some (if hn_kd M = 0 then hn_na M else hn_na M - 1) ∧ (hn_kd M = 2 → (hn_y M).name = "<init>") ∧ hn_mx M ≤ 30 := by
  simp only [hn_okx, hn_okc, Bool.and_eq_true, decide_eq_true_eq] at h
  obtain ⟨hokr, ⟨⟨⟨⟨⟨⟨⟨⟨⟨q1, q2⟩, q3⟩, q4⟩, q5⟩, q6⟩, q7⟩, q8⟩, q9⟩, q10⟩⟩ := h
  exact ⟨hn_at_in q1, fun h => by rw [if_pos h] at q2; exact hn_at_in q2, fun h => by rw [if_neg h] at q2; exact hn_at_in q2, fun h => by rw [if_pos h] at q3; exact hn_at_in q3, hn_at_in q4, q5, q6, q8, q9⟩
theorem hn_okcs {M : hnM} (h : hn_ok M = true) : Cond.code (hn_y M) (hn_b M) (hn_mx M) (hn_ret M) ∈ hn_T ∧ (hn_kd M = 0 → Cond.static (hn_y M) ∈ hn_T) ∧ (¬ hn_kd M = 0 → Cond.instanceMethod (hn_y M) ∈ hn_T) ∧ (hn_kd M = 1 → Cond.selects (hn_y M).cls (hn_y M) (hn_y M) ∈ hn_T) ∧ Cond.initialized (hn_y M).cls ∈ hn_T ∧ ((hn_y M).cls ≠ "java/lang/invoke/MethodHandle" ∧ (hn_y M).cls ≠ "java/lang/invoke/VarHandle") ∧ (parseMethodDescriptor (hn_y M).desc).map (fun d => d.parameters.length) = some (if hn_kd M = 0 then hn_na M else hn_na M - 1) ∧ (hn_kd M = 2 → (hn_y M).name = "<init>") ∧ hn_mx M ≤ 30 := hn_okcsx (hn_ok_x h)
theorem hn_callV {g : Bool} {d d1 kc ks kc1 ks1 kc2 ks2 : Nat} {M M1 : hnM} {P P1 : Option Value → Nat → hnD → Prop} {pc : Nat} {ls st : List Value} {n : Nat} {D : hnD} {nx tg c k x b ci : Nat} {v : Value} {as : List Value}
    (hr : hn_lk (hn_rows M) pc = some (.invokevirtual x, 3, nx, tg, v, c, k)) (hy : hn_yl[c]? = some (hn_y M1)) (hok1 : hn_ok M1 = true) (hkd : hn_kd M1 = 1) (hci : (hn_cl[ci]?).map (fun q => q.1) = some (hn_y M1).cls) (hav : (st.take k).reverse = .ref b :: as) (hkb : hn_kind b = (0, ci)) (hbn : b < n) (hna : as.length + 1 = hn_na M1) (hst : ((st.drop k).map fun v => v.category).sum ≤ 8)
    (hE : hn_E g d1 kc1 ks1 M1 (.ref b :: as) n D P1) (hdd : d1 < d) (hk1 : kc1 + kc2 = kc) (hk2 : ks1 + ks2 = ks) (hg : ∀ r n' D', P1 r n' D' → g = true → n' = n + kc1) (h : ∀ r n' D', P1 r n' D' → hn_R g d kc2 ks2 M P nx ls (r.toList ++ st.drop k) n' D') : hn_R g d kc ks M P pc ls st n D := by
  intro p l e R s m args below meth cd dC dI ty ad b0 L xs Q C F H locs cells slots lsA hS hc hs hL
  have C0 := C
  obtain ⟨hx, hb, hrt, hml, hown, hts, hlk, hin, hK, had, hb0, hK0, hfr, hlo, hok, hX, hXb⟩ := C0
  have hS0 := hS
  obtain ⟨hP, hSS, hn5, hgs, hr0, hr1⟩ := hS0
  obtain ⟨hd, hnx, hv⟩ := hn_row hok hr
  simp only [hn_ex, hy] at hv
  obtain ⟨q1, q2, q3, q4, q5, q6, q7, q8, q9⟩ := hn_okcs hok1
  refine hn_sz (fun hsz => ?_)
  cases hq : hn_cl[ci]? with
  | none => rw [hq] at hci; cases hci
  | some q =>
    rw [hq] at hci
    have hci : q.1 = (hn_y M1).cls := Option.some.inj hci
    have hrec := va_recv hK hP (ci := ci) (q0 := b) hq (by rw [hn_w_get hbn, hn_cell_o hkb])
    rw [hci] at hrec
    refine hn_back C F hS hc hs hL hk1 hk2 hnx hg h (va_runV (Ts := hn_T) (own := (hn_y M).cls) (C := (hn_y M1).cls) (b := ad b) (As := as.map (hn_v ad)) (n := as.length) ⟨hx, hb, hml, hown, hts⟩ (hE l F.2.1 dC dI ty ad b0 L xs) ⟨callB_of (Ts := hn_T) _ hts (hn_good hok1 (fun _ z => z)) rfl rfl rfl (hts _ q5) (hts _ (hn_at_in hv)) ⟨q6.1, q6.2, by rw [q7, if_neg (by omega)]; congr 1; omega⟩ ⟨Nat.le_trans hdd hfr, by show 8 + (hn_mx M1 + 11) + 64 * d1 ≤ R.locals; omega⟩, hts _ (q3 (by omega)), hts _ (q4 hkd)⟩ ⟨hn_blind, hrec, hn_pre (av := .ref b :: as) C hS hsz⟩ rfl (by simp) hL.1 (hn_take ad hav) ?_ hd ⟨by omega, by omega⟩)
    rw [hn_sum]
    show 2 * 0 + _ ≤ 8
    omega
theorem hn_callS {g : Bool} {d d1 kc ks kc1 ks1 kc2 ks2 : Nat} {M M1 : hnM} {P P1 : Option Value → Nat → hnD → Prop} {pc : Nat} {ls st : List Value} {n : Nat} {D : hnD} {nx tg c k x : Nat} {v : Value} {as : List Value}
    (hr : hn_lk (hn_rows M) pc = some (.invokestatic x, 3, nx, tg, v, c, k)) (hy : hn_yl[c]? = some (hn_y M1)) (hok1 : hn_ok M1 = true) (hkd : hn_kd M1 = 0) (hav : (st.take k).reverse = as) (hna : as.length = hn_na M1) (hst : ((st.drop k).map fun v => v.category).sum ≤ 8)
    (hE : hn_E g d1 kc1 ks1 M1 as n D P1) (hdd : d1 < d) (hk1 : kc1 + kc2 = kc) (hk2 : ks1 + ks2 = ks) (hg : ∀ r n' D', P1 r n' D' → g = true → n' = n + kc1) (h : ∀ r n' D', P1 r n' D' → hn_R g d kc2 ks2 M P nx ls (r.toList ++ st.drop k) n' D') : hn_R g d kc ks M P pc ls st n D := by
  intro p l e R s m args below meth cd dC dI ty ad b0 L xs Q C F H locs cells slots lsA hS hc hs hL
  have C0 := C
  obtain ⟨hx, hb, hrt, hml, hown, hts, hlk, hin, hK, had, hb0, hK0, hfr, hlo, hok, hX, hXb⟩ := C0
  have hS0 := hS
  obtain ⟨hP, hSS, hn5, hgs, hr0, hr1⟩ := hS0
  obtain ⟨hd, hnx, hv⟩ := hn_row hok hr
  simp only [hn_ex, hy] at hv
  obtain ⟨q1, q2, q3, q4, q5, q6, q7, q8, q9⟩ := hn_okcs hok1
  refine hn_sz (fun hsz => ?_)
  refine hn_back C F hS hc hs hL hk1 hk2 hnx hg h (va_runS (Ts := hn_T) (own := (hn_y M).cls) (As := as.map (hn_v ad)) (n := as.length) ⟨hx, hb, hml, hown, hts⟩ (hE l F.2.1 dC dI ty ad b0 L xs) ⟨callB_of (Ts := hn_T) _ hts (hn_good hok1 (fun _ z => z)) rfl rfl rfl (hts _ q5) (hts _ (hn_at_in hv)) ⟨q6.1, q6.2, by rw [q7, if_pos hkd]; congr 1; omega⟩ ⟨Nat.le_trans hdd hfr, by show 8 + (hn_mx M1 + 11) + 64 * d1 ≤ R.locals; omega⟩, hts _ (q2 hkd)⟩ ⟨hn_blind, hn_pre (av := as) C hS hsz⟩ rfl (by simp) hL.1 (hn_takeS ad hav) ?_ hd ⟨by omega, by omega⟩)
  rw [hn_sum]
  show 2 * 0 + _ ≤ 8
  omega
theorem hn_callI {g : Bool} {d d1 kc ks kc1 ks1 kc2 ks2 : Nat} {M M1 : hnM} {P P1 : Option Value → Nat → hnD → Prop} {pc : Nat} {ls st : List Value} {n : Nat} {D : hnD} {nx tg c k x b : Nat} {v : Value} {as : List Value}
    (hr : hn_lk (hn_rows M) pc = some (.invokespecial x, 3, nx, tg, v, c, k)) (hy : hn_yl[c]? = some (hn_y M1)) (hc7 : ¬ c = 7777) (hok1 : hn_ok M1 = true) (hkd : hn_kd M1 = 2) (hret : hn_ret M1 = none) (hav : (st.take k).reverse = .ref b :: as) (hna : as.length + 1 = hn_na M1) (hst : ((st.drop k).map fun v => v.category).sum ≤ 8)
    (hE : hn_E g d1 kc1 ks1 M1 (.ref b :: as) n D P1) (hdd : d1 < d) (hk1 : kc1 + kc2 = kc) (hk2 : ks1 + ks2 = ks) (hg : ∀ r n' D', P1 r n' D' → g = true → n' = n + kc1) (h : ∀ r n' D', P1 r n' D' → hn_R g d kc2 ks2 M P nx ls (r.toList ++ st.drop k) n' D') : hn_R g d kc ks M P pc ls st n D := by
  intro p l e R s m args below meth cd dC dI ty ad b0 L xs Q C F H locs cells slots lsA hS hc hs hL
  have C0 := C
  obtain ⟨hx, hb, hrt, hml, hown, hts, hlk, hin, hK, had, hb0, hK0, hfr, hlo, hok, hX, hXb⟩ := C0
  have hS0 := hS
  obtain ⟨hP, hSS, hn5, hgs, hr0, hr1⟩ := hS0
  obtain ⟨hd, hnx, hv⟩ := hn_row hok hr
  simp only [hn_ex, if_neg hc7, hy] at hv
  obtain ⟨q1, q2, q3, q4, q5, q6, q7, q8, q9⟩ := hn_okcs hok1
  have hE1 := hE l F.2.1 dC dI ty ad b0 L xs
  have hG := hn_good (Ts := hn_T) hok1 (fun _ z => z)
  have hws : hn_ws M1 = Cond.code (hn_y M1) (hn_b M1) (hn_mx M1) none :: hn_T := by rw [← hret]; rfl
  refine hn_sz (fun hsz => ?_)
  have hpre := hn_pre (av := .ref b :: as) C hS hsz
  have hstk : 2 * (F0 m pc lsA (st.map (hn_v ad))).monitorRoom + (((st.drop k).map (hn_v ad)).map fun v => v.category).sum ≤ 8 := by
    rw [hn_sum]
    show 2 * 0 + _ ≤ 8
    omega
  have hroom : 8 + (hn_mx M1 + 11) + 64 * d1 ≤ R.locals := by omega
  have hnp : (parseMethodDescriptor (hn_y M1).desc).map (fun d => d.parameters.length) = some as.length := by rw [q7, if_neg (by omega)]; congr 1; omega
  split at hv
  · exact hn_back C F hS hc hs hL hk1 hk2 hnx hg h (va_runI (Ts := hn_T) (own := (hn_y M).cls) (b := ad b) (As := as.map (hn_v ad)) (n := as.length) ⟨hx, hb, hml, hown, hts⟩ hE1 ⟨callB_of (Ts := hn_T) _ hts hG hws rfl rfl (hts _ q5) (hts _ (hn_at_in hv)) ⟨q6.1, q6.2, hnp⟩ ⟨Nat.le_trans hdd hfr, hroom⟩, q8 hkd, hts _ (q3 (by omega))⟩ ⟨hn_blind, hpre⟩ rfl (by simp) hL.1 (hn_take ad hav) hstk hd ⟨by omega, by omega⟩)
  · have hnw : va_Nw (.methodLinkNest (hn_y M).cls x (hn_y M1) "HammockNet") s := hK0.2.2.2.2.1 _ (List.mem_of_getElem? (of_decide_eq_true hv))
    exact hn_back C F hS hc hs hL hk1 hk2 hnx hg h (va_runIN (Ts := hn_T) (own := (hn_y M).cls) (b := ad b) (As := as.map (hn_v ad)) (n := as.length) ⟨hx, hb, hml, hown, hts⟩ hE1 ⟨va_cnB (Ts := hn_T) _ hts hG hws rfl rfl hnw (hts _ q5) ⟨q6.1, q6.2, hnp⟩ ⟨Nat.le_trans hdd hfr, hroom⟩, q8 hkd, hts _ (q3 (by omega))⟩ ⟨hn_blind, hpre⟩ rfl (by simp) hL.1 (hn_take ad hav) hstk hd ⟨by omega, by omega⟩)
end HNinv
