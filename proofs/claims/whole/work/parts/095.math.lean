section HNmath
theorem hn_w_max : Cond.code Lib.Math.max.name Lib.Math.max.code 2 (some .int) ∈ hn_T ∧ Cond.static Lib.Math.max.name ∈ hn_T ∧ Cond.initialized "java/lang/Math" ∈ hn_T := ⟨hn_at_in (i := 802) (by decide +kernel), hn_at_in (i := 801) (by decide +kernel), hn_at_in (i := 131) (by decide +kernel)⟩
theorem hn_mmax {g : Bool} {d kc ks : Nat} {M : hnM} {P : Option Value → Nat → hnD → Prop} {pc : Nat} {ls st : List Value} {n : Nat} {D : hnD} {nx tg c k : Nat} {v : Value} {x y : Int32} {z : Nat} (hr : hn_lk (hn_rows M) pc = some (.invokestatic z, 3, nx, tg, v, c, k)) (hy : hn_yl[c]? = some Lib.Math.max.name) (hd1 : 1 ≤ d) (hst : (st.map fun v => v.category).sum ≤ 8) (h : hn_R g d kc ks M P nx ls (.int (if x < y then y else x) :: st) n D) : hn_R g d kc ks M P pc ls (.int y :: .int x :: st) n D := by
  intro p l e R s m args below meth cd dC dI ty ad b0 L xs Q C F H locs cells slots lsA hS hc hs hL
  obtain ⟨hx, hb, hrt, hml, hown, hts, hlk, hin, hK, had, hb0, hK0, hfr, hlo, hok, hX, hXb⟩ := id C
  obtain ⟨hd, rfl, hv⟩ := hn_row hok hr
  simp only [hn_ex, hy] at hv
  refine va_mmax hx hb (by rw [hml]; exact hL.1.symm) hown (hts _ (hn_at_in hv)) (hts _ hn_w_max.2.1) (hts _ hn_w_max.2.2) (hts _ hn_w_max.1) (by omega) ?_ (by omega) (by omega) hd (h p l e R s m args below meth cd dC dI ty ad b0 L xs Q C F H locs cells slots lsA hS hc hs hL)
  have h9 := hn_sum (ad := ad) st
  rw [h9]
  omega
theorem hn_w_min : Cond.code Lib.Math.min.name Lib.Math.min.code 2 (some .int) ∈ hn_T ∧ Cond.static Lib.Math.min.name ∈ hn_T ∧ Cond.initialized "java/lang/Math" ∈ hn_T := ⟨hn_at_in (i := 780) (by decide +kernel), hn_at_in (i := 779) (by decide +kernel), hn_at_in (i := 131) (by decide +kernel)⟩
theorem hn_mmin {g : Bool} {d kc ks : Nat} {M : hnM} {P : Option Value → Nat → hnD → Prop} {pc : Nat} {ls st : List Value} {n : Nat} {D : hnD} {nx tg c k : Nat} {v : Value} {x y : Int32} {z : Nat} (hr : hn_lk (hn_rows M) pc = some (.invokestatic z, 3, nx, tg, v, c, k)) (hy : hn_yl[c]? = some Lib.Math.min.name) (hd1 : 1 ≤ d) (hst : (st.map fun v => v.category).sum ≤ 8) (h : hn_R g d kc ks M P nx ls (.int (if y < x then y else x) :: st) n D) : hn_R g d kc ks M P pc ls (.int y :: .int x :: st) n D := by
  intro p l e R s m args below meth cd dC dI ty ad b0 L xs Q C F H locs cells slots lsA hS hc hs hL
  obtain ⟨hx, hb, hrt, hml, hown, hts, hlk, hin, hK, had, hb0, hK0, hfr, hlo, hok, hX, hXb⟩ := id C
  obtain ⟨hd, rfl, hv⟩ := hn_row hok hr
  simp only [hn_ex, hy] at hv
  refine va_mmin hx hb (by rw [hml]; exact hL.1.symm) hown (hts _ (hn_at_in hv)) (hts _ hn_w_min.2.1) (hts _ hn_w_min.2.2) (hts _ hn_w_min.1) (by omega) ?_ (by omega) (by omega) hd (h p l e R s m args below meth cd dC dI ty ad b0 L xs Q C F H locs cells slots lsA hS hc hs hL)
  have h9 := hn_sum (ad := ad) st
  rw [h9]
  omega
end HNmath
