section HNmore
theorem hn_wload {g : Bool} {d kc ks : Nat} {M : hnM} {P : Option Value → Nat → hnD → Prop} {pc : Nat} {ls st : List Value} {n : Nat} {D : hnD} {nx tg c k : Nat} {v : Value} {i : Int32} {j : Nat} (hr : hn_lk (hn_rows M) pc = some (.aaload, 1, nx, tg, v, c, k)) (hi : i.toInt = (j : Int)) (hz : j < 26) (h : hn_R g d kc ks M P nx ls (.ref (5000 + j) :: st) n D) : hn_R g d kc ks M P pc ls (.int i :: .ref 5100 :: st) n D := by
  intro p l e R s m args below meth cd dC dI ty ad b0 L xs Q C F H locs cells slots lsA hS hc hs hL
  obtain ⟨hx, hb, hrt, hml, hown, hts, hlk, hin, hK, had, hb0, hK0, hfr, hlo, hok, hX, hXb⟩ := id C
  obtain ⟨hP, hSS, hn5, hgs, hr0, hr1⟩ := id hS
  obtain ⟨hd, rfl, -⟩ := hn_row hok hr
  obtain ⟨h1, h2⟩ := hn_ix_in hi hz
  exact vb_tq hx hb hK0.2.2.2.1 hSS h1 (by rw [h2]; rfl) hd (h p l e R s m args below meth cd dC dI ty ad b0 L xs Q C F H locs cells slots lsA hS hc hs hL)
theorem hn_wlen {g : Bool} {d kc ks : Nat} {M : hnM} {P : Option Value → Nat → hnD → Prop} {pc : Nat} {ls st : List Value} {n : Nat} {D : hnD} {nx tg c k : Nat} {v : Value} (hr : hn_lk (hn_rows M) pc = some (.arraylength, 1, nx, tg, v, c, k)) (h : hn_R g d kc ks M P nx ls (.int 26 :: st) n D) : hn_R g d kc ks M P pc ls (.ref 5100 :: st) n D := by
  intro p l e R s m args below meth cd dC dI ty ad b0 L xs Q C F H locs cells slots lsA hS hc hs hL
  obtain ⟨hx, hb, hrt, hml, hown, hts, hlk, hin, hK, had, hb0, hK0, hfr, hlo, hok, hX, hXb⟩ := id C
  obtain ⟨hP, hSS, hn5, hgs, hr0, hr1⟩ := id hS
  obtain ⟨hd, rfl, -⟩ := hn_row hok hr
  exact va_tlen hx hb hK0.2.2.2.1 hSS rfl hd (h p l e R s m args below meth cd dC dI ty ad b0 L xs Q C F H locs cells slots lsA hS hc hs hL)
theorem hn_acmp_eq {g : Bool} {d kc ks : Nat} {M : hnM} {P : Option Value → Nat → hnD → Prop} {pc : Nat} {ls st : List Value} {n : Nat} {D : hnD} {nx tg c k : Nat} {v : Value} {a b : Nat} {z : Int} (hr : hn_lk (hn_rows M) pc = some (.if_acmp .eq z, 3, nx, tg, v, c, k)) (ha : 5000 ≤ a ∧ a < 5026) (hb5 : 5000 ≤ b ∧ b < 5026) (ht : a = b → hn_R g d kc ks M P tg ls (st) n D) (hf : ¬ a = b → hn_R g d kc ks M P nx ls (st) n D) : hn_R g d kc ks M P pc ls (.ref b :: .ref a :: st) n D := by
  intro p l e R s m args below meth cd dC dI ty ad b0 L xs Q C F H locs cells slots lsA hS hc hs hL
  obtain ⟨hx, hb, hrt, hml, hown, hts, hlk, hin, hK, had, hb0, hK0, hfr, hlo, hok, hX, hXb⟩ := id C
  obtain ⟨hP, hSS, hn5, hgs, hr0, hr1⟩ := id hS
  obtain ⟨hd, rfl, hv⟩ := hn_row hok hr
  have key : some (ad a) = some (ad b) ↔ a = b := by
    constructor
    · intro h9
      have h9 := Option.some.inj h9
      have h8 := hK0.1.2 (a - 5000) (b - 5000) (show a - 5000 < 26 by omega) (show b - 5000 < 26 by omega) (by show ad (5000 + (a - 5000)) = ad (5000 + (b - 5000)); rw [show 5000 + (a - 5000) = a by omega, show 5000 + (b - 5000) = b by omega]; exact h9)
      omega
    · intro h9; rw [h9]
  exact lv_acmp_eq hx hb (rx := some (ad a)) (ry := some (ad b)) hd (of_decide_eq_true hv) (fun q => ht (key.mp q) p l e R s m args below meth cd dC dI ty ad b0 L xs Q C F H locs cells slots lsA hS hc hs hL) (fun q => hf (fun z => q (key.mpr z)) p l e R s m args below meth cd dC dI ty ad b0 L xs Q C F H locs cells slots lsA hS hc hs hL)
theorem hn_acmp_ne {g : Bool} {d kc ks : Nat} {M : hnM} {P : Option Value → Nat → hnD → Prop} {pc : Nat} {ls st : List Value} {n : Nat} {D : hnD} {nx tg c k : Nat} {v : Value} {a b : Nat} {z : Int} (hr : hn_lk (hn_rows M) pc = some (.if_acmp .ne z, 3, nx, tg, v, c, k)) (ha : 5000 ≤ a ∧ a < 5026) (hb5 : 5000 ≤ b ∧ b < 5026) (ht : ¬ a = b → hn_R g d kc ks M P tg ls (st) n D) (hf : a = b → hn_R g d kc ks M P nx ls (st) n D) : hn_R g d kc ks M P pc ls (.ref b :: .ref a :: st) n D := by
  intro p l e R s m args below meth cd dC dI ty ad b0 L xs Q C F H locs cells slots lsA hS hc hs hL
  obtain ⟨hx, hb, hrt, hml, hown, hts, hlk, hin, hK, had, hb0, hK0, hfr, hlo, hok, hX, hXb⟩ := id C
  obtain ⟨hP, hSS, hn5, hgs, hr0, hr1⟩ := id hS
  obtain ⟨hd, rfl, hv⟩ := hn_row hok hr
  have key : some (ad a) = some (ad b) ↔ a = b := by
    constructor
    · intro h9
      have h9 := Option.some.inj h9
      have h8 := hK0.1.2 (a - 5000) (b - 5000) (show a - 5000 < 26 by omega) (show b - 5000 < 26 by omega) (by show ad (5000 + (a - 5000)) = ad (5000 + (b - 5000)); rw [show 5000 + (a - 5000) = a by omega, show 5000 + (b - 5000) = b by omega]; exact h9)
      omega
    · intro h9; rw [h9]
  exact lv_acmp_ne hx hb (rx := some (ad a)) (ry := some (ad b)) hd (of_decide_eq_true hv) (fun q => ht (fun z => q (key.mpr z)) p l e R s m args below meth cd dC dI ty ad b0 L xs Q C F H locs cells slots lsA hS hc hs hL) (fun q => hf (key.mp q) p l e R s m args below meth cd dC dI ty ad b0 L xs Q C F H locs cells slots lsA hS hc hs hL)
theorem hn_ireturn {g : Bool} {d kc ks : Nat} {M : hnM} {P : Option Value → Nat → hnD → Prop} {pc : Nat} {ls st : List Value} {n : Nat} {D : hnD} {nx tg c k : Nat} {v : Value} {y : Int32} (hr : hn_lk (hn_rows M) pc = some (.ireturn, 1, nx, tg, v, c, k)) (hn : hn_rn (hn_ret M) (some (.int y))) (h : P (some (.int y)) n D) : hn_R g d kc ks M P pc ls (.int y :: []) n D := by
  intro p l e R s m args below meth cd dC dI ty ad b0 L xs Q C F H locs cells slots lsA hS hc hs hL
  obtain ⟨hx, hb, hrt, hml, hown, hts, hlk, hin, hK, had, hb0, hK0, hfr, hlo, hok, hX, hXb⟩ := id C
  obtain ⟨hP, hSS, hn5, hgs, hr0, hr1⟩ := id hS
  obtain ⟨hd, rfl, -⟩ := hn_row hok hr
  exact F.1 _ n D h hn pc lsA H locs cells slots hd hS.gl (by omega) (by omega)
theorem hn_lreturn {g : Bool} {d kc ks : Nat} {M : hnM} {P : Option Value → Nat → hnD → Prop} {pc : Nat} {ls st : List Value} {n : Nat} {D : hnD} {nx tg c k : Nat} {v : Value} {y : Int64} (hr : hn_lk (hn_rows M) pc = some (.lreturn, 1, nx, tg, v, c, k)) (hn : hn_rn (hn_ret M) (some (.long y))) (h : P (some (.long y)) n D) : hn_R g d kc ks M P pc ls (.long y :: []) n D := by
  intro p l e R s m args below meth cd dC dI ty ad b0 L xs Q C F H locs cells slots lsA hS hc hs hL
  obtain ⟨hx, hb, hrt, hml, hown, hts, hlk, hin, hK, had, hb0, hK0, hfr, hlo, hok, hX, hXb⟩ := id C
  obtain ⟨hP, hSS, hn5, hgs, hr0, hr1⟩ := id hS
  obtain ⟨hd, rfl, -⟩ := hn_row hok hr
  exact F.1 _ n D h hn pc lsA H locs cells slots hd hS.gl (by omega) (by omega)
theorem hn_return_ {g : Bool} {d kc ks : Nat} {M : hnM} {P : Option Value → Nat → hnD → Prop} {pc : Nat} {ls st : List Value} {n : Nat} {D : hnD} {nx tg c k : Nat} {v : Value} (hr : hn_lk (hn_rows M) pc = some (.return_, 1, nx, tg, v, c, k)) (hn : hn_rn (hn_ret M) none) (h : P none n D) : hn_R g d kc ks M P pc ls ([]) n D := by
  intro p l e R s m args below meth cd dC dI ty ad b0 L xs Q C F H locs cells slots lsA hS hc hs hL
  obtain ⟨hx, hb, hrt, hml, hown, hts, hlk, hin, hK, had, hb0, hK0, hfr, hlo, hok, hX, hXb⟩ := id C
  obtain ⟨hP, hSS, hn5, hgs, hr0, hr1⟩ := id hS
  obtain ⟨hd, rfl, -⟩ := hn_row hok hr
  exact F.1 _ n D h hn pc lsA H locs cells slots hd hS.gl (by omega) (by omega)
theorem hn_throw {g : Bool} {d kc ks : Nat} {M : hnM} {P : Option Value → Nat → hnD → Prop} {pc : Nat} {ls : List Value} {n : Nat} {D : hnD} {r : hnR} (hr : hn_lk (hn_rows M) pc = some r) (hst : hn_st r = true) (h1 : 1 ≤ kc) (h6 : 6 ≤ ks) (h : P (some .null) n D) : hn_R g d kc ks M P pc ls [] n D := by
  intro p l e R s m args below meth cd dC dI ty ad b0 L xs Q C F H locs cells slots lsA hS hc hs hL
  exact F.2.2.1 n D pc r h hr hst lsA H locs cells slots hS.gl (by omega) (by omega) hL.1
theorem hn_aastore {g : Bool} {d kc ks : Nat} {M : hnM} {P : Option Value → Nat → hnD → Prop} {pc : Nat} {ls st : List Value} {n : Nat} {D : hnD} {nx tg c k : Nat} {v : Value} {a j z y t cy : Nat} {i : Int32} (hr : hn_lk (hn_rows M) pc = some (.aastore, 1, nx, tg, v, c, k)) (ha : hn_kind a = (t, z)) (ht : (t = 5 ∧ cy = 5) ∨ (t = 6 ∧ cy = 6)) (hn : a < n) (hi : i.toInt = (j : Int)) (hz : j < z) (hy : y < n) (hky : hn_kind y = (0, cy)) (h : hn_R g d kc ks M P nx ls (st) n (D.1, D.2.1, hn_u D.2.2 a j (some y))) : hn_R g d kc ks M P pc ls (.ref y :: .int i :: .ref a :: st) n D := by
  intro p l e R s m args below meth cd dC dI ty ad b0 L xs Q C F H locs cells slots lsA hS hc hs hL
  obtain ⟨hx, hb, hrt, hml, hown, hts, hlk, hin, hK, had, hb0, hK0, hfr, hlo, hok, hX, hXb⟩ := id C
  obtain ⟨hP, hSS, hn5, hgs, hr0, hr1⟩ := id hS
  obtain ⟨hd, rfl, -⟩ := hn_row hok hr
  obtain ⟨h1, h2⟩ := hn_ix_in hi hz
  have hD := hn_wD (ty := ty) (D := D) had hn5
  have hcell : ∀ t, hn_kind a = (t, z) → t = 5 ∨ t = 6 ∨ t = 7 → (Sum.inl (ty t, z, .inr (.inr (.inr (.inr (va_up (fun j => (D.2.2 a j).map ad) i.toNatClampNeg (some (ad y))))))) : va_E) = hn_cell ty ad (D.1, D.2.1, hn_u D.2.2 a j (some y)) a := by
    intro t ha ht
    rw [hn_cell_q ha ht, h2]
    congr 7
    funext q
    by_cases hq : q = j
    · subst hq; simp [va_up, hn_u_eq]
    · simp [va_up, hn_u_eq, hq]
  have go : ∀ (H1 : Heap) (locs1 : List Loc), va_P (dC, dI) hn_cl ((hn_w ty ad D n).set a (ad a, .inl (ty t, z, .inr (.inr (.inr (.inr (va_up (fun j => (D.2.2 a j).map ad) i.toNatClampNeg (some (ad y)))))))) ) H1 → va_S (fun q => b0 ≤ q) s.heap H1 locs1 → W p l e R s m args below meth cd H1 locs1 cells slots Q (F0 m (pc + 1) lsA (st.map (hn_v ad))) := by
    intro H1 locs1 hP1 hS1
    refine h p l e R s m args below meth cd dC dI ty ad b0 L xs Q C F H1 locs1 cells slots lsA ⟨?_, hS1, hn5, hgs, hr0, hr1⟩ hc hs hL
    rw [← hn_w_set (D := D) (D' := ((D.1, D.2.1, hn_u D.2.2 a j (some y)) : hnD)) (hcell t ha (by omega)) (fun b hb => hn_cell_ne rfl rfl (hn_u_ne _ _ _ hb))]
    exact hP1
  rcases ht with ⟨rfl, rfl⟩ | ⟨rfl, rfl⟩
  · exact va_astq hx hb hK hP hD hSS a 4 y 5 (r := ("HammockNet$State", hn_t5, 7)) (by rw [hn_w_get hn, hn_cell_q ha (by omega)]) rfl (by rw [hn_w_get hy, hn_cell_o hky]) rfl h1 hd (fun H1 locs1 hP1 _ hS1 => go H1 locs1 hP1 hS1)
  · exact va_astq hx hb hK hP hD hSS a 5 y 6 (r := ("HammockNet$Seen", hn_t6, 5)) (by rw [hn_w_get hn, hn_cell_q ha (by omega)]) rfl (by rw [hn_w_get hy, hn_cell_o hky]) rfl h1 hd (fun H1 locs1 hP1 _ hS1 => go H1 locs1 hP1 hS1)
theorem hn_aastoreW {g : Bool} {d kc ks : Nat} {M : hnM} {P : Option Value → Nat → hnD → Prop} {pc : Nat} {ls st : List Value} {n : Nat} {D : hnD} {nx tg c k : Nat} {v : Value} {a j z y : Nat} {i : Int32} (hr : hn_lk (hn_rows M) pc = some (.aastore, 1, nx, tg, v, c, k)) (ha : hn_kind a = (7, z)) (hn : a < n) (hi : i.toInt = (j : Int)) (hz : j < z) (hy : 5000 ≤ y ∧ y < 5026) (h : hn_R g d kc ks M P nx ls (st) n (D.1, D.2.1, hn_u D.2.2 a j (some y))) : hn_R g d kc ks M P pc ls (.ref y :: .int i :: .ref a :: st) n D := by
  intro p l e R s m args below meth cd dC dI ty ad b0 L xs Q C F H locs cells slots lsA hS hc hs hL
  obtain ⟨hx, hb, hrt, hml, hown, hts, hlk, hin, hK, had, hb0, hK0, hfr, hlo, hok, hX, hXb⟩ := id C
  obtain ⟨hP, hSS, hn5, hgs, hr0, hr1⟩ := id hS
  obtain ⟨hd, rfl, -⟩ := hn_row hok hr
  obtain ⟨h1, h2⟩ := hn_ix_in hi hz
  have hD := hn_wD (ty := ty) (D := D) had hn5
  have hcell : (Sum.inl (ty 7, z, .inr (.inr (.inr (.inr (va_up (fun j => (D.2.2 a j).map ad) i.toNatClampNeg (some (ad y))))))) : va_E) = hn_cell ty ad (D.1, D.2.1, hn_u D.2.2 a j (some y)) a := by
    rw [hn_cell_q ha (by omega), h2]
    congr 7
    funext q
    by_cases hq : q = j
    · subst hq; simp [va_up, hn_u_eq]
    · simp [va_up, hn_u_eq, hq]
  have hany : va_Any "HammockNet$Word" s H (ad y) := by
    obtain ⟨cell, g1, g2, g3⟩ := va_recvE hK0.1 (show y - 5000 < hn_wn.length from (show y - 5000 < 26 by omega)) hSS
    obtain ⟨kC, hkC, -⟩ := Vm.findClass_spec g3
    refine ⟨cell, by rw [show y = 5000 + (y - 5000) by omega]; exact g1, g2, ⟨kC, hkC⟩, fun comp h9 => ?_⟩
    have e9 : cell.cls = comp := Option.some.inj (g3.symm.trans h9)
    rw [e9]
    exact va_asg _ _
  refine va_astqM hx hb hK hP hD hSS a 6 (E := "HammockNet$Word") (by rw [hn_w_get hn, hn_cell_q ha (by omega)]) rfl hany h1 hd (fun H1 locs1 hP1 _ hS1 => ?_)
  refine h p l e R s m args below meth cd dC dI ty ad b0 L xs Q C F H1 locs1 cells slots lsA ⟨?_, hS1, hn5, hgs, hr0, hr1⟩ hc hs hL
  rw [← hn_w_set (D := D) (D' := ((D.1, D.2.1, hn_u D.2.2 a j (some y)) : hnD)) hcell (fun b hb => hn_cell_ne rfl rfl (hn_u_ne _ _ _ hb))]
  exact hP1
theorem hn_tsw {g : Bool} {d kc ks : Nat} {M : hnM} {P : Option Value → Nat → hnD → Prop} {pc : Nat} {ls st : List Value} {n : Nat} {D : hnD} {nx tg c k : Nat} {v : Value} {x : Int32} {df lo hi : Int} {offs : Array Int} {len q : Nat} (hr : hn_lk (hn_rows M) pc = some (.tableswitch df lo hi offs, len, nx, tg, v, c, k)) (hq : (if x.toInt < lo ∨ hi < x.toInt then some df else offs[(x.toInt - lo).toNat]?) = some ((q : Int) - (pc : Int))) (h : hn_R g d kc ks M P q ls (st) n D) : hn_R g d kc ks M P pc ls (.int x :: st) n D := by
  intro p l e R s m args below meth cd dC dI ty ad b0 L xs Q C F H locs cells slots lsA hS hc hs hL
  obtain ⟨hx, hb, hrt, hml, hown, hts, hlk, hin, hK, had, hb0, hK0, hfr, hlo, hok, hX, hXb⟩ := id C
  obtain ⟨hP, hSS, hn5, hgs, hr0, hr1⟩ := id hS
  obtain ⟨hd, -, -⟩ := hn_row hok hr
  by_cases h9 : x.toInt < lo ∨ hi < x.toInt
  · rw [if_pos h9] at hq
    have hq := Option.some.inj hq
    exact lv_tableOut hx hb hd h9 (tgt := q) (by omega) (h p l e R s m args below meth cd dC dI ty ad b0 L xs Q C F H locs cells slots lsA hS hc hs hL)
  · rw [if_neg h9] at hq
    exact lv_tableIn hx hb hd (by omega) (by omega) hq (tgt := q) (by omega) (h p l e R s m args below meth cd dC dI ty ad b0 L xs Q C F H locs cells slots lsA hS hc hs hL)
theorem hn_lsw {g : Bool} {d kc ks : Nat} {M : hnM} {P : Option Value → Nat → hnD → Prop} {pc : Nat} {ls st : List Value} {n : Nat} {D : hnD} {nx tg c k : Nat} {v : Value} {x : Int32} {df : Int} {ps : Array (Int × Int)} {len q : Nat} (hr : hn_lk (hn_rows M) pc = some (.lookupswitch df ps, len, nx, tg, v, c, k)) (hp : (ps.toList.zip (ps.toList.drop 1)).all (fun (a, next) => a.1 < next.1) = true) (hq : Op.lookupswitch.offset ps.toList df x.toInt = (q : Int) - (pc : Int)) (h : hn_R g d kc ks M P q ls (st) n D) : hn_R g d kc ks M P pc ls (.int x :: st) n D := by
  intro p l e R s m args below meth cd dC dI ty ad b0 L xs Q C F H locs cells slots lsA hS hc hs hL
  obtain ⟨hx, hb, hrt, hml, hown, hts, hlk, hin, hK, had, hb0, hK0, hfr, hlo, hok, hX, hXb⟩ := id C
  obtain ⟨hP, hSS, hn5, hgs, hr0, hr1⟩ := id hS
  obtain ⟨hd, -, -⟩ := hn_row hok hr
  exact lv_lookup hx hb hd hp hq (tgt := q) (by omega) (h p l e R s m args below meth cd dC dI ty ad b0 L xs Q C F H locs cells slots lsA hS hc hs hL)
theorem hn_w_oi : Cond.instanceMethod objectInit ∈ hn_T := hn_at_in (i := 143) (by decide +kernel)
theorem hn_w_oc : Cond.code objectInit ⟨#[0xb1]⟩ 1 none ∈ hn_T := hn_at_in (i := 144) (by decide +kernel)
theorem hn_w_cn : Cond.native arraycopyName ∈ hn_T := hn_at_in (i := 703) (by decide +kernel)
theorem hn_w_cs : Cond.static arraycopyName ∈ hn_T := hn_at_in (i := 702) (by decide +kernel)
theorem hn_w_ci : Cond.initialized "java/lang/System" ∈ hn_T := hn_at_in (i := 130) (by decide +kernel)
theorem hn_w_a1 : Cond.arrayClass .int ∈ hn_T := hn_at_in (i := 242) (by decide +kernel)
theorem hn_w_a2 : Cond.arrayClass .long ∈ hn_T := hn_at_in (i := 241) (by decide +kernel)
theorem hn_w_a3 : Cond.arrayClass .boolean ∈ hn_T := hn_at_in (i := 381) (by decide +kernel)
theorem hn_w_a4 : Cond.arrayClass .char ∈ hn_T := hn_at_in (i := 190) (by decide +kernel)
theorem hn_sum {ad : Nat → Nat} (l : List Value) : ((l.map (hn_v ad)).map fun v => v.category).sum = (l.map fun v => v.category).sum := by
  induction l with
  | nil => rfl
  | cons a t ih => simp only [List.map_cons, List.sum_cons, hn_v_cat, ih]
theorem hn_lsz {ad : Nat → Nat} {lsA : Array Slot} {nL : Nat} {vs : List Value} (h : hn_L ad lsA nL vs) : lsA.size = nL := h.1
/-- the heap is no larger than what was there and what was made -/
theorem hn_sz {p : Program} {l : Launch} {e : Env} {R : Room} {s : State} {m : MethodId} {args : Array Value} {below : List Frame} {meth : Method} {c : Code} {H : Heap} {locs : List Loc} {cells slots : Nat} {Q : State → Prop} {gf : JFrame} (h : H.size ≤ s.heap.size + cells → W p l e R s m args below meth c H locs cells slots Q gf) : W p l e R s m args below meth c H locs cells slots Q gf := by
  intro T hT X
  exact h (by rw [← hT]; exact X.heapSize) T hT X
theorem hn_objInit {g : Bool} {d kc ks : Nat} {M : hnM} {P : Option Value → Nat → hnD → Prop} {pc : Nat} {ls st : List Value} {n : Nat} {D : hnD} {nx tg c k : Nat} {v : Value} {a x : Nat} (hr : hn_lk (hn_rows M) pc = some (.invokespecial x, 3, nx, tg, v, c, k)) (hy : hn_yl[c]? = some objectInit) (htg : tg < 10000) (hd1 : 1 ≤ d) (hst : (st.map fun v => v.category).sum ≤ 8) (h : hn_R g d kc ks M P nx ls (st) n D) : hn_R g d kc ks M P pc ls (.ref a :: st) n D := by
  intro p l e R s m args below meth cd dC dI ty ad b0 L xs Q C F H locs cells slots lsA hS hc hs hL
  obtain ⟨hx, hb, hrt, hml, hown, hts, hlk, hin, hK, had, hb0, hK0, hfr, hlo, hok, hX, hXb⟩ := id C
  obtain ⟨hP, hSS, hn5, hgs, hr0, hr1⟩ := id hS
  obtain ⟨hd, rfl, hv⟩ := hn_row hok hr
  have hc7 : ¬ c = 7777 := by intro z; subst z; cases hy
  simp only [hn_ex, if_neg hc7, hy, if_pos htg] at hv
  refine W.objInit hx hb hown (hts _ (hn_at_in hv)) (hts _ hn_w_oi) (hts _ hn_w_oc) rfl (by rw [hml]; exact hL.1) rfl hd (by omega) ?_ ?_
  · have := hn_sum (ad := ad) st
    show 2 * 0 + _ + 12 ≤ _
    omega
  · exact W.eq (g2 := F0 m (pc + 3) lsA (st.map (hn_v ad))) rfl (h p l e R s m args below meth cd dC dI ty ad b0 L xs Q C F H locs cells slots lsA hS hc hs hL)
theorem hn_copyI {g : Bool} {d kc ks : Nat} {M : hnM} {P : Option Value → Nat → hnD → Prop} {pc : Nat} {ls st : List Value} {n : Nat} {D : hnD} {nx tg c k : Nat} {v : Value} {a0 a x z0 z cnt : Nat} {y : Int32} (hr : hn_lk (hn_rows M) pc = some (.invokestatic x, 3, nx, tg, v, c, k)) (hy : hn_yl[c]? = some arraycopyName) (ha0 : hn_kind a0 = (1, z0)) (hn0 : a0 < n) (ha : hn_kind a = (1, z)) (hn : a < n) (hcn : y.toInt = (cnt : Int)) (h0 : cnt ≤ z0) (h1 : cnt ≤ z) (hd1 : 1 ≤ d) (hst : (st.map fun v => v.category).sum ≤ 8) (h : hn_R g d kc ks M P nx ls (st) n (hn_ur D.1 a (va_cpy (D.1 a0) (D.1 a) 0 0 cnt), D.2)) : hn_R g d kc ks M P pc ls (.int y :: .int 0 :: .ref a :: .int 0 :: .ref a0 :: st) n D := by
  intro p l e R s m args below meth cd dC dI ty ad b0 L xs Q C F H locs cells slots lsA hS hc hs hL
  obtain ⟨hx, hb, hrt, hml, hown, hts, hlk, hin, hK, had, hb0, hK0, hfr, hlo, hok, hX, hXb⟩ := id C
  obtain ⟨hP, hSS, hn5, hgs, hr0, hr1⟩ := id hS
  obtain ⟨hd, rfl, hv⟩ := hn_row hok hr
  simp only [hn_ex, hy] at hv
  have hD := hn_wD (ty := ty) (D := D) had hn5
  have hy1 : ¬ y < 0 := by rw [Int32.lt_iff_toInt_lt, hcn]; simp
  have hy2 : y.toNatClampNeg = cnt := by rw [Int32.toNatClampNeg, hcn]; simp
  refine va_copyi hx hb (by rw [hml]; exact hL.1.symm) hown (hts _ (hn_at_in hv)) (hts _ hn_w_cn) (hts _ hn_w_cs) (hts _ hn_w_ci) hK hP hD hSS a0 a 0 0 (by rw [hn_w_get hn0, hn_cell_i ha0]) (by rw [hn_w_get hn, hn_cell_i ha]) rfl rfl rfl (by decide) (by decide) hy1 (by rw [hy2]; simpa using h0) (by rw [hy2]; simpa using h1) (fun _ _ => rfl) (by omega) ?_ hd (fun H1 locs1 hP1 _ hS1 => ?_)
  · have h9 := hn_sum (ad := ad) st
    have h8 : nativeFrameWords "java/lang/System" "arraycopy" 5 = 7 := by decide
    rw [h9, h8]
    omega
  refine h p l e R s m args below meth cd dC dI ty ad b0 L xs Q C F H1 locs1 cells slots lsA ⟨?_, hS1, hn5, hgs, by show hn_ur D.1 a _ 6000 = xs; rw [hn_ur_ne _ _ (by have := hn_lt5 hn hn5; omega)]; exact hr0, by show hn_ur D.1 a _ 6001 0 = _; rw [hn_ur_ne _ _ (by have := hn_lt5 hn hn5; omega)]; exact hr1⟩ hc hs hL
  rw [← hn_w_set (D := D) (D' := ((hn_ur D.1 a (va_cpy (D.1 a0) (D.1 a) 0 0 cnt), D.2) : hnD)) (e := .inl (ty 1, z, .inl (va_cpy (D.1 a0) (D.1 a) (0 : Int32).toNatClampNeg (0 : Int32).toNatClampNeg y.toNatClampNeg))) (by rw [hn_cell_i ha, hy2]; simp only [hn_ur_eq]; rfl) (fun b hb => hn_cell_ne (hn_ur_ne _ _ hb) rfl rfl)]
  exact hP1
theorem hn_copyL {g : Bool} {d kc ks : Nat} {M : hnM} {P : Option Value → Nat → hnD → Prop} {pc : Nat} {ls st : List Value} {n : Nat} {D : hnD} {nx tg c k : Nat} {v : Value} {a0 a x z0 z cnt : Nat} {y : Int32} (hr : hn_lk (hn_rows M) pc = some (.invokestatic x, 3, nx, tg, v, c, k)) (hy : hn_yl[c]? = some arraycopyName) (ha0 : hn_kind a0 = (2, z0)) (hn0 : a0 < n) (ha : hn_kind a = (2, z)) (hn : a < n) (hcn : y.toInt = (cnt : Int)) (h0 : cnt ≤ z0) (h1 : cnt ≤ z) (hd1 : 1 ≤ d) (hst : (st.map fun v => v.category).sum ≤ 8) (h : hn_R g d kc ks M P nx ls (st) n (D.1, hn_ur D.2.1 a (va_cpy (D.2.1 a0) (D.2.1 a) 0 0 cnt), D.2.2)) : hn_R g d kc ks M P pc ls (.int y :: .int 0 :: .ref a :: .int 0 :: .ref a0 :: st) n D := by
  intro p l e R s m args below meth cd dC dI ty ad b0 L xs Q C F H locs cells slots lsA hS hc hs hL
  obtain ⟨hx, hb, hrt, hml, hown, hts, hlk, hin, hK, had, hb0, hK0, hfr, hlo, hok, hX, hXb⟩ := id C
  obtain ⟨hP, hSS, hn5, hgs, hr0, hr1⟩ := id hS
  obtain ⟨hd, rfl, hv⟩ := hn_row hok hr
  simp only [hn_ex, hy] at hv
  have hD := hn_wD (ty := ty) (D := D) had hn5
  have hy1 : ¬ y < 0 := by rw [Int32.lt_iff_toInt_lt, hcn]; simp
  have hy2 : y.toNatClampNeg = cnt := by rw [Int32.toNatClampNeg, hcn]; simp
  refine va_copyl hx hb (by rw [hml]; exact hL.1.symm) hown (hts _ (hn_at_in hv)) (hts _ hn_w_cn) (hts _ hn_w_cs) (hts _ hn_w_ci) hK hP hD hSS a0 a 1 1 (by rw [hn_w_get hn0, hn_cell_l ha0]) (by rw [hn_w_get hn, hn_cell_l ha]) rfl rfl rfl (by decide) (by decide) hy1 (by rw [hy2]; simpa using h0) (by rw [hy2]; simpa using h1) (fun _ _ => rfl) (by omega) ?_ hd (fun H1 locs1 hP1 _ hS1 => ?_)
  · have h9 := hn_sum (ad := ad) st
    have h8 : nativeFrameWords "java/lang/System" "arraycopy" 5 = 7 := by decide
    rw [h9, h8]
    omega
  refine h p l e R s m args below meth cd dC dI ty ad b0 L xs Q C F H1 locs1 cells slots lsA ⟨?_, hS1, hn5, hgs, hr0, hr1⟩ hc hs hL
  rw [← hn_w_set (D := D) (D' := ((D.1, hn_ur D.2.1 a (va_cpy (D.2.1 a0) (D.2.1 a) 0 0 cnt), D.2.2) : hnD)) (e := .inl (ty 2, z, .inr (.inl (va_cpy (D.2.1 a0) (D.2.1 a) (0 : Int32).toNatClampNeg (0 : Int32).toNatClampNeg y.toNatClampNeg)))) (by rw [hn_cell_l ha, hy2]; simp only [hn_ur_eq]; rfl) (fun b hb => hn_cell_ne rfl (hn_ur_ne _ _ hb) rfl)]
  exact hP1
/-- a row all zero, for a cell that comes -/
def hn_z (D : hnD) (a : Nat) : hnD := (hn_ur D.1 a (fun _ => 0), hn_ur D.2.1 a (fun _ => 0), hn_ur D.2.2 a (fun _ => none))
theorem hn_z_ne {ty : Nat → ClassId} {ad : Nat → Nat} {D : hnD} {n b : Nat} (h : b < n) : hn_cell ty ad (hn_z D n) b = hn_cell ty ad D b := hn_cell_ne (hn_ur_ne _ _ (by omega)) (hn_ur_ne _ _ (by omega)) (hn_ur_ne _ _ (by omega))
theorem hn_new_at {dC : Nat → ClassId} {dI : Nat → Nat → Nat} {ty : Nat → ClassId} {ad : Nat → Nat} {D : hnD} {n b0 q : Nat} {ev : va_E} {H1 : Heap} (had : ∀ k, k < 5000 → ad k = b0 + k) (hn5 : n + 1 ≤ 5000) (hP : va_P (dC, dI) hn_cl (hn_w ty ad D n ++ [(q, ev)]) H1) (hD : va_D (fun q => b0 ≤ q) (hn_w ty ad D n ++ [(q, ev)])) (hz : H1.size ≤ b0 + n + 1) : q = ad n := by
  have hlen : (hn_w ty ad D n).length = n := by simp [hn_w]
  have hq : (hn_w ty ad D n ++ [(q, ev)])[n]? = some (q, ev) := by rw [List.getElem?_append_right (by omega), hlen]; simp
  have h1 : q < H1.size := (hP n _ hq).lt
  have h2 : b0 ≤ q := hD.2 n _ hq
  rw [had n (by omega)]
  by_cases h3 : q < b0 + n
  · exfalso
    have h4 : q - b0 < n := by omega
    have h5 : (hn_w ty ad D n ++ [(q, ev)])[q - b0]? = some (ad (q - b0), hn_cell ty ad D (q - b0)) := by rw [List.getElem?_append_left (by omega), hn_w_get h4]
    have h6 := hD.1 (q - b0) n _ _ h5 hq (by show ad (q - b0) = q; rw [had _ (by omega)]; omega)
    omega
  · omega
theorem hn_new_w {ty : Nat → ClassId} {ad : Nat → Nat} {D : hnD} {n : Nat} {ev : va_E} (he : ev = hn_cell ty ad (hn_z D n) n) : hn_w ty ad D n ++ [(ad n, ev)] = hn_w ty ad (hn_z D n) (n + 1) := by
  rw [← hn_w_push, he, hn_w_congr (fun b hb => hn_z_ne hb)]
theorem hn_new {d kc ks : Nat} {M : hnM} {P : Option Value → Nat → hnD → Prop} {pc : Nat} {ls st : List Value} {n : Nat} {D : hnD} {nx tg c k : Nat} {v : Value} {x N kc2 ks2 : Nat} (hr : hn_lk (hn_rows M) pc = some (.new x, 3, nx, tg, v, c, k)) (hkd : hn_kind n = (0, c)) (hN : (hn_tg c).length = N) (h5 : n + 1 ≤ 5000) (hc9 : c < 11) (hk1 : kc2 + 1 = kc) (hk2 : ks2 + N = ks) (h : hn_R true d kc2 ks2 M P nx ls (.ref n :: st) (n + 1) (hn_z D n)) : hn_R true d kc ks M P pc ls (st) n D := by
  intro p l e R s m args below meth cd dC dI ty ad b0 L xs Q C F H locs cells slots lsA hS hc hs hL
  obtain ⟨hx, hb, hrt, hml, hown, hts, hlk, hin, hK, had, hb0, hK0, hfr, hlo, hok, hX, hXb⟩ := id C
  obtain ⟨hP, hSS, hn5, hgs, hr0, hr1⟩ := id hS
  obtain ⟨hd, rfl, hv⟩ := hn_row hok hr
  have hc7 : ¬ c = 7777 := by omega
  simp only [hn_ex, if_neg hc7] at hv
  have hcl : c < hn_cl.length := hc9
  have hq : hn_cl[c]? = some hn_cl[c] := List.getElem?_eq_getElem hcl
  generalize hn_cl[c] = q at hq
  rw [hq] at hv
  obtain ⟨z1, z2, z3, z4, z5, z6, z7⟩ := hn_cl_ok hq
  obtain ⟨CN, CT, CK⟩ := q
  have hD := hn_wD (ty := ty) (D := D) had hn5
  have hA : ∀ q, s.heap.size ≤ q → (fun q => b0 ≤ q) q := fun q h9 => Nat.le_trans hb0 h9
  refine va_new (ci := c) (C := CN) (T := CT) (N := CK) (fs := hn_fs ad (hn_z D n) n (hn_tg c) 0) hx hb hts z1 (hn_ft c) z5 hown (hts _ (hn_at_in hv)) (hts _ z2) (hts _ z3) hK hP hD hSS hA hq ?_ (by omega) (by simp only at z4; omega) hd (fun q H1 hP1 hD1 hS1 => ?_)
  · intro j hj
    rw [z7 j hj]
    have hj2 : j < (hn_tg c).length := by rw [z4]; exact hj
    have hg : (hn_tg c)[j]? = some ((hn_tg c)[j]) := List.getElem?_eq_getElem hj2
    simp only [vp_V, List.getD_eq_getElem?_getD, hn_fs_get ad (hn_z D n) n _ 0 j _ hg, hg, Option.getD_some, Nat.zero_add]
    generalize (hn_tg c)[j] = t
    match t with
    | 0 => simp [hn_f1, hn_z, hn_ur_eq]
    | 1 => simp [hn_f1, hn_z, hn_ur_eq]
    | t + 2 => simp [hn_f1, hn_z, hn_ur_eq, va_rf]
  · refine hn_sz (fun hsz => ?_)
    have hgs := hgs rfl
    have hq1 := hn_new_at had h5 hP1 hD1 (by omega)
    subst hq1
    rw [hn_new_w (by rw [hn_cell_o hkd])] at hP1
    simp only at z4
    subst hk1
    refine W.widen (k := cells + 1) (n := slots + N) (Nat.le_refl _) (by omega) ?_
    exact h p l e R s m args below meth cd dC dI ty ad b0 L xs Q C F H1 locs (cells + 1) (slots + N) lsA ⟨hP1, hS1, h5, fun _ => by omega, by show hn_ur D.1 n _ 6000 = xs; rw [hn_ur_ne _ _ (by omega)]; exact hr0, by show hn_ur D.1 n _ 6001 0 = _; rw [hn_ur_ne _ _ (by omega)]; exact hr1⟩ (by omega) (by omega) hL
theorem hn_newarray1 {d kc ks : Nat} {M : hnM} {P : Option Value → Nat → hnD → Prop} {pc : Nat} {ls st : List Value} {n : Nat} {D : hnD} {nx tg c k : Nat} {v : Value} {z kc2 ks2 : Nat} {y : Int32} (hr : hn_lk (hn_rows M) pc = some (.newarray .int, 2, nx, tg, v, c, k)) (hkd : hn_kind n = (1, z)) (hy : y.toInt = (z : Int)) (hz : z ≤ 10000) (h5 : n + 1 ≤ 5000) (hk1 : kc2 + 1 = kc) (hk2 : ks2 + z = ks) (h : hn_R true d kc2 ks2 M P nx ls (.ref n :: st) (n + 1) (hn_z D n)) : hn_R true d kc ks M P pc ls (.int y :: st) n D := by
  intro p l e R s m args below meth cd dC dI ty ad b0 L xs Q C F H locs cells slots lsA hS hc hs hL
  obtain ⟨hx, hb, hrt, hml, hown, hts, hlk, hin, hK, had, hb0, hK0, hfr, hlo, hok, hX, hXb⟩ := id C
  obtain ⟨hP, hSS, hn5, hgs, hr0, hr1⟩ := id hS
  obtain ⟨hd, rfl, -⟩ := hn_row hok hr
  have hD := hn_wD (ty := ty) (D := D) had hn5
  have hA : ∀ q, s.heap.size ≤ q → (fun q => b0 ≤ q) q := fun q h9 => Nat.le_trans hb0 h9
  have hy1 : ¬ y < 0 := by rw [Int32.lt_iff_toInt_lt, hy]; simp
  have hy2 : y.toNatClampNeg = z := by rw [Int32.toNatClampNeg, hy]; simp
  have hcb : componentBytes (.int : FieldType) = 4 := rfl
  refine va_newa (atype := .int) (ty := .int) (a0 := (z, .inl (fun _ => 0))) hx hb (hts _ hn_w_a1) rfl hK hP hD hSS hA (fun cA => rfl) hy1 hy2 (by rw [hcb]; omega) (by omega) (by omega) hd (fun q cA H1 hK1 hP1 hD1 hS1 => ?_)
  have e1 : cA = ty 1 := by
    have h8 := (hK1.2 7 (cA, .int) (by simp [hn_tys])).2
    have h9 := (hK.2 0 (ty 1, .int) rfl).2
    exact Option.some.inj (h8.symm.trans h9)
  subst e1
  refine hn_sz (fun hsz => ?_)
  have hgs := hgs rfl
  have hq1 := hn_new_at had h5 hP1 hD1 (by omega)
  subst hq1
  rw [hn_new_w (by rw [hn_cell_i hkd]; simp only [hn_z, hn_ur_eq])] at hP1
  subst hk1
  exact h p l e R s m args below meth cd dC dI ty ad b0 L xs Q C F H1 locs (cells + 1) (slots + z) lsA ⟨hP1, hS1, h5, fun _ => by omega, by show hn_ur D.1 n _ 6000 = xs; rw [hn_ur_ne _ _ (by omega)]; exact hr0, by show hn_ur D.1 n _ 6001 0 = _; rw [hn_ur_ne _ _ (by omega)]; exact hr1⟩ (by omega) (by omega) hL
theorem hn_newarray2 {d kc ks : Nat} {M : hnM} {P : Option Value → Nat → hnD → Prop} {pc : Nat} {ls st : List Value} {n : Nat} {D : hnD} {nx tg c k : Nat} {v : Value} {z kc2 ks2 : Nat} {y : Int32} (hr : hn_lk (hn_rows M) pc = some (.newarray .long, 2, nx, tg, v, c, k)) (hkd : hn_kind n = (2, z)) (hy : y.toInt = (z : Int)) (hz : z ≤ 10000) (h5 : n + 1 ≤ 5000) (hk1 : kc2 + 1 = kc) (hk2 : ks2 + z = ks) (h : hn_R true d kc2 ks2 M P nx ls (.ref n :: st) (n + 1) (hn_z D n)) : hn_R true d kc ks M P pc ls (.int y :: st) n D := by
  intro p l e R s m args below meth cd dC dI ty ad b0 L xs Q C F H locs cells slots lsA hS hc hs hL
  obtain ⟨hx, hb, hrt, hml, hown, hts, hlk, hin, hK, had, hb0, hK0, hfr, hlo, hok, hX, hXb⟩ := id C
  obtain ⟨hP, hSS, hn5, hgs, hr0, hr1⟩ := id hS
  obtain ⟨hd, rfl, -⟩ := hn_row hok hr
  have hD := hn_wD (ty := ty) (D := D) had hn5
  have hA : ∀ q, s.heap.size ≤ q → (fun q => b0 ≤ q) q := fun q h9 => Nat.le_trans hb0 h9
  have hy1 : ¬ y < 0 := by rw [Int32.lt_iff_toInt_lt, hy]; simp
  have hy2 : y.toNatClampNeg = z := by rw [Int32.toNatClampNeg, hy]; simp
  have hcb : componentBytes (.long : FieldType) = 8 := rfl
  refine va_newa (atype := .long) (ty := .long) (a0 := (z, .inr (.inl (fun _ => 0)))) hx hb (hts _ hn_w_a2) rfl hK hP hD hSS hA (fun cA => rfl) hy1 hy2 (by rw [hcb]; omega) (by omega) (by omega) hd (fun q cA H1 hK1 hP1 hD1 hS1 => ?_)
  have e1 : cA = ty 2 := by
    have h8 := (hK1.2 7 (cA, .long) (by simp [hn_tys])).2
    have h9 := (hK.2 1 (ty 2, .long) rfl).2
    exact Option.some.inj (h8.symm.trans h9)
  subst e1
  refine hn_sz (fun hsz => ?_)
  have hgs := hgs rfl
  have hq1 := hn_new_at had h5 hP1 hD1 (by omega)
  subst hq1
  rw [hn_new_w (by rw [hn_cell_l hkd]; simp only [hn_z, hn_ur_eq])] at hP1
  subst hk1
  exact h p l e R s m args below meth cd dC dI ty ad b0 L xs Q C F H1 locs (cells + 1) (slots + z) lsA ⟨hP1, hS1, h5, fun _ => by omega, by show hn_ur D.1 n _ 6000 = xs; rw [hn_ur_ne _ _ (by omega)]; exact hr0, by show hn_ur D.1 n _ 6001 0 = _; rw [hn_ur_ne _ _ (by omega)]; exact hr1⟩ (by omega) (by omega) hL
theorem hn_newarray3 {d kc ks : Nat} {M : hnM} {P : Option Value → Nat → hnD → Prop} {pc : Nat} {ls st : List Value} {n : Nat} {D : hnD} {nx tg c k : Nat} {v : Value} {z kc2 ks2 : Nat} {y : Int32} (hr : hn_lk (hn_rows M) pc = some (.newarray .boolean, 2, nx, tg, v, c, k)) (hkd : hn_kind n = (3, z)) (hy : y.toInt = (z : Int)) (hz : z ≤ 10000) (h5 : n + 1 ≤ 5000) (hk1 : kc2 + 1 = kc) (hk2 : ks2 + z = ks) (h : hn_R true d kc2 ks2 M P nx ls (.ref n :: st) (n + 1) (hn_z D n)) : hn_R true d kc ks M P pc ls (.int y :: st) n D := by
  intro p l e R s m args below meth cd dC dI ty ad b0 L xs Q C F H locs cells slots lsA hS hc hs hL
  obtain ⟨hx, hb, hrt, hml, hown, hts, hlk, hin, hK, had, hb0, hK0, hfr, hlo, hok, hX, hXb⟩ := id C
  obtain ⟨hP, hSS, hn5, hgs, hr0, hr1⟩ := id hS
  obtain ⟨hd, rfl, -⟩ := hn_row hok hr
  have hD := hn_wD (ty := ty) (D := D) had hn5
  have hA : ∀ q, s.heap.size ≤ q → (fun q => b0 ≤ q) q := fun q h9 => Nat.le_trans hb0 h9
  have hy1 : ¬ y < 0 := by rw [Int32.lt_iff_toInt_lt, hy]; simp
  have hy2 : y.toNatClampNeg = z := by rw [Int32.toNatClampNeg, hy]; simp
  have hcb : componentBytes (.boolean : FieldType) = 1 := rfl
  refine va_newa (atype := .boolean) (ty := .boolean) (a0 := (z, .inl (fun _ => 0))) hx hb (hts _ hn_w_a3) rfl hK hP hD hSS hA (fun cA => rfl) hy1 hy2 (by rw [hcb]; omega) (by omega) (by omega) hd (fun q cA H1 hK1 hP1 hD1 hS1 => ?_)
  have e1 : cA = ty 3 := by
    have h8 := (hK1.2 7 (cA, .boolean) (by simp [hn_tys])).2
    have h9 := (hK.2 2 (ty 3, .boolean) rfl).2
    exact Option.some.inj (h8.symm.trans h9)
  subst e1
  refine hn_sz (fun hsz => ?_)
  have hgs := hgs rfl
  have hq1 := hn_new_at had h5 hP1 hD1 (by omega)
  subst hq1
  rw [hn_new_w (by rw [hn_cell_z hkd]; simp only [hn_z, hn_ur_eq])] at hP1
  subst hk1
  exact h p l e R s m args below meth cd dC dI ty ad b0 L xs Q C F H1 locs (cells + 1) (slots + z) lsA ⟨hP1, hS1, h5, fun _ => by omega, by show hn_ur D.1 n _ 6000 = xs; rw [hn_ur_ne _ _ (by omega)]; exact hr0, by show hn_ur D.1 n _ 6001 0 = _; rw [hn_ur_ne _ _ (by omega)]; exact hr1⟩ (by omega) (by omega) hL
theorem hn_newarray4 {d kc ks : Nat} {M : hnM} {P : Option Value → Nat → hnD → Prop} {pc : Nat} {ls st : List Value} {n : Nat} {D : hnD} {nx tg c k : Nat} {v : Value} {z kc2 ks2 : Nat} {y : Int32} (hr : hn_lk (hn_rows M) pc = some (.newarray .char, 2, nx, tg, v, c, k)) (hkd : hn_kind n = (4, z)) (hy : y.toInt = (z : Int)) (hz : z ≤ 10000) (h5 : n + 1 ≤ 5000) (hk1 : kc2 + 1 = kc) (hk2 : ks2 + z = ks) (h : hn_R true d kc2 ks2 M P nx ls (.ref n :: st) (n + 1) (hn_z D n)) : hn_R true d kc ks M P pc ls (.int y :: st) n D := by
  intro p l e R s m args below meth cd dC dI ty ad b0 L xs Q C F H locs cells slots lsA hS hc hs hL
  obtain ⟨hx, hb, hrt, hml, hown, hts, hlk, hin, hK, had, hb0, hK0, hfr, hlo, hok, hX, hXb⟩ := id C
  obtain ⟨hP, hSS, hn5, hgs, hr0, hr1⟩ := id hS
  obtain ⟨hd, rfl, -⟩ := hn_row hok hr
  have hD := hn_wD (ty := ty) (D := D) had hn5
  have hA : ∀ q, s.heap.size ≤ q → (fun q => b0 ≤ q) q := fun q h9 => Nat.le_trans hb0 h9
  have hy1 : ¬ y < 0 := by rw [Int32.lt_iff_toInt_lt, hy]; simp
  have hy2 : y.toNatClampNeg = z := by rw [Int32.toNatClampNeg, hy]; simp
  have hcb : componentBytes (.char : FieldType) = 2 := rfl
  refine va_newa (atype := .char) (ty := .char) (a0 := (z, .inl (fun _ => 0))) hx hb (hts _ hn_w_a4) rfl hK hP hD hSS hA (fun cA => rfl) hy1 hy2 (by rw [hcb]; omega) (by omega) (by omega) hd (fun q cA H1 hK1 hP1 hD1 hS1 => ?_)
  have e1 : cA = ty 4 := by
    have h8 := (hK1.2 7 (cA, .char) (by simp [hn_tys])).2
    have h9 := (hK.2 3 (ty 4, .char) rfl).2
    exact Option.some.inj (h8.symm.trans h9)
  subst e1
  refine hn_sz (fun hsz => ?_)
  have hgs := hgs rfl
  have hq1 := hn_new_at had h5 hP1 hD1 (by omega)
  subst hq1
  rw [hn_new_w (by rw [hn_cell_c hkd]; simp only [hn_z, hn_ur_eq])] at hP1
  subst hk1
  exact h p l e R s m args below meth cd dC dI ty ad b0 L xs Q C F H1 locs (cells + 1) (slots + z) lsA ⟨hP1, hS1, h5, fun _ => by omega, by show hn_ur D.1 n _ 6000 = xs; rw [hn_ur_ne _ _ (by omega)]; exact hr0, by show hn_ur D.1 n _ 6001 0 = _; rw [hn_ur_ne _ _ (by omega)]; exact hr1⟩ (by omega) (by omega) hL
theorem hn_anewarray {d kc ks : Nat} {M : hnM} {P : Option Value → Nat → hnD → Prop} {pc : Nat} {ls st : List Value} {n : Nat} {D : hnD} {nx tg c k : Nat} {v : Value} {x z kc2 ks2 : Nat} {y : Int32} (hr : hn_lk (hn_rows M) pc = some (.anewarray x, 3, nx, tg, v, c, k)) (hkd : hn_kind n = (c, z)) (hc : c = 5 ∨ c = 6 ∨ c = 7) (hy : y.toInt = (z : Int)) (hz : z ≤ 10000) (h5 : n + 1 ≤ 5000) (hk1 : kc2 + 1 = kc) (hk2 : ks2 + z = ks) (h : hn_R true d kc2 ks2 M P nx ls (.ref n :: st) (n + 1) (hn_z D n)) : hn_R true d kc ks M P pc ls (.int y :: st) n D := by
  intro p l e R s m args below meth cd dC dI ty ad b0 L xs Q C F H locs cells slots lsA hS hc9 hs hL
  obtain ⟨hx, hb, hrt, hml, hown, hts, hlk, hin, hK, had, hb0, hK0, hfr, hlo, hok, hX, hXb⟩ := id C
  obtain ⟨hP, hSS, hn5, hgs, hr0, hr1⟩ := id hS
  obtain ⟨hd, rfl, hv⟩ := hn_row hok hr
  have hD := hn_wD (ty := ty) (D := D) had hn5
  have hA : ∀ q, s.heap.size ≤ q → (fun q => b0 ≤ q) q := fun q h9 => Nat.le_trans hb0 h9
  have hy1 : ¬ y < 0 := by rw [Int32.lt_iff_toInt_lt, hy]; simp
  have hy2 : y.toNatClampNeg = z := by rw [Int32.toNatClampNeg, hy]; simp
  have go : ∀ (C9 : String) (t0 : Nat), (hn_tys ty)[t0]? = some (ty c, .object C9) → Cond.classLink (hn_y M).cls x C9 ∈ hn_T → va_AO C9 s → W p l e R s m args below meth cd H locs cells slots Q (F0 m pc lsA ((Value.int y :: st).map (hn_v ad))) := by
    intro C9 t0 ht0 hcw hao
    refine va_newq hx hb (C := C9) hown (hts _ hcw) hao hK hP hD hSS hA hy1 hy2 (by omega) (by omega) (by omega) hd (fun q cA H1 hK1 hP1 hD1 hS1 => ?_)
    have e1 : cA = ty c := by
      obtain ⟨-, -, -, -, -, h8⟩ := (hK1.2 7 (cA, .object C9) (by simp [hn_tys])).2
      obtain ⟨-, -, -, -, -, h9⟩ := (hK.2 t0 (ty c, .object C9) ht0).2
      exact Option.some.inj (h8.symm.trans h9)
    subst e1
    refine hn_sz (fun hsz => ?_)
    have hgs := hgs rfl
    have hq1 := hn_new_at had h5 hP1 hD1 (by omega)
    subst hq1
    rw [hn_new_w (by rw [hn_cell_q hkd hc]; simp only [hn_z, hn_ur_eq]; rfl)] at hP1
    subst hk1
    exact h p l e R s m args below meth cd dC dI ty ad b0 L xs Q C F H1 locs (cells + 1) (slots + z) lsA ⟨hP1, hS1, h5, fun _ => by omega, by show hn_ur D.1 n _ 6000 = xs; rw [hn_ur_ne _ _ (by omega)]; exact hr0, by show hn_ur D.1 n _ 6001 0 = _; rw [hn_ur_ne _ _ (by omega)]; exact hr1⟩ (by omega) (by omega) hL
  rcases hc with rfl | rfl | rfl
  · exact go "HammockNet$State" 4 rfl (hn_at_in (by simpa [hn_ex] using hv)) hK0.2.2.2.2.2.1
  · exact go "HammockNet$Seen" 5 rfl (hn_at_in (by simpa [hn_ex] using hv)) hK0.2.2.2.2.2.2.1
  · exact go "HammockNet$Word" 6 rfl (hn_at_in (by simpa [hn_ex] using hv)) hK0.2.2.2.2.2.2.2.1
end HNmore
