section HNstep
theorem hn_iadd {g : Bool} {d kc ks : Nat} {M : hnM} {P : Option Value → Nat → hnD → Prop} {pc : Nat} {ls st : List Value} {n : Nat} {D : hnD} {nx tg c k : Nat} {v : Value} {x y : Int32} (hr : hn_lk (hn_rows M) pc = some (.iadd, 1, nx, tg, v, c, k)) (h : hn_R g d kc ks M P nx ls (.int (x + y) :: st) n D) : hn_R g d kc ks M P pc ls (.int y :: .int x :: st) n D := by
  intro p l e R s m args below meth cd dC dI ty ad b0 L xs Q C F H locs cells slots lsA hS hc hs hL
  obtain ⟨hx, hb, hrt, hml, hown, hts, hlk, hin, hK, had, hb0, hK0, hfr, hlo, hok, hX, hXb⟩ := id C
  obtain ⟨hd, rfl, -⟩ := hn_row hok hr
  exact lv_iadd hx hb hd (h p l e R s m args below meth cd dC dI ty ad b0 L xs Q C F H locs cells slots lsA hS hc hs hL)
theorem hn_isub {g : Bool} {d kc ks : Nat} {M : hnM} {P : Option Value → Nat → hnD → Prop} {pc : Nat} {ls st : List Value} {n : Nat} {D : hnD} {nx tg c k : Nat} {v : Value} {x y : Int32} (hr : hn_lk (hn_rows M) pc = some (.isub, 1, nx, tg, v, c, k)) (h : hn_R g d kc ks M P nx ls (.int (x - y) :: st) n D) : hn_R g d kc ks M P pc ls (.int y :: .int x :: st) n D := by
  intro p l e R s m args below meth cd dC dI ty ad b0 L xs Q C F H locs cells slots lsA hS hc hs hL
  obtain ⟨hx, hb, hrt, hml, hown, hts, hlk, hin, hK, had, hb0, hK0, hfr, hlo, hok, hX, hXb⟩ := id C
  obtain ⟨hd, rfl, -⟩ := hn_row hok hr
  exact lv_isub hx hb hd (h p l e R s m args below meth cd dC dI ty ad b0 L xs Q C F H locs cells slots lsA hS hc hs hL)
theorem hn_imul {g : Bool} {d kc ks : Nat} {M : hnM} {P : Option Value → Nat → hnD → Prop} {pc : Nat} {ls st : List Value} {n : Nat} {D : hnD} {nx tg c k : Nat} {v : Value} {x y : Int32} (hr : hn_lk (hn_rows M) pc = some (.imul, 1, nx, tg, v, c, k)) (h : hn_R g d kc ks M P nx ls (.int (x * y) :: st) n D) : hn_R g d kc ks M P pc ls (.int y :: .int x :: st) n D := by
  intro p l e R s m args below meth cd dC dI ty ad b0 L xs Q C F H locs cells slots lsA hS hc hs hL
  obtain ⟨hx, hb, hrt, hml, hown, hts, hlk, hin, hK, had, hb0, hK0, hfr, hlo, hok, hX, hXb⟩ := id C
  obtain ⟨hd, rfl, -⟩ := hn_row hok hr
  exact lv_imul hx hb hd (h p l e R s m args below meth cd dC dI ty ad b0 L xs Q C F H locs cells slots lsA hS hc hs hL)
theorem hn_iand {g : Bool} {d kc ks : Nat} {M : hnM} {P : Option Value → Nat → hnD → Prop} {pc : Nat} {ls st : List Value} {n : Nat} {D : hnD} {nx tg c k : Nat} {v : Value} {x y : Int32} (hr : hn_lk (hn_rows M) pc = some (.iand, 1, nx, tg, v, c, k)) (h : hn_R g d kc ks M P nx ls (.int (x &&& y) :: st) n D) : hn_R g d kc ks M P pc ls (.int y :: .int x :: st) n D := by
  intro p l e R s m args below meth cd dC dI ty ad b0 L xs Q C F H locs cells slots lsA hS hc hs hL
  obtain ⟨hx, hb, hrt, hml, hown, hts, hlk, hin, hK, had, hb0, hK0, hfr, hlo, hok, hX, hXb⟩ := id C
  obtain ⟨hd, rfl, -⟩ := hn_row hok hr
  exact lv_iand hx hb hd (h p l e R s m args below meth cd dC dI ty ad b0 L xs Q C F H locs cells slots lsA hS hc hs hL)
theorem hn_ior {g : Bool} {d kc ks : Nat} {M : hnM} {P : Option Value → Nat → hnD → Prop} {pc : Nat} {ls st : List Value} {n : Nat} {D : hnD} {nx tg c k : Nat} {v : Value} {x y : Int32} (hr : hn_lk (hn_rows M) pc = some (.ior, 1, nx, tg, v, c, k)) (h : hn_R g d kc ks M P nx ls (.int (x ||| y) :: st) n D) : hn_R g d kc ks M P pc ls (.int y :: .int x :: st) n D := by
  intro p l e R s m args below meth cd dC dI ty ad b0 L xs Q C F H locs cells slots lsA hS hc hs hL
  obtain ⟨hx, hb, hrt, hml, hown, hts, hlk, hin, hK, had, hb0, hK0, hfr, hlo, hok, hX, hXb⟩ := id C
  obtain ⟨hd, rfl, -⟩ := hn_row hok hr
  exact lv_ior hx hb hd (h p l e R s m args below meth cd dC dI ty ad b0 L xs Q C F H locs cells slots lsA hS hc hs hL)
theorem hn_ixor {g : Bool} {d kc ks : Nat} {M : hnM} {P : Option Value → Nat → hnD → Prop} {pc : Nat} {ls st : List Value} {n : Nat} {D : hnD} {nx tg c k : Nat} {v : Value} {x y : Int32} (hr : hn_lk (hn_rows M) pc = some (.ixor, 1, nx, tg, v, c, k)) (h : hn_R g d kc ks M P nx ls (.int (x ^^^ y) :: st) n D) : hn_R g d kc ks M P pc ls (.int y :: .int x :: st) n D := by
  intro p l e R s m args below meth cd dC dI ty ad b0 L xs Q C F H locs cells slots lsA hS hc hs hL
  obtain ⟨hx, hb, hrt, hml, hown, hts, hlk, hin, hK, had, hb0, hK0, hfr, hlo, hok, hX, hXb⟩ := id C
  obtain ⟨hd, rfl, -⟩ := hn_row hok hr
  exact lv_ixor hx hb hd (h p l e R s m args below meth cd dC dI ty ad b0 L xs Q C F H locs cells slots lsA hS hc hs hL)
theorem hn_ishl {g : Bool} {d kc ks : Nat} {M : hnM} {P : Option Value → Nat → hnD → Prop} {pc : Nat} {ls st : List Value} {n : Nat} {D : hnD} {nx tg c k : Nat} {v : Value} {x y : Int32} (hr : hn_lk (hn_rows M) pc = some (.ishl, 1, nx, tg, v, c, k)) (h : hn_R g d kc ks M P nx ls (.int (x <<< (y &&& 31)) :: st) n D) : hn_R g d kc ks M P pc ls (.int y :: .int x :: st) n D := by
  intro p l e R s m args below meth cd dC dI ty ad b0 L xs Q C F H locs cells slots lsA hS hc hs hL
  obtain ⟨hx, hb, hrt, hml, hown, hts, hlk, hin, hK, had, hb0, hK0, hfr, hlo, hok, hX, hXb⟩ := id C
  obtain ⟨hd, rfl, -⟩ := hn_row hok hr
  exact lv_ishl hx hb hd (h p l e R s m args below meth cd dC dI ty ad b0 L xs Q C F H locs cells slots lsA hS hc hs hL)
theorem hn_ishr {g : Bool} {d kc ks : Nat} {M : hnM} {P : Option Value → Nat → hnD → Prop} {pc : Nat} {ls st : List Value} {n : Nat} {D : hnD} {nx tg c k : Nat} {v : Value} {x y : Int32} (hr : hn_lk (hn_rows M) pc = some (.ishr, 1, nx, tg, v, c, k)) (h : hn_R g d kc ks M P nx ls (.int (x >>> (y &&& 31)) :: st) n D) : hn_R g d kc ks M P pc ls (.int y :: .int x :: st) n D := by
  intro p l e R s m args below meth cd dC dI ty ad b0 L xs Q C F H locs cells slots lsA hS hc hs hL
  obtain ⟨hx, hb, hrt, hml, hown, hts, hlk, hin, hK, had, hb0, hK0, hfr, hlo, hok, hX, hXb⟩ := id C
  obtain ⟨hd, rfl, -⟩ := hn_row hok hr
  exact lv_ishr hx hb hd (h p l e R s m args below meth cd dC dI ty ad b0 L xs Q C F H locs cells slots lsA hS hc hs hL)
theorem hn_iushr {g : Bool} {d kc ks : Nat} {M : hnM} {P : Option Value → Nat → hnD → Prop} {pc : Nat} {ls st : List Value} {n : Nat} {D : hnD} {nx tg c k : Nat} {v : Value} {x y : Int32} (hr : hn_lk (hn_rows M) pc = some (.iushr, 1, nx, tg, v, c, k)) (h : hn_R g d kc ks M P nx ls (.int ((x.toUInt32 >>> (y.toUInt32 &&& Int32.toUInt32 31)).toInt32) :: st) n D) : hn_R g d kc ks M P pc ls (.int y :: .int x :: st) n D := by
  intro p l e R s m args below meth cd dC dI ty ad b0 L xs Q C F H locs cells slots lsA hS hc hs hL
  obtain ⟨hx, hb, hrt, hml, hown, hts, hlk, hin, hK, had, hb0, hK0, hfr, hlo, hok, hX, hXb⟩ := id C
  obtain ⟨hd, rfl, -⟩ := hn_row hok hr
  exact lv_iushr hx hb hd rfl (h p l e R s m args below meth cd dC dI ty ad b0 L xs Q C F H locs cells slots lsA hS hc hs hL)
theorem hn_idiv {g : Bool} {d kc ks : Nat} {M : hnM} {P : Option Value → Nat → hnD → Prop} {pc : Nat} {ls st : List Value} {n : Nat} {D : hnD} {nx tg c k : Nat} {v : Value} {x y : Int32} (hr : hn_lk (hn_rows M) pc = some (.idiv, 1, nx, tg, v, c, k)) (hne : ¬ y = 0) (h : hn_R g d kc ks M P nx ls (.int (x / y) :: st) n D) : hn_R g d kc ks M P pc ls (.int y :: .int x :: st) n D := by
  intro p l e R s m args below meth cd dC dI ty ad b0 L xs Q C F H locs cells slots lsA hS hc hs hL
  obtain ⟨hx, hb, hrt, hml, hown, hts, hlk, hin, hK, had, hb0, hK0, hfr, hlo, hok, hX, hXb⟩ := id C
  obtain ⟨hd, rfl, -⟩ := hn_row hok hr
  exact lv_idiv hx hb hd hne (h p l e R s m args below meth cd dC dI ty ad b0 L xs Q C F H locs cells slots lsA hS hc hs hL)
theorem hn_irem {g : Bool} {d kc ks : Nat} {M : hnM} {P : Option Value → Nat → hnD → Prop} {pc : Nat} {ls st : List Value} {n : Nat} {D : hnD} {nx tg c k : Nat} {v : Value} {x y : Int32} (hr : hn_lk (hn_rows M) pc = some (.irem, 1, nx, tg, v, c, k)) (hne : ¬ y = 0) (h : hn_R g d kc ks M P nx ls (.int (x - x / y * y) :: st) n D) : hn_R g d kc ks M P pc ls (.int y :: .int x :: st) n D := by
  intro p l e R s m args below meth cd dC dI ty ad b0 L xs Q C F H locs cells slots lsA hS hc hs hL
  obtain ⟨hx, hb, hrt, hml, hown, hts, hlk, hin, hK, had, hb0, hK0, hfr, hlo, hok, hX, hXb⟩ := id C
  obtain ⟨hd, rfl, -⟩ := hn_row hok hr
  exact lv_irem hx hb hd hne (h p l e R s m args below meth cd dC dI ty ad b0 L xs Q C F H locs cells slots lsA hS hc hs hL)
theorem hn_ineg {g : Bool} {d kc ks : Nat} {M : hnM} {P : Option Value → Nat → hnD → Prop} {pc : Nat} {ls st : List Value} {n : Nat} {D : hnD} {nx tg c k : Nat} {v : Value} {x : Int32} (hr : hn_lk (hn_rows M) pc = some (.ineg, 1, nx, tg, v, c, k)) (h : hn_R g d kc ks M P nx ls (.int (-x) :: st) n D) : hn_R g d kc ks M P pc ls (.int x :: st) n D := by
  intro p l e R s m args below meth cd dC dI ty ad b0 L xs Q C F H locs cells slots lsA hS hc hs hL
  obtain ⟨hx, hb, hrt, hml, hown, hts, hlk, hin, hK, had, hb0, hK0, hfr, hlo, hok, hX, hXb⟩ := id C
  obtain ⟨hd, rfl, -⟩ := hn_row hok hr
  exact lv_ineg hx hb hd (h p l e R s m args below meth cd dC dI ty ad b0 L xs Q C F H locs cells slots lsA hS hc hs hL)
theorem hn_ladd {g : Bool} {d kc ks : Nat} {M : hnM} {P : Option Value → Nat → hnD → Prop} {pc : Nat} {ls st : List Value} {n : Nat} {D : hnD} {nx tg c k : Nat} {v : Value} {x y : Int64} (hr : hn_lk (hn_rows M) pc = some (.ladd, 1, nx, tg, v, c, k)) (h : hn_R g d kc ks M P nx ls (.long (x + y) :: st) n D) : hn_R g d kc ks M P pc ls (.long y :: .long x :: st) n D := by
  intro p l e R s m args below meth cd dC dI ty ad b0 L xs Q C F H locs cells slots lsA hS hc hs hL
  obtain ⟨hx, hb, hrt, hml, hown, hts, hlk, hin, hK, had, hb0, hK0, hfr, hlo, hok, hX, hXb⟩ := id C
  obtain ⟨hd, rfl, -⟩ := hn_row hok hr
  exact lv_ladd hx hb hd (h p l e R s m args below meth cd dC dI ty ad b0 L xs Q C F H locs cells slots lsA hS hc hs hL)
theorem hn_lsub {g : Bool} {d kc ks : Nat} {M : hnM} {P : Option Value → Nat → hnD → Prop} {pc : Nat} {ls st : List Value} {n : Nat} {D : hnD} {nx tg c k : Nat} {v : Value} {x y : Int64} (hr : hn_lk (hn_rows M) pc = some (.lsub, 1, nx, tg, v, c, k)) (h : hn_R g d kc ks M P nx ls (.long (x - y) :: st) n D) : hn_R g d kc ks M P pc ls (.long y :: .long x :: st) n D := by
  intro p l e R s m args below meth cd dC dI ty ad b0 L xs Q C F H locs cells slots lsA hS hc hs hL
  obtain ⟨hx, hb, hrt, hml, hown, hts, hlk, hin, hK, had, hb0, hK0, hfr, hlo, hok, hX, hXb⟩ := id C
  obtain ⟨hd, rfl, -⟩ := hn_row hok hr
  exact lv_lsub hx hb hd (h p l e R s m args below meth cd dC dI ty ad b0 L xs Q C F H locs cells slots lsA hS hc hs hL)
theorem hn_lmul {g : Bool} {d kc ks : Nat} {M : hnM} {P : Option Value → Nat → hnD → Prop} {pc : Nat} {ls st : List Value} {n : Nat} {D : hnD} {nx tg c k : Nat} {v : Value} {x y : Int64} (hr : hn_lk (hn_rows M) pc = some (.lmul, 1, nx, tg, v, c, k)) (h : hn_R g d kc ks M P nx ls (.long (x * y) :: st) n D) : hn_R g d kc ks M P pc ls (.long y :: .long x :: st) n D := by
  intro p l e R s m args below meth cd dC dI ty ad b0 L xs Q C F H locs cells slots lsA hS hc hs hL
  obtain ⟨hx, hb, hrt, hml, hown, hts, hlk, hin, hK, had, hb0, hK0, hfr, hlo, hok, hX, hXb⟩ := id C
  obtain ⟨hd, rfl, -⟩ := hn_row hok hr
  exact lv_lmul hx hb hd (h p l e R s m args below meth cd dC dI ty ad b0 L xs Q C F H locs cells slots lsA hS hc hs hL)
theorem hn_land {g : Bool} {d kc ks : Nat} {M : hnM} {P : Option Value → Nat → hnD → Prop} {pc : Nat} {ls st : List Value} {n : Nat} {D : hnD} {nx tg c k : Nat} {v : Value} {x y : Int64} (hr : hn_lk (hn_rows M) pc = some (.land, 1, nx, tg, v, c, k)) (h : hn_R g d kc ks M P nx ls (.long (x &&& y) :: st) n D) : hn_R g d kc ks M P pc ls (.long y :: .long x :: st) n D := by
  intro p l e R s m args below meth cd dC dI ty ad b0 L xs Q C F H locs cells slots lsA hS hc hs hL
  obtain ⟨hx, hb, hrt, hml, hown, hts, hlk, hin, hK, had, hb0, hK0, hfr, hlo, hok, hX, hXb⟩ := id C
  obtain ⟨hd, rfl, -⟩ := hn_row hok hr
  exact lv_land hx hb hd (h p l e R s m args below meth cd dC dI ty ad b0 L xs Q C F H locs cells slots lsA hS hc hs hL)
theorem hn_lor {g : Bool} {d kc ks : Nat} {M : hnM} {P : Option Value → Nat → hnD → Prop} {pc : Nat} {ls st : List Value} {n : Nat} {D : hnD} {nx tg c k : Nat} {v : Value} {x y : Int64} (hr : hn_lk (hn_rows M) pc = some (.lor, 1, nx, tg, v, c, k)) (h : hn_R g d kc ks M P nx ls (.long (x ||| y) :: st) n D) : hn_R g d kc ks M P pc ls (.long y :: .long x :: st) n D := by
  intro p l e R s m args below meth cd dC dI ty ad b0 L xs Q C F H locs cells slots lsA hS hc hs hL
  obtain ⟨hx, hb, hrt, hml, hown, hts, hlk, hin, hK, had, hb0, hK0, hfr, hlo, hok, hX, hXb⟩ := id C
  obtain ⟨hd, rfl, -⟩ := hn_row hok hr
  exact lv_lor hx hb hd (h p l e R s m args below meth cd dC dI ty ad b0 L xs Q C F H locs cells slots lsA hS hc hs hL)
theorem hn_lxor {g : Bool} {d kc ks : Nat} {M : hnM} {P : Option Value → Nat → hnD → Prop} {pc : Nat} {ls st : List Value} {n : Nat} {D : hnD} {nx tg c k : Nat} {v : Value} {x y : Int64} (hr : hn_lk (hn_rows M) pc = some (.lxor, 1, nx, tg, v, c, k)) (h : hn_R g d kc ks M P nx ls (.long (x ^^^ y) :: st) n D) : hn_R g d kc ks M P pc ls (.long y :: .long x :: st) n D := by
  intro p l e R s m args below meth cd dC dI ty ad b0 L xs Q C F H locs cells slots lsA hS hc hs hL
  obtain ⟨hx, hb, hrt, hml, hown, hts, hlk, hin, hK, had, hb0, hK0, hfr, hlo, hok, hX, hXb⟩ := id C
  obtain ⟨hd, rfl, -⟩ := hn_row hok hr
  exact lv_lxor hx hb hd (h p l e R s m args below meth cd dC dI ty ad b0 L xs Q C F H locs cells slots lsA hS hc hs hL)
theorem hn_ldiv {g : Bool} {d kc ks : Nat} {M : hnM} {P : Option Value → Nat → hnD → Prop} {pc : Nat} {ls st : List Value} {n : Nat} {D : hnD} {nx tg c k : Nat} {v : Value} {x y : Int64} (hr : hn_lk (hn_rows M) pc = some (.ldiv, 1, nx, tg, v, c, k)) (hne : ¬ y = 0) (h : hn_R g d kc ks M P nx ls (.long (x / y) :: st) n D) : hn_R g d kc ks M P pc ls (.long y :: .long x :: st) n D := by
  intro p l e R s m args below meth cd dC dI ty ad b0 L xs Q C F H locs cells slots lsA hS hc hs hL
  obtain ⟨hx, hb, hrt, hml, hown, hts, hlk, hin, hK, had, hb0, hK0, hfr, hlo, hok, hX, hXb⟩ := id C
  obtain ⟨hd, rfl, -⟩ := hn_row hok hr
  exact lv_ldiv hx hb hd hne (h p l e R s m args below meth cd dC dI ty ad b0 L xs Q C F H locs cells slots lsA hS hc hs hL)
theorem hn_lrem {g : Bool} {d kc ks : Nat} {M : hnM} {P : Option Value → Nat → hnD → Prop} {pc : Nat} {ls st : List Value} {n : Nat} {D : hnD} {nx tg c k : Nat} {v : Value} {x y : Int64} (hr : hn_lk (hn_rows M) pc = some (.lrem, 1, nx, tg, v, c, k)) (hne : ¬ y = 0) (h : hn_R g d kc ks M P nx ls (.long (x - x / y * y) :: st) n D) : hn_R g d kc ks M P pc ls (.long y :: .long x :: st) n D := by
  intro p l e R s m args below meth cd dC dI ty ad b0 L xs Q C F H locs cells slots lsA hS hc hs hL
  obtain ⟨hx, hb, hrt, hml, hown, hts, hlk, hin, hK, had, hb0, hK0, hfr, hlo, hok, hX, hXb⟩ := id C
  obtain ⟨hd, rfl, -⟩ := hn_row hok hr
  exact lv_lrem hx hb hd hne (h p l e R s m args below meth cd dC dI ty ad b0 L xs Q C F H locs cells slots lsA hS hc hs hL)
theorem hn_lshl {g : Bool} {d kc ks : Nat} {M : hnM} {P : Option Value → Nat → hnD → Prop} {pc : Nat} {ls st : List Value} {n : Nat} {D : hnD} {nx tg c k : Nat} {v : Value} {x : Int64} {y : Int32} (hr : hn_lk (hn_rows M) pc = some (.lshl, 1, nx, tg, v, c, k)) (h : hn_R g d kc ks M P nx ls (.long (x <<< (y.toInt64 &&& 63)) :: st) n D) : hn_R g d kc ks M P pc ls (.int y :: .long x :: st) n D := by
  intro p l e R s m args below meth cd dC dI ty ad b0 L xs Q C F H locs cells slots lsA hS hc hs hL
  obtain ⟨hx, hb, hrt, hml, hown, hts, hlk, hin, hK, had, hb0, hK0, hfr, hlo, hok, hX, hXb⟩ := id C
  obtain ⟨hd, rfl, -⟩ := hn_row hok hr
  exact lv_lshl hx hb hd rfl (h p l e R s m args below meth cd dC dI ty ad b0 L xs Q C F H locs cells slots lsA hS hc hs hL)
theorem hn_lshr {g : Bool} {d kc ks : Nat} {M : hnM} {P : Option Value → Nat → hnD → Prop} {pc : Nat} {ls st : List Value} {n : Nat} {D : hnD} {nx tg c k : Nat} {v : Value} {x : Int64} {y : Int32} (hr : hn_lk (hn_rows M) pc = some (.lshr, 1, nx, tg, v, c, k)) (h : hn_R g d kc ks M P nx ls (.long (x >>> (y.toInt64 &&& 63)) :: st) n D) : hn_R g d kc ks M P pc ls (.int y :: .long x :: st) n D := by
  intro p l e R s m args below meth cd dC dI ty ad b0 L xs Q C F H locs cells slots lsA hS hc hs hL
  obtain ⟨hx, hb, hrt, hml, hown, hts, hlk, hin, hK, had, hb0, hK0, hfr, hlo, hok, hX, hXb⟩ := id C
  obtain ⟨hd, rfl, -⟩ := hn_row hok hr
  exact lv_lshr hx hb hd rfl (h p l e R s m args below meth cd dC dI ty ad b0 L xs Q C F H locs cells slots lsA hS hc hs hL)
theorem hn_lushr {g : Bool} {d kc ks : Nat} {M : hnM} {P : Option Value → Nat → hnD → Prop} {pc : Nat} {ls st : List Value} {n : Nat} {D : hnD} {nx tg c k : Nat} {v : Value} {x : Int64} {y : Int32} (hr : hn_lk (hn_rows M) pc = some (.lushr, 1, nx, tg, v, c, k)) (h : hn_R g d kc ks M P nx ls (.long ((x.toUInt64 >>> (y.toInt64.toUInt64 &&& Int64.toUInt64 63)).toInt64) :: st) n D) : hn_R g d kc ks M P pc ls (.int y :: .long x :: st) n D := by
  intro p l e R s m args below meth cd dC dI ty ad b0 L xs Q C F H locs cells slots lsA hS hc hs hL
  obtain ⟨hx, hb, hrt, hml, hown, hts, hlk, hin, hK, had, hb0, hK0, hfr, hlo, hok, hX, hXb⟩ := id C
  obtain ⟨hd, rfl, -⟩ := hn_row hok hr
  exact lv_lushr hx hb hd rfl (h p l e R s m args below meth cd dC dI ty ad b0 L xs Q C F H locs cells slots lsA hS hc hs hL)
theorem hn_lcmp {g : Bool} {d kc ks : Nat} {M : hnM} {P : Option Value → Nat → hnD → Prop} {pc : Nat} {ls st : List Value} {n : Nat} {D : hnD} {nx tg c k : Nat} {v : Value} {x y : Int64} (hr : hn_lk (hn_rows M) pc = some (.lcmp, 1, nx, tg, v, c, k)) (h : hn_R g d kc ks M P nx ls (.int (lg_cmp x y) :: st) n D) : hn_R g d kc ks M P pc ls (.long y :: .long x :: st) n D := by
  intro p l e R s m args below meth cd dC dI ty ad b0 L xs Q C F H locs cells slots lsA hS hc hs hL
  obtain ⟨hx, hb, hrt, hml, hown, hts, hlk, hin, hK, had, hb0, hK0, hfr, hlo, hok, hX, hXb⟩ := id C
  obtain ⟨hd, rfl, -⟩ := hn_row hok hr
  exact W.lcmp hx hb hd (h p l e R s m args below meth cd dC dI ty ad b0 L xs Q C F H locs cells slots lsA hS hc hs hL)
theorem hn_i2l {g : Bool} {d kc ks : Nat} {M : hnM} {P : Option Value → Nat → hnD → Prop} {pc : Nat} {ls st : List Value} {n : Nat} {D : hnD} {nx tg c k : Nat} {v : Value} {x : Int32} (hr : hn_lk (hn_rows M) pc = some (.i2l, 1, nx, tg, v, c, k)) (h : hn_R g d kc ks M P nx ls (.long x.toInt64 :: st) n D) : hn_R g d kc ks M P pc ls (.int x :: st) n D := by
  intro p l e R s m args below meth cd dC dI ty ad b0 L xs Q C F H locs cells slots lsA hS hc hs hL
  obtain ⟨hx, hb, hrt, hml, hown, hts, hlk, hin, hK, had, hb0, hK0, hfr, hlo, hok, hX, hXb⟩ := id C
  obtain ⟨hd, rfl, -⟩ := hn_row hok hr
  exact lv_i2l hx hb hd rfl (h p l e R s m args below meth cd dC dI ty ad b0 L xs Q C F H locs cells slots lsA hS hc hs hL)
theorem hn_l2i {g : Bool} {d kc ks : Nat} {M : hnM} {P : Option Value → Nat → hnD → Prop} {pc : Nat} {ls st : List Value} {n : Nat} {D : hnD} {nx tg c k : Nat} {v : Value} {x : Int64} (hr : hn_lk (hn_rows M) pc = some (.l2i, 1, nx, tg, v, c, k)) (h : hn_R g d kc ks M P nx ls (.int x.toInt32 :: st) n D) : hn_R g d kc ks M P pc ls (.long x :: st) n D := by
  intro p l e R s m args below meth cd dC dI ty ad b0 L xs Q C F H locs cells slots lsA hS hc hs hL
  obtain ⟨hx, hb, hrt, hml, hown, hts, hlk, hin, hK, had, hb0, hK0, hfr, hlo, hok, hX, hXb⟩ := id C
  obtain ⟨hd, rfl, -⟩ := hn_row hok hr
  exact lv_l2i hx hb hd rfl (h p l e R s m args below meth cd dC dI ty ad b0 L xs Q C F H locs cells slots lsA hS hc hs hL)
theorem hn_i2c {g : Bool} {d kc ks : Nat} {M : hnM} {P : Option Value → Nat → hnD → Prop} {pc : Nat} {ls st : List Value} {n : Nat} {D : hnD} {nx tg c k : Nat} {v : Value} {x : Int32} (hr : hn_lk (hn_rows M) pc = some (.i2c, 1, nx, tg, v, c, k)) (h : hn_R g d kc ks M P nx ls (.int ((x.toUInt32 % 65536).toInt32) :: st) n D) : hn_R g d kc ks M P pc ls (.int x :: st) n D := by
  intro p l e R s m args below meth cd dC dI ty ad b0 L xs Q C F H locs cells slots lsA hS hc hs hL
  obtain ⟨hx, hb, hrt, hml, hown, hts, hlk, hin, hK, had, hb0, hK0, hfr, hlo, hok, hX, hXb⟩ := id C
  obtain ⟨hd, rfl, -⟩ := hn_row hok hr
  exact lv_i2c hx hb hd rfl (h p l e R s m args below meth cd dC dI ty ad b0 L xs Q C F H locs cells slots lsA hS hc hs hL)
theorem hn_iconst {g : Bool} {d kc ks : Nat} {M : hnM} {P : Option Value → Nat → hnD → Prop} {pc : Nat} {ls st : List Value} {n : Nat} {D : hnD} {nx tg c k : Nat} {v : Value} {z : Int} (hr : hn_lk (hn_rows M) pc = some (.iconst z, 1, nx, tg, v, c, k)) (h : hn_R g d kc ks M P nx ls (v :: st) n D) : hn_R g d kc ks M P pc ls (st) n D := by
  intro p l e R s m args below meth cd dC dI ty ad b0 L xs Q C F H locs cells slots lsA hS hc hs hL
  obtain ⟨hx, hb, hrt, hml, hown, hts, hlk, hin, hK, had, hb0, hK0, hfr, hlo, hok, hX, hXb⟩ := id C
  obtain ⟨hd, rfl, hv⟩ := hn_row hok hr
  have hv := of_decide_eq_true hv
  subst hv
  exact lv_iconst hx hb hd rfl (h p l e R s m args below meth cd dC dI ty ad b0 L xs Q C F H locs cells slots lsA hS hc hs hL)
theorem hn_bipush {g : Bool} {d kc ks : Nat} {M : hnM} {P : Option Value → Nat → hnD → Prop} {pc : Nat} {ls st : List Value} {n : Nat} {D : hnD} {nx tg c k : Nat} {v : Value} {z : Int} (hr : hn_lk (hn_rows M) pc = some (.bipush z, 2, nx, tg, v, c, k)) (h : hn_R g d kc ks M P nx ls (v :: st) n D) : hn_R g d kc ks M P pc ls (st) n D := by
  intro p l e R s m args below meth cd dC dI ty ad b0 L xs Q C F H locs cells slots lsA hS hc hs hL
  obtain ⟨hx, hb, hrt, hml, hown, hts, hlk, hin, hK, had, hb0, hK0, hfr, hlo, hok, hX, hXb⟩ := id C
  obtain ⟨hd, rfl, hv⟩ := hn_row hok hr
  have hv := of_decide_eq_true hv
  subst hv
  exact lv_bipush hx hb hd rfl (h p l e R s m args below meth cd dC dI ty ad b0 L xs Q C F H locs cells slots lsA hS hc hs hL)
theorem hn_sipush {g : Bool} {d kc ks : Nat} {M : hnM} {P : Option Value → Nat → hnD → Prop} {pc : Nat} {ls st : List Value} {n : Nat} {D : hnD} {nx tg c k : Nat} {v : Value} {z : Int} (hr : hn_lk (hn_rows M) pc = some (.sipush z, 3, nx, tg, v, c, k)) (h : hn_R g d kc ks M P nx ls (v :: st) n D) : hn_R g d kc ks M P pc ls (st) n D := by
  intro p l e R s m args below meth cd dC dI ty ad b0 L xs Q C F H locs cells slots lsA hS hc hs hL
  obtain ⟨hx, hb, hrt, hml, hown, hts, hlk, hin, hK, had, hb0, hK0, hfr, hlo, hok, hX, hXb⟩ := id C
  obtain ⟨hd, rfl, hv⟩ := hn_row hok hr
  have hv := of_decide_eq_true hv
  subst hv
  exact lv_sipush hx hb hd rfl (h p l e R s m args below meth cd dC dI ty ad b0 L xs Q C F H locs cells slots lsA hS hc hs hL)
theorem hn_lconst {g : Bool} {d kc ks : Nat} {M : hnM} {P : Option Value → Nat → hnD → Prop} {pc : Nat} {ls st : List Value} {n : Nat} {D : hnD} {nx tg c k : Nat} {v : Value} {z : Fin 2} (hr : hn_lk (hn_rows M) pc = some (.lconst z, 1, nx, tg, v, c, k)) (h : hn_R g d kc ks M P nx ls (v :: st) n D) : hn_R g d kc ks M P pc ls (st) n D := by
  intro p l e R s m args below meth cd dC dI ty ad b0 L xs Q C F H locs cells slots lsA hS hc hs hL
  obtain ⟨hx, hb, hrt, hml, hown, hts, hlk, hin, hK, had, hb0, hK0, hfr, hlo, hok, hX, hXb⟩ := id C
  obtain ⟨hd, rfl, hv⟩ := hn_row hok hr
  have hv := of_decide_eq_true hv
  subst hv
  exact lv_lconst hx hb hd rfl (h p l e R s m args below meth cd dC dI ty ad b0 L xs Q C F H locs cells slots lsA hS hc hs hL)
theorem hn_ldc {g : Bool} {d kc ks : Nat} {M : hnM} {P : Option Value → Nat → hnD → Prop} {pc : Nat} {ls st : List Value} {n : Nat} {D : hnD} {nx tg c k : Nat} {v : Value} {z : Nat} (hr : hn_lk (hn_rows M) pc = some (.ldc z, 2, nx, tg, v, c, k)) (h : hn_R g d kc ks M P nx ls (v :: st) n D) : hn_R g d kc ks M P pc ls (st) n D := by
  intro p l e R s m args below meth cd dC dI ty ad b0 L xs Q C F H locs cells slots lsA hS hc hs hL
  obtain ⟨hx, hb, hrt, hml, hown, hts, hlk, hin, hK, had, hb0, hK0, hfr, hlo, hok, hX, hXb⟩ := id C
  obtain ⟨hd, rfl, hv⟩ := hn_row hok hr
  simp only [hn_ex] at hv
  split at hv
  · exact lv_ldc hx hb hown (hts _ (hn_at_in hv)) hd (h p l e R s m args below meth cd dC dI ty ad b0 L xs Q C F H locs cells slots lsA hS hc hs hL)
  · cases hv
theorem hn_ldc_w {g : Bool} {d kc ks : Nat} {M : hnM} {P : Option Value → Nat → hnD → Prop} {pc : Nat} {ls st : List Value} {n : Nat} {D : hnD} {nx tg c k : Nat} {v : Value} {z : Nat} (hr : hn_lk (hn_rows M) pc = some (.ldc_w z, 3, nx, tg, v, c, k)) (hc7 : ¬ c = 7777) (h : hn_R g d kc ks M P nx ls (v :: st) n D) : hn_R g d kc ks M P pc ls (st) n D := by
  intro p l e R s m args below meth cd dC dI ty ad b0 L xs Q C F H locs cells slots lsA hS hc hs hL
  obtain ⟨hx, hb, hrt, hml, hown, hts, hlk, hin, hK, had, hb0, hK0, hfr, hlo, hok, hX, hXb⟩ := id C
  obtain ⟨hd, rfl, hv⟩ := hn_row hok hr
  simp only [hn_ex, if_neg hc7] at hv
  split at hv
  · exact lv_ldcw hx hb hown (hts _ (hn_at_in hv)) hd (h p l e R s m args below meth cd dC dI ty ad b0 L xs Q C F H locs cells slots lsA hS hc hs hL)
  · cases hv
theorem hn_ldc2_w {g : Bool} {d kc ks : Nat} {M : hnM} {P : Option Value → Nat → hnD → Prop} {pc : Nat} {ls st : List Value} {n : Nat} {D : hnD} {nx tg c k : Nat} {v : Value} {z : Nat} (hr : hn_lk (hn_rows M) pc = some (.ldc2_w z, 3, nx, tg, v, c, k)) (h : hn_R g d kc ks M P nx ls (v :: st) n D) : hn_R g d kc ks M P pc ls (st) n D := by
  intro p l e R s m args below meth cd dC dI ty ad b0 L xs Q C F H locs cells slots lsA hS hc hs hL
  obtain ⟨hx, hb, hrt, hml, hown, hts, hlk, hin, hK, had, hb0, hK0, hfr, hlo, hok, hX, hXb⟩ := id C
  obtain ⟨hd, rfl, hv⟩ := hn_row hok hr
  simp only [hn_ex] at hv
  split at hv
  · exact lv_ldc2 hx hb hown (hts _ (hn_at_in hv)) hd (h p l e R s m args below meth cd dC dI ty ad b0 L xs Q C F H locs cells slots lsA hS hc hs hL)
  · cases hv
theorem hn_iload_n {g : Bool} {d kc ks : Nat} {M : hnM} {P : Option Value → Nat → hnD → Prop} {pc : Nat} {ls st : List Value} {n : Nat} {D : hnD} {nx tg c k : Nat} {v : Value} {j : Fin 4} {x : Int32} (hr : hn_lk (hn_rows M) pc = some (.iload_n j, 1, nx, tg, v, c, k)) (hl : ls[(j : Nat)]? = some (.int x)) (h : hn_R g d kc ks M P nx ls (.int x :: st) n D) : hn_R g d kc ks M P pc ls (st) n D := by
  intro p l e R s m args below meth cd dC dI ty ad b0 L xs Q C F H locs cells slots lsA hS hc hs hL
  obtain ⟨hx, hb, hrt, hml, hown, hts, hlk, hin, hK, had, hb0, hK0, hfr, hlo, hok, hX, hXb⟩ := id C
  obtain ⟨hd, rfl, -⟩ := hn_row hok hr
  exact lv_iload_n hx hb hd rfl (hL.2.2 _ _ hl (fun z => by cases z)) (h p l e R s m args below meth cd dC dI ty ad b0 L xs Q C F H locs cells slots lsA hS hc hs hL)
theorem hn_iload {g : Bool} {d kc ks : Nat} {M : hnM} {P : Option Value → Nat → hnD → Prop} {pc : Nat} {ls st : List Value} {n : Nat} {D : hnD} {nx tg c k : Nat} {v : Value} {j : Nat} {x : Int32} (hr : hn_lk (hn_rows M) pc = some (.iload j, 2, nx, tg, v, c, k)) (hl : ls[j]? = some (.int x)) (h : hn_R g d kc ks M P nx ls (.int x :: st) n D) : hn_R g d kc ks M P pc ls (st) n D := by
  intro p l e R s m args below meth cd dC dI ty ad b0 L xs Q C F H locs cells slots lsA hS hc hs hL
  obtain ⟨hx, hb, hrt, hml, hown, hts, hlk, hin, hK, had, hb0, hK0, hfr, hlo, hok, hX, hXb⟩ := id C
  obtain ⟨hd, rfl, -⟩ := hn_row hok hr
  exact lv_iload hx hb hd (hL.2.2 _ _ hl (fun z => by cases z)) (h p l e R s m args below meth cd dC dI ty ad b0 L xs Q C F H locs cells slots lsA hS hc hs hL)
theorem hn_istore_n {g : Bool} {d kc ks : Nat} {M : hnM} {P : Option Value → Nat → hnD → Prop} {pc : Nat} {ls st : List Value} {n : Nat} {D : hnD} {nx tg c k : Nat} {v : Value} {j : Fin 4} {x : Int32} (hr : hn_lk (hn_rows M) pc = some (.istore_n j, 1, nx, tg, v, c, k)) (hj : (j : Nat) < hn_mx M) (h : hn_R g d kc ks M P nx (hn_st1 ls (j : Nat) (.int x)) (st) n D) : hn_R g d kc ks M P pc ls (.int x :: st) n D := by
  intro p l e R s m args below meth cd dC dI ty ad b0 L xs Q C F H locs cells slots lsA hS hc hs hL
  obtain ⟨hx, hb, hrt, hml, hown, hts, hlk, hin, hK, had, hb0, hK0, hfr, hlo, hok, hX, hXb⟩ := id C
  obtain ⟨hd, rfl, -⟩ := hn_row hok hr
  exact lv_istore_n hx hb hd rfl hL.has hj rfl (fun lsB hB => h p l e R s m args below meth cd dC dI ty ad b0 L xs Q C F H locs cells slots lsB hS hc hs (hn_L.st1 (v := .int x) hB))
theorem hn_istore {g : Bool} {d kc ks : Nat} {M : hnM} {P : Option Value → Nat → hnD → Prop} {pc : Nat} {ls st : List Value} {n : Nat} {D : hnD} {nx tg c k : Nat} {v : Value} {j : Nat} {x : Int32} (hr : hn_lk (hn_rows M) pc = some (.istore j, 2, nx, tg, v, c, k)) (hj : (j : Nat) < hn_mx M) (h : hn_R g d kc ks M P nx (hn_st1 ls j (.int x)) (st) n D) : hn_R g d kc ks M P pc ls (.int x :: st) n D := by
  intro p l e R s m args below meth cd dC dI ty ad b0 L xs Q C F H locs cells slots lsA hS hc hs hL
  obtain ⟨hx, hb, hrt, hml, hown, hts, hlk, hin, hK, had, hb0, hK0, hfr, hlo, hok, hX, hXb⟩ := id C
  obtain ⟨hd, rfl, -⟩ := hn_row hok hr
  exact lv_istore hx hb hd hL.has hj rfl (fun lsB hB => h p l e R s m args below meth cd dC dI ty ad b0 L xs Q C F H locs cells slots lsB hS hc hs (hn_L.st1 (v := .int x) hB))
theorem hn_lload_n {g : Bool} {d kc ks : Nat} {M : hnM} {P : Option Value → Nat → hnD → Prop} {pc : Nat} {ls st : List Value} {n : Nat} {D : hnD} {nx tg c k : Nat} {v : Value} {j : Fin 4} {x : Int64} (hr : hn_lk (hn_rows M) pc = some (.lload_n j, 1, nx, tg, v, c, k)) (hl : ls[(j : Nat)]? = some (.long x)) (h : hn_R g d kc ks M P nx ls (.long x :: st) n D) : hn_R g d kc ks M P pc ls (st) n D := by
  intro p l e R s m args below meth cd dC dI ty ad b0 L xs Q C F H locs cells slots lsA hS hc hs hL
  obtain ⟨hx, hb, hrt, hml, hown, hts, hlk, hin, hK, had, hb0, hK0, hfr, hlo, hok, hX, hXb⟩ := id C
  obtain ⟨hd, rfl, -⟩ := hn_row hok hr
  exact lv_lload_n hx hb hd rfl (hL.2.2 _ _ hl (fun z => by cases z)) (h p l e R s m args below meth cd dC dI ty ad b0 L xs Q C F H locs cells slots lsA hS hc hs hL)
theorem hn_lload {g : Bool} {d kc ks : Nat} {M : hnM} {P : Option Value → Nat → hnD → Prop} {pc : Nat} {ls st : List Value} {n : Nat} {D : hnD} {nx tg c k : Nat} {v : Value} {j : Nat} {x : Int64} (hr : hn_lk (hn_rows M) pc = some (.lload j, 2, nx, tg, v, c, k)) (hl : ls[j]? = some (.long x)) (h : hn_R g d kc ks M P nx ls (.long x :: st) n D) : hn_R g d kc ks M P pc ls (st) n D := by
  intro p l e R s m args below meth cd dC dI ty ad b0 L xs Q C F H locs cells slots lsA hS hc hs hL
  obtain ⟨hx, hb, hrt, hml, hown, hts, hlk, hin, hK, had, hb0, hK0, hfr, hlo, hok, hX, hXb⟩ := id C
  obtain ⟨hd, rfl, -⟩ := hn_row hok hr
  exact lv_lload hx hb hd (hL.2.2 _ _ hl (fun z => by cases z)) (h p l e R s m args below meth cd dC dI ty ad b0 L xs Q C F H locs cells slots lsA hS hc hs hL)
theorem hn_lstore_n {g : Bool} {d kc ks : Nat} {M : hnM} {P : Option Value → Nat → hnD → Prop} {pc : Nat} {ls st : List Value} {n : Nat} {D : hnD} {nx tg c k : Nat} {v : Value} {j : Fin 4} {x : Int64} (hr : hn_lk (hn_rows M) pc = some (.lstore_n j, 1, nx, tg, v, c, k)) (hj : (j : Nat) + 1 < hn_mx M) (h : hn_R g d kc ks M P nx (hn_st2 ls (j : Nat) (.long x)) (st) n D) : hn_R g d kc ks M P pc ls (.long x :: st) n D := by
  intro p l e R s m args below meth cd dC dI ty ad b0 L xs Q C F H locs cells slots lsA hS hc hs hL
  obtain ⟨hx, hb, hrt, hml, hown, hts, hlk, hin, hK, had, hb0, hK0, hfr, hlo, hok, hX, hXb⟩ := id C
  obtain ⟨hd, rfl, -⟩ := hn_row hok hr
  exact lv_lstore_n hx hb hd rfl hL.has hj rfl (fun lsB hB => h p l e R s m args below meth cd dC dI ty ad b0 L xs Q C F H locs cells slots lsB hS hc hs (hn_L.st2 (v := .long x) hB))
theorem hn_lstore {g : Bool} {d kc ks : Nat} {M : hnM} {P : Option Value → Nat → hnD → Prop} {pc : Nat} {ls st : List Value} {n : Nat} {D : hnD} {nx tg c k : Nat} {v : Value} {j : Nat} {x : Int64} (hr : hn_lk (hn_rows M) pc = some (.lstore j, 2, nx, tg, v, c, k)) (hj : (j : Nat) + 1 < hn_mx M) (h : hn_R g d kc ks M P nx (hn_st2 ls j (.long x)) (st) n D) : hn_R g d kc ks M P pc ls (.long x :: st) n D := by
  intro p l e R s m args below meth cd dC dI ty ad b0 L xs Q C F H locs cells slots lsA hS hc hs hL
  obtain ⟨hx, hb, hrt, hml, hown, hts, hlk, hin, hK, had, hb0, hK0, hfr, hlo, hok, hX, hXb⟩ := id C
  obtain ⟨hd, rfl, -⟩ := hn_row hok hr
  exact lv_lstore hx hb hd hL.has hj rfl (fun lsB hB => h p l e R s m args below meth cd dC dI ty ad b0 L xs Q C F H locs cells slots lsB hS hc hs (hn_L.st2 (v := .long x) hB))
theorem hn_aload_n {g : Bool} {d kc ks : Nat} {M : hnM} {P : Option Value → Nat → hnD → Prop} {pc : Nat} {ls st : List Value} {n : Nat} {D : hnD} {nx tg c k : Nat} {v : Value} {j : Fin 4} {x : Nat} (hr : hn_lk (hn_rows M) pc = some (.aload_n j, 1, nx, tg, v, c, k)) (hl : ls[(j : Nat)]? = some (.ref x)) (h : hn_R g d kc ks M P nx ls (.ref x :: st) n D) : hn_R g d kc ks M P pc ls (st) n D := by
  intro p l e R s m args below meth cd dC dI ty ad b0 L xs Q C F H locs cells slots lsA hS hc hs hL
  obtain ⟨hx, hb, hrt, hml, hown, hts, hlk, hin, hK, had, hb0, hK0, hfr, hlo, hok, hX, hXb⟩ := id C
  obtain ⟨hd, rfl, -⟩ := hn_row hok hr
  exact lv_aload_n hx hb hd rfl (hL.2.2 _ _ hl (fun z => by cases z)) (h p l e R s m args below meth cd dC dI ty ad b0 L xs Q C F H locs cells slots lsA hS hc hs hL)
theorem hn_aload {g : Bool} {d kc ks : Nat} {M : hnM} {P : Option Value → Nat → hnD → Prop} {pc : Nat} {ls st : List Value} {n : Nat} {D : hnD} {nx tg c k : Nat} {v : Value} {j : Nat} {x : Nat} (hr : hn_lk (hn_rows M) pc = some (.aload j, 2, nx, tg, v, c, k)) (hl : ls[j]? = some (.ref x)) (h : hn_R g d kc ks M P nx ls (.ref x :: st) n D) : hn_R g d kc ks M P pc ls (st) n D := by
  intro p l e R s m args below meth cd dC dI ty ad b0 L xs Q C F H locs cells slots lsA hS hc hs hL
  obtain ⟨hx, hb, hrt, hml, hown, hts, hlk, hin, hK, had, hb0, hK0, hfr, hlo, hok, hX, hXb⟩ := id C
  obtain ⟨hd, rfl, -⟩ := hn_row hok hr
  exact lv_aload hx hb hd (hL.2.2 _ _ hl (fun z => by cases z)) (h p l e R s m args below meth cd dC dI ty ad b0 L xs Q C F H locs cells slots lsA hS hc hs hL)
theorem hn_astore_n {g : Bool} {d kc ks : Nat} {M : hnM} {P : Option Value → Nat → hnD → Prop} {pc : Nat} {ls st : List Value} {n : Nat} {D : hnD} {nx tg c k : Nat} {v : Value} {j : Fin 4} {x : Nat} (hr : hn_lk (hn_rows M) pc = some (.astore_n j, 1, nx, tg, v, c, k)) (hj : (j : Nat) < hn_mx M) (h : hn_R g d kc ks M P nx (hn_st1 ls (j : Nat) (.ref x)) (st) n D) : hn_R g d kc ks M P pc ls (.ref x :: st) n D := by
  intro p l e R s m args below meth cd dC dI ty ad b0 L xs Q C F H locs cells slots lsA hS hc hs hL
  obtain ⟨hx, hb, hrt, hml, hown, hts, hlk, hin, hK, had, hb0, hK0, hfr, hlo, hok, hX, hXb⟩ := id C
  obtain ⟨hd, rfl, -⟩ := hn_row hok hr
  exact lv_astore_n hx hb hd rfl hL.has hj rfl (fun lsB hB => h p l e R s m args below meth cd dC dI ty ad b0 L xs Q C F H locs cells slots lsB hS hc hs (hn_L.st1 (v := .ref x) hB))
theorem hn_astore {g : Bool} {d kc ks : Nat} {M : hnM} {P : Option Value → Nat → hnD → Prop} {pc : Nat} {ls st : List Value} {n : Nat} {D : hnD} {nx tg c k : Nat} {v : Value} {j : Nat} {x : Nat} (hr : hn_lk (hn_rows M) pc = some (.astore j, 2, nx, tg, v, c, k)) (hj : (j : Nat) < hn_mx M) (h : hn_R g d kc ks M P nx (hn_st1 ls j (.ref x)) (st) n D) : hn_R g d kc ks M P pc ls (.ref x :: st) n D := by
  intro p l e R s m args below meth cd dC dI ty ad b0 L xs Q C F H locs cells slots lsA hS hc hs hL
  obtain ⟨hx, hb, hrt, hml, hown, hts, hlk, hin, hK, had, hb0, hK0, hfr, hlo, hok, hX, hXb⟩ := id C
  obtain ⟨hd, rfl, -⟩ := hn_row hok hr
  exact lv_astore hx hb hd hL.has hj rfl (fun lsB hB => h p l e R s m args below meth cd dC dI ty ad b0 L xs Q C F H locs cells slots lsB hS hc hs (hn_L.st1 (v := .ref x) hB))
theorem hn_iinc {g : Bool} {d kc ks : Nat} {M : hnM} {P : Option Value → Nat → hnD → Prop} {pc : Nat} {ls st : List Value} {n : Nat} {D : hnD} {nx tg c k : Nat} {v : Value} {j : Nat} {z : Int} {x w : Int32} (hr : hn_lk (hn_rows M) pc = some (.iinc j z, 3, nx, tg, .int w, c, k)) (hl : ls[j]? = some (.int x)) (hj : j < hn_mx M) (h : hn_R g d kc ks M P nx (hn_st1 ls j (.int (x + w))) (st) n D) : hn_R g d kc ks M P pc ls (st) n D := by
  intro p l e R s m args below meth cd dC dI ty ad b0 L xs Q C F H locs cells slots lsA hS hc hs hL
  obtain ⟨hx, hb, hrt, hml, hown, hts, hlk, hin, hK, had, hb0, hK0, hfr, hlo, hok, hX, hXb⟩ := id C
  obtain ⟨hd, rfl, hv⟩ := hn_row hok hr
  have hv := Value.int.inj (of_decide_eq_true hv)
  have hm := hn_as_mem (ad := ad) (k := 0) hl (fun z => by cases z)
  rw [Nat.zero_add] at hm
  obtain ⟨q, hq⟩ := List.getElem?_of_mem hm
  exact lv_iinc hx hb hd hL.has hq (by rw [← hv]) hj rfl (fun lsB hB => h p l e R s m args below meth cd dC dI ty ad b0 L xs Q C F H locs cells slots lsB hS hc hs (hn_L.st1 (v := .int (x + w)) hB))
theorem hn_dup {g : Bool} {d kc ks : Nat} {M : hnM} {P : Option Value → Nat → hnD → Prop} {pc : Nat} {ls st : List Value} {n : Nat} {D : hnD} {nx tg c k : Nat} {v : Value} {va : Value} (hr : hn_lk (hn_rows M) pc = some (.dup, 1, nx, tg, v, c, k)) (hva : va.category = 1) (h : hn_R g d kc ks M P nx ls (va :: va :: st) n D) : hn_R g d kc ks M P pc ls (va :: st) n D := by
  intro p l e R s m args below meth cd dC dI ty ad b0 L xs Q C F H locs cells slots lsA hS hc hs hL
  obtain ⟨hx, hb, hrt, hml, hown, hts, hlk, hin, hK, had, hb0, hK0, hfr, hlo, hok, hX, hXb⟩ := id C
  obtain ⟨hd, rfl, -⟩ := hn_row hok hr
  exact lv_dup hx hb hd ((hn_v_cat ad va).trans hva) (h p l e R s m args below meth cd dC dI ty ad b0 L xs Q C F H locs cells slots lsA hS hc hs hL)
theorem hn_pop {g : Bool} {d kc ks : Nat} {M : hnM} {P : Option Value → Nat → hnD → Prop} {pc : Nat} {ls st : List Value} {n : Nat} {D : hnD} {nx tg c k : Nat} {v : Value} {va : Value} (hr : hn_lk (hn_rows M) pc = some (.pop, 1, nx, tg, v, c, k)) (hva : va.category = 1) (h : hn_R g d kc ks M P nx ls (st) n D) : hn_R g d kc ks M P pc ls (va :: st) n D := by
  intro p l e R s m args below meth cd dC dI ty ad b0 L xs Q C F H locs cells slots lsA hS hc hs hL
  obtain ⟨hx, hb, hrt, hml, hown, hts, hlk, hin, hK, had, hb0, hK0, hfr, hlo, hok, hX, hXb⟩ := id C
  obtain ⟨hd, rfl, -⟩ := hn_row hok hr
  exact lv_pop hx hb hd ((hn_v_cat ad va).trans hva) (h p l e R s m args below meth cd dC dI ty ad b0 L xs Q C F H locs cells slots lsA hS hc hs hL)
theorem hn_dup2_11 {g : Bool} {d kc ks : Nat} {M : hnM} {P : Option Value → Nat → hnD → Prop} {pc : Nat} {ls st : List Value} {n : Nat} {D : hnD} {nx tg c k : Nat} {v : Value} {va vb : Value} (hr : hn_lk (hn_rows M) pc = some (.dup2, 1, nx, tg, v, c, k)) (hva : va.category = 1) (hvb : vb.category = 1) (h : hn_R g d kc ks M P nx ls (va :: vb :: va :: vb :: st) n D) : hn_R g d kc ks M P pc ls (va :: vb :: st) n D := by
  intro p l e R s m args below meth cd dC dI ty ad b0 L xs Q C F H locs cells slots lsA hS hc hs hL
  obtain ⟨hx, hb, hrt, hml, hown, hts, hlk, hin, hK, had, hb0, hK0, hfr, hlo, hok, hX, hXb⟩ := id C
  obtain ⟨hd, rfl, -⟩ := hn_row hok hr
  exact lv_dup2_11 hx hb hd ((hn_v_cat ad va).trans hva) ((hn_v_cat ad vb).trans hvb) (h p l e R s m args below meth cd dC dI ty ad b0 L xs Q C F H locs cells slots lsA hS hc hs hL)
theorem hn_dup2_2 {g : Bool} {d kc ks : Nat} {M : hnM} {P : Option Value → Nat → hnD → Prop} {pc : Nat} {ls st : List Value} {n : Nat} {D : hnD} {nx tg c k : Nat} {v : Value} {va : Value} (hr : hn_lk (hn_rows M) pc = some (.dup2, 1, nx, tg, v, c, k)) (hva : va.category = 2) (h : hn_R g d kc ks M P nx ls (va :: va :: st) n D) : hn_R g d kc ks M P pc ls (va :: st) n D := by
  intro p l e R s m args below meth cd dC dI ty ad b0 L xs Q C F H locs cells slots lsA hS hc hs hL
  obtain ⟨hx, hb, hrt, hml, hown, hts, hlk, hin, hK, had, hb0, hK0, hfr, hlo, hok, hX, hXb⟩ := id C
  obtain ⟨hd, rfl, -⟩ := hn_row hok hr
  exact lv_dup2_2 hx hb hd ((hn_v_cat ad va).trans hva) (h p l e R s m args below meth cd dC dI ty ad b0 L xs Q C F H locs cells slots lsA hS hc hs hL)
theorem hn_dup_x1 {g : Bool} {d kc ks : Nat} {M : hnM} {P : Option Value → Nat → hnD → Prop} {pc : Nat} {ls st : List Value} {n : Nat} {D : hnD} {nx tg c k : Nat} {v : Value} {va vb : Value} (hr : hn_lk (hn_rows M) pc = some (.dup_x1, 1, nx, tg, v, c, k)) (hva : va.category = 1) (hvb : vb.category = 1) (h : hn_R g d kc ks M P nx ls (va :: vb :: va :: st) n D) : hn_R g d kc ks M P pc ls (va :: vb :: st) n D := by
  intro p l e R s m args below meth cd dC dI ty ad b0 L xs Q C F H locs cells slots lsA hS hc hs hL
  obtain ⟨hx, hb, hrt, hml, hown, hts, hlk, hin, hK, had, hb0, hK0, hfr, hlo, hok, hX, hXb⟩ := id C
  obtain ⟨hd, rfl, -⟩ := hn_row hok hr
  exact lv_dup_x1 hx hb hd ((hn_v_cat ad va).trans hva) ((hn_v_cat ad vb).trans hvb) (h p l e R s m args below meth cd dC dI ty ad b0 L xs Q C F H locs cells slots lsA hS hc hs hL)
theorem hn_goto {g : Bool} {d kc ks : Nat} {M : hnM} {P : Option Value → Nat → hnD → Prop} {pc : Nat} {ls st : List Value} {n : Nat} {D : hnD} {nx tg c k : Nat} {v : Value} {z : Int} (hr : hn_lk (hn_rows M) pc = some (.goto z, 3, nx, tg, v, c, k)) (h : hn_R g d kc ks M P tg ls (st) n D) : hn_R g d kc ks M P pc ls (st) n D := by
  intro p l e R s m args below meth cd dC dI ty ad b0 L xs Q C F H locs cells slots lsA hS hc hs hL
  obtain ⟨hx, hb, hrt, hml, hown, hts, hlk, hin, hK, had, hb0, hK0, hfr, hlo, hok, hX, hXb⟩ := id C
  obtain ⟨hd, rfl, hv⟩ := hn_row hok hr
  exact lv_goto hx hb hd (of_decide_eq_true hv) (h p l e R s m args below meth cd dC dI ty ad b0 L xs Q C F H locs cells slots lsA hS hc hs hL)
theorem hn_if_eq {g : Bool} {d kc ks : Nat} {M : hnM} {P : Option Value → Nat → hnD → Prop} {pc : Nat} {ls st : List Value} {n : Nat} {D : hnD} {nx tg c k : Nat} {v : Value} {x : Int32} {z : Int} (hr : hn_lk (hn_rows M) pc = some (.ifCond .eq z, 3, nx, tg, v, c, k)) (ht : x = 0 → hn_R g d kc ks M P tg ls (st) n D) (hf : ¬ x = 0 → hn_R g d kc ks M P nx ls (st) n D) : hn_R g d kc ks M P pc ls (.int x :: st) n D := by
  intro p l e R s m args below meth cd dC dI ty ad b0 L xs Q C F H locs cells slots lsA hS hc hs hL
  obtain ⟨hx, hb, hrt, hml, hown, hts, hlk, hin, hK, had, hb0, hK0, hfr, hlo, hok, hX, hXb⟩ := id C
  obtain ⟨hd, rfl, hv⟩ := hn_row hok hr
  exact lv_if_eq hx hb hd (of_decide_eq_true hv) (fun q => ht q p l e R s m args below meth cd dC dI ty ad b0 L xs Q C F H locs cells slots lsA hS hc hs hL) (fun q => hf q p l e R s m args below meth cd dC dI ty ad b0 L xs Q C F H locs cells slots lsA hS hc hs hL)
theorem hn_icmp_eq {g : Bool} {d kc ks : Nat} {M : hnM} {P : Option Value → Nat → hnD → Prop} {pc : Nat} {ls st : List Value} {n : Nat} {D : hnD} {nx tg c k : Nat} {v : Value} {x y : Int32} {z : Int} (hr : hn_lk (hn_rows M) pc = some (.if_icmp .eq z, 3, nx, tg, v, c, k)) (ht : x = y → hn_R g d kc ks M P tg ls (st) n D) (hf : ¬ x = y → hn_R g d kc ks M P nx ls (st) n D) : hn_R g d kc ks M P pc ls (.int y :: .int x :: st) n D := by
  intro p l e R s m args below meth cd dC dI ty ad b0 L xs Q C F H locs cells slots lsA hS hc hs hL
  obtain ⟨hx, hb, hrt, hml, hown, hts, hlk, hin, hK, had, hb0, hK0, hfr, hlo, hok, hX, hXb⟩ := id C
  obtain ⟨hd, rfl, hv⟩ := hn_row hok hr
  exact lv_icmp_eq hx hb hd (of_decide_eq_true hv) (fun q => ht q p l e R s m args below meth cd dC dI ty ad b0 L xs Q C F H locs cells slots lsA hS hc hs hL) (fun q => hf q p l e R s m args below meth cd dC dI ty ad b0 L xs Q C F H locs cells slots lsA hS hc hs hL)
theorem hn_if_ne {g : Bool} {d kc ks : Nat} {M : hnM} {P : Option Value → Nat → hnD → Prop} {pc : Nat} {ls st : List Value} {n : Nat} {D : hnD} {nx tg c k : Nat} {v : Value} {x : Int32} {z : Int} (hr : hn_lk (hn_rows M) pc = some (.ifCond .ne z, 3, nx, tg, v, c, k)) (ht : ¬ x = 0 → hn_R g d kc ks M P tg ls (st) n D) (hf : x = 0 → hn_R g d kc ks M P nx ls (st) n D) : hn_R g d kc ks M P pc ls (.int x :: st) n D := by
  intro p l e R s m args below meth cd dC dI ty ad b0 L xs Q C F H locs cells slots lsA hS hc hs hL
  obtain ⟨hx, hb, hrt, hml, hown, hts, hlk, hin, hK, had, hb0, hK0, hfr, hlo, hok, hX, hXb⟩ := id C
  obtain ⟨hd, rfl, hv⟩ := hn_row hok hr
  exact lv_if_ne hx hb hd (of_decide_eq_true hv) (fun q => ht q p l e R s m args below meth cd dC dI ty ad b0 L xs Q C F H locs cells slots lsA hS hc hs hL) (fun q => hf q p l e R s m args below meth cd dC dI ty ad b0 L xs Q C F H locs cells slots lsA hS hc hs hL)
theorem hn_icmp_ne {g : Bool} {d kc ks : Nat} {M : hnM} {P : Option Value → Nat → hnD → Prop} {pc : Nat} {ls st : List Value} {n : Nat} {D : hnD} {nx tg c k : Nat} {v : Value} {x y : Int32} {z : Int} (hr : hn_lk (hn_rows M) pc = some (.if_icmp .ne z, 3, nx, tg, v, c, k)) (ht : ¬ x = y → hn_R g d kc ks M P tg ls (st) n D) (hf : x = y → hn_R g d kc ks M P nx ls (st) n D) : hn_R g d kc ks M P pc ls (.int y :: .int x :: st) n D := by
  intro p l e R s m args below meth cd dC dI ty ad b0 L xs Q C F H locs cells slots lsA hS hc hs hL
  obtain ⟨hx, hb, hrt, hml, hown, hts, hlk, hin, hK, had, hb0, hK0, hfr, hlo, hok, hX, hXb⟩ := id C
  obtain ⟨hd, rfl, hv⟩ := hn_row hok hr
  exact lv_icmp_ne hx hb hd (of_decide_eq_true hv) (fun q => ht q p l e R s m args below meth cd dC dI ty ad b0 L xs Q C F H locs cells slots lsA hS hc hs hL) (fun q => hf q p l e R s m args below meth cd dC dI ty ad b0 L xs Q C F H locs cells slots lsA hS hc hs hL)
theorem hn_if_lt {g : Bool} {d kc ks : Nat} {M : hnM} {P : Option Value → Nat → hnD → Prop} {pc : Nat} {ls st : List Value} {n : Nat} {D : hnD} {nx tg c k : Nat} {v : Value} {x : Int32} {z : Int} (hr : hn_lk (hn_rows M) pc = some (.ifCond .lt z, 3, nx, tg, v, c, k)) (ht : x < 0 → hn_R g d kc ks M P tg ls (st) n D) (hf : ¬ x < 0 → hn_R g d kc ks M P nx ls (st) n D) : hn_R g d kc ks M P pc ls (.int x :: st) n D := by
  intro p l e R s m args below meth cd dC dI ty ad b0 L xs Q C F H locs cells slots lsA hS hc hs hL
  obtain ⟨hx, hb, hrt, hml, hown, hts, hlk, hin, hK, had, hb0, hK0, hfr, hlo, hok, hX, hXb⟩ := id C
  obtain ⟨hd, rfl, hv⟩ := hn_row hok hr
  exact lv_if_lt hx hb hd (of_decide_eq_true hv) (fun q => ht q p l e R s m args below meth cd dC dI ty ad b0 L xs Q C F H locs cells slots lsA hS hc hs hL) (fun q => hf q p l e R s m args below meth cd dC dI ty ad b0 L xs Q C F H locs cells slots lsA hS hc hs hL)
theorem hn_icmp_lt {g : Bool} {d kc ks : Nat} {M : hnM} {P : Option Value → Nat → hnD → Prop} {pc : Nat} {ls st : List Value} {n : Nat} {D : hnD} {nx tg c k : Nat} {v : Value} {x y : Int32} {z : Int} (hr : hn_lk (hn_rows M) pc = some (.if_icmp .lt z, 3, nx, tg, v, c, k)) (ht : x < y → hn_R g d kc ks M P tg ls (st) n D) (hf : ¬ x < y → hn_R g d kc ks M P nx ls (st) n D) : hn_R g d kc ks M P pc ls (.int y :: .int x :: st) n D := by
  intro p l e R s m args below meth cd dC dI ty ad b0 L xs Q C F H locs cells slots lsA hS hc hs hL
  obtain ⟨hx, hb, hrt, hml, hown, hts, hlk, hin, hK, had, hb0, hK0, hfr, hlo, hok, hX, hXb⟩ := id C
  obtain ⟨hd, rfl, hv⟩ := hn_row hok hr
  exact lv_icmp_lt hx hb hd (of_decide_eq_true hv) (fun q => ht q p l e R s m args below meth cd dC dI ty ad b0 L xs Q C F H locs cells slots lsA hS hc hs hL) (fun q => hf q p l e R s m args below meth cd dC dI ty ad b0 L xs Q C F H locs cells slots lsA hS hc hs hL)
theorem hn_if_ge {g : Bool} {d kc ks : Nat} {M : hnM} {P : Option Value → Nat → hnD → Prop} {pc : Nat} {ls st : List Value} {n : Nat} {D : hnD} {nx tg c k : Nat} {v : Value} {x : Int32} {z : Int} (hr : hn_lk (hn_rows M) pc = some (.ifCond .ge z, 3, nx, tg, v, c, k)) (ht : 0 ≤ x → hn_R g d kc ks M P tg ls (st) n D) (hf : ¬ 0 ≤ x → hn_R g d kc ks M P nx ls (st) n D) : hn_R g d kc ks M P pc ls (.int x :: st) n D := by
  intro p l e R s m args below meth cd dC dI ty ad b0 L xs Q C F H locs cells slots lsA hS hc hs hL
  obtain ⟨hx, hb, hrt, hml, hown, hts, hlk, hin, hK, had, hb0, hK0, hfr, hlo, hok, hX, hXb⟩ := id C
  obtain ⟨hd, rfl, hv⟩ := hn_row hok hr
  exact lv_if_ge hx hb hd (of_decide_eq_true hv) (fun q => ht q p l e R s m args below meth cd dC dI ty ad b0 L xs Q C F H locs cells slots lsA hS hc hs hL) (fun q => hf q p l e R s m args below meth cd dC dI ty ad b0 L xs Q C F H locs cells slots lsA hS hc hs hL)
theorem hn_icmp_ge {g : Bool} {d kc ks : Nat} {M : hnM} {P : Option Value → Nat → hnD → Prop} {pc : Nat} {ls st : List Value} {n : Nat} {D : hnD} {nx tg c k : Nat} {v : Value} {x y : Int32} {z : Int} (hr : hn_lk (hn_rows M) pc = some (.if_icmp .ge z, 3, nx, tg, v, c, k)) (ht : y ≤ x → hn_R g d kc ks M P tg ls (st) n D) (hf : ¬ y ≤ x → hn_R g d kc ks M P nx ls (st) n D) : hn_R g d kc ks M P pc ls (.int y :: .int x :: st) n D := by
  intro p l e R s m args below meth cd dC dI ty ad b0 L xs Q C F H locs cells slots lsA hS hc hs hL
  obtain ⟨hx, hb, hrt, hml, hown, hts, hlk, hin, hK, had, hb0, hK0, hfr, hlo, hok, hX, hXb⟩ := id C
  obtain ⟨hd, rfl, hv⟩ := hn_row hok hr
  exact lv_icmp_ge hx hb hd (of_decide_eq_true hv) (fun q => ht q p l e R s m args below meth cd dC dI ty ad b0 L xs Q C F H locs cells slots lsA hS hc hs hL) (fun q => hf q p l e R s m args below meth cd dC dI ty ad b0 L xs Q C F H locs cells slots lsA hS hc hs hL)
theorem hn_if_gt {g : Bool} {d kc ks : Nat} {M : hnM} {P : Option Value → Nat → hnD → Prop} {pc : Nat} {ls st : List Value} {n : Nat} {D : hnD} {nx tg c k : Nat} {v : Value} {x : Int32} {z : Int} (hr : hn_lk (hn_rows M) pc = some (.ifCond .gt z, 3, nx, tg, v, c, k)) (ht : 0 < x → hn_R g d kc ks M P tg ls (st) n D) (hf : ¬ 0 < x → hn_R g d kc ks M P nx ls (st) n D) : hn_R g d kc ks M P pc ls (.int x :: st) n D := by
  intro p l e R s m args below meth cd dC dI ty ad b0 L xs Q C F H locs cells slots lsA hS hc hs hL
  obtain ⟨hx, hb, hrt, hml, hown, hts, hlk, hin, hK, had, hb0, hK0, hfr, hlo, hok, hX, hXb⟩ := id C
  obtain ⟨hd, rfl, hv⟩ := hn_row hok hr
  exact lv_if_gt hx hb hd (of_decide_eq_true hv) (fun q => ht q p l e R s m args below meth cd dC dI ty ad b0 L xs Q C F H locs cells slots lsA hS hc hs hL) (fun q => hf q p l e R s m args below meth cd dC dI ty ad b0 L xs Q C F H locs cells slots lsA hS hc hs hL)
theorem hn_icmp_gt {g : Bool} {d kc ks : Nat} {M : hnM} {P : Option Value → Nat → hnD → Prop} {pc : Nat} {ls st : List Value} {n : Nat} {D : hnD} {nx tg c k : Nat} {v : Value} {x y : Int32} {z : Int} (hr : hn_lk (hn_rows M) pc = some (.if_icmp .gt z, 3, nx, tg, v, c, k)) (ht : y < x → hn_R g d kc ks M P tg ls (st) n D) (hf : ¬ y < x → hn_R g d kc ks M P nx ls (st) n D) : hn_R g d kc ks M P pc ls (.int y :: .int x :: st) n D := by
  intro p l e R s m args below meth cd dC dI ty ad b0 L xs Q C F H locs cells slots lsA hS hc hs hL
  obtain ⟨hx, hb, hrt, hml, hown, hts, hlk, hin, hK, had, hb0, hK0, hfr, hlo, hok, hX, hXb⟩ := id C
  obtain ⟨hd, rfl, hv⟩ := hn_row hok hr
  exact lv_icmp_gt hx hb hd (of_decide_eq_true hv) (fun q => ht q p l e R s m args below meth cd dC dI ty ad b0 L xs Q C F H locs cells slots lsA hS hc hs hL) (fun q => hf q p l e R s m args below meth cd dC dI ty ad b0 L xs Q C F H locs cells slots lsA hS hc hs hL)
theorem hn_if_le {g : Bool} {d kc ks : Nat} {M : hnM} {P : Option Value → Nat → hnD → Prop} {pc : Nat} {ls st : List Value} {n : Nat} {D : hnD} {nx tg c k : Nat} {v : Value} {x : Int32} {z : Int} (hr : hn_lk (hn_rows M) pc = some (.ifCond .le z, 3, nx, tg, v, c, k)) (ht : x ≤ 0 → hn_R g d kc ks M P tg ls (st) n D) (hf : ¬ x ≤ 0 → hn_R g d kc ks M P nx ls (st) n D) : hn_R g d kc ks M P pc ls (.int x :: st) n D := by
  intro p l e R s m args below meth cd dC dI ty ad b0 L xs Q C F H locs cells slots lsA hS hc hs hL
  obtain ⟨hx, hb, hrt, hml, hown, hts, hlk, hin, hK, had, hb0, hK0, hfr, hlo, hok, hX, hXb⟩ := id C
  obtain ⟨hd, rfl, hv⟩ := hn_row hok hr
  exact lv_if_le hx hb hd (of_decide_eq_true hv) (fun q => ht q p l e R s m args below meth cd dC dI ty ad b0 L xs Q C F H locs cells slots lsA hS hc hs hL) (fun q => hf q p l e R s m args below meth cd dC dI ty ad b0 L xs Q C F H locs cells slots lsA hS hc hs hL)
theorem hn_icmp_le {g : Bool} {d kc ks : Nat} {M : hnM} {P : Option Value → Nat → hnD → Prop} {pc : Nat} {ls st : List Value} {n : Nat} {D : hnD} {nx tg c k : Nat} {v : Value} {x y : Int32} {z : Int} (hr : hn_lk (hn_rows M) pc = some (.if_icmp .le z, 3, nx, tg, v, c, k)) (ht : x ≤ y → hn_R g d kc ks M P tg ls (st) n D) (hf : ¬ x ≤ y → hn_R g d kc ks M P nx ls (st) n D) : hn_R g d kc ks M P pc ls (.int y :: .int x :: st) n D := by
  intro p l e R s m args below meth cd dC dI ty ad b0 L xs Q C F H locs cells slots lsA hS hc hs hL
  obtain ⟨hx, hb, hrt, hml, hown, hts, hlk, hin, hK, had, hb0, hK0, hfr, hlo, hok, hX, hXb⟩ := id C
  obtain ⟨hd, rfl, hv⟩ := hn_row hok hr
  exact lv_icmp_le hx hb hd (of_decide_eq_true hv) (fun q => ht q p l e R s m args below meth cd dC dI ty ad b0 L xs Q C F H locs cells slots lsA hS hc hs hL) (fun q => hf q p l e R s m args below meth cd dC dI ty ad b0 L xs Q C F H locs cells slots lsA hS hc hs hL)
end HNstep
