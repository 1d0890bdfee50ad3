section HNcells
theorem hn_fl_of {cls : String} {x c k i : Nat} (h : hn_fl cls x c k i = true) : ∃ q : vw_C, hn_cl[c]? = some q ∧ k < q.2.2 ∧ Cond.fieldLink cls x (q.2.1 k).1 (q.2.1 k).2.1 (q.2.1 k).2.2.1 ∈ hn_T := by
  unfold hn_fl at h
  cases hq : hn_cl[c]? with
  | none => rw [hq] at h; cases h
  | some q =>
    rw [hq] at h
    simp only [Bool.and_eq_true, decide_eq_true_eq] at h
    exact ⟨q, rfl, h.1, hn_at_in h.2⟩
theorem hn_ex_get {cls : String} {pc x tg c k t : Nat} {v : Value} (h : hn_ex cls pc (.getfield x) tg v c k = true) (hg : (hn_tg c)[k]? = some t) : hn_fl cls x c k tg = true := by
  simp only [hn_ex] at h
  split at h
  · rename_i e
    subst e
    have e0 : hn_tg 50 = [] := rfl
    rw [e0] at hg
    simp at hg
  · exact h
theorem hn_cell_o {ty : Nat → ClassId} {ad : Nat → Nat} {D : hnD} {a c : Nat} (h : hn_kind a = (0, c)) : hn_cell ty ad D a = .inr (c, hn_fs ad D a (hn_tg c) 0) := by simp only [hn_cell, h]
theorem hn_cell_i {ty : Nat → ClassId} {ad : Nat → Nat} {D : hnD} {a z : Nat} (h : hn_kind a = (1, z)) : hn_cell ty ad D a = .inl (ty 1, z, .inl (D.1 a)) := by simp only [hn_cell, h]
theorem hn_cell_z {ty : Nat → ClassId} {ad : Nat → Nat} {D : hnD} {a z : Nat} (h : hn_kind a = (3, z)) : hn_cell ty ad D a = .inl (ty 3, z, .inl (D.1 a)) := by simp only [hn_cell, h]
theorem hn_cell_c {ty : Nat → ClassId} {ad : Nat → Nat} {D : hnD} {a z : Nat} (h : hn_kind a = (4, z)) : hn_cell ty ad D a = .inl (ty 4, z, .inl (D.1 a)) := by simp only [hn_cell, h]
theorem hn_cell_l {ty : Nat → ClassId} {ad : Nat → Nat} {D : hnD} {a z : Nat} (h : hn_kind a = (2, z)) : hn_cell ty ad D a = .inl (ty 2, z, .inr (.inl (D.2.1 a))) := by simp only [hn_cell, h]
theorem hn_cell_q {ty : Nat → ClassId} {ad : Nat → Nat} {D : hnD} {a t z : Nat} (h : hn_kind a = (t, z)) (ht : t = 5 ∨ t = 6 ∨ t = 7) : hn_cell ty ad D a = .inl (ty t, z, .inr (.inr (.inr (.inr (fun j => (D.2.2 a j).map ad))))) := by
  rcases ht with rfl | rfl | rfl <;> simp only [hn_cell, h]
theorem hn_cell_ne {ty : Nat → ClassId} {ad : Nat → Nat} {D D' : hnD} {b : Nat} (h1 : D'.1 b = D.1 b) (h2 : D'.2.1 b = D.2.1 b) (h3 : D'.2.2 b = D.2.2 b) : hn_cell ty ad D' b = hn_cell ty ad D b := by
  have e : ∀ (ts : List Nat) (k : Nat), hn_fs ad D' b ts k = hn_fs ad D b ts k := by
    intro ts
    induction ts with
    | nil => intro k; rfl
    | cons t ts ih =>
      intro k
      simp only [hn_fs, ih]
      congr 1
      unfold hn_f1
      split <;> simp only [h1, h2, h3]
  unfold hn_cell
  split <;> simp only [h1, h2, h3, e]
theorem hn_lt5 {n a : Nat} (h : a < n) (h5 : n ≤ 5000) : a < 5000 := Nat.lt_of_lt_of_le h h5
theorem hn_getI {g : Bool} {d kc ks : Nat} {M : hnM} {P : Option Value → Nat → hnD → Prop} {pc : Nat} {ls st : List Value} {n : Nat} {D : hnD} {nx tg c k : Nat} {v : Value} {a x : Nat} (hr : hn_lk (hn_rows M) pc = some (.getfield x, 3, nx, tg, v, c, k)) (ha : hn_kind a = (0, c)) (hn : a < n) (hg : (hn_tg c)[k]? = some 0) (h : hn_R g d kc ks M P nx ls (.int (D.1 a k) :: st) n D) : hn_R g d kc ks M P pc ls (.ref a :: st) n D := by
  intro p l e R s m args below meth cd dC dI ty ad b0 L xs Q C F H locs cells slots lsA hS hc hs hL
  obtain ⟨hx, hb, hrt, hml, hown, hts, hlk, hin, hK, had, hb0, hK0, hfr, hlo, hok, hX, hXb⟩ := id C
  obtain ⟨hP, hSS, hn5, hgs, hr0, hr1⟩ := id hS
  obtain ⟨hd, rfl, hv⟩ := hn_row hok hr
  obtain ⟨q, hq, hk, hw⟩ := hn_fl_of (hn_ex_get hv hg)
  exact va_get (ci := c) hx hb hts (hn_cl_ok hq).1 hown hK hP a (by rw [hn_w_get hn, hn_cell_o ha]) hq k hk (hts _ hw) (fun _ z => z) (by rw [hn_fs_get ad D a _ 0 k _ hg, Nat.zero_add]; rfl) hd (h p l e R s m args below meth cd dC dI ty ad b0 L xs Q C F H locs cells slots lsA hS hc hs hL)
theorem hn_getL {g : Bool} {d kc ks : Nat} {M : hnM} {P : Option Value → Nat → hnD → Prop} {pc : Nat} {ls st : List Value} {n : Nat} {D : hnD} {nx tg c k : Nat} {v : Value} {a x : Nat} (hr : hn_lk (hn_rows M) pc = some (.getfield x, 3, nx, tg, v, c, k)) (ha : hn_kind a = (0, c)) (hn : a < n) (hg : (hn_tg c)[k]? = some 1) (h : hn_R g d kc ks M P nx ls (.long (D.2.1 a k) :: st) n D) : hn_R g d kc ks M P pc ls (.ref a :: st) n D := by
  intro p l e R s m args below meth cd dC dI ty ad b0 L xs Q C F H locs cells slots lsA hS hc hs hL
  obtain ⟨hx, hb, hrt, hml, hown, hts, hlk, hin, hK, had, hb0, hK0, hfr, hlo, hok, hX, hXb⟩ := id C
  obtain ⟨hP, hSS, hn5, hgs, hr0, hr1⟩ := id hS
  obtain ⟨hd, rfl, hv⟩ := hn_row hok hr
  obtain ⟨q, hq, hk, hw⟩ := hn_fl_of (hn_ex_get hv hg)
  exact va_get (ci := c) hx hb hts (hn_cl_ok hq).1 hown hK hP a (by rw [hn_w_get hn, hn_cell_o ha]) hq k hk (hts _ hw) (fun _ z => z) (by rw [hn_fs_get ad D a _ 0 k _ hg, Nat.zero_add]; rfl) hd (h p l e R s m args below meth cd dC dI ty ad b0 L xs Q C F H locs cells slots lsA hS hc hs hL)
theorem hn_getR {g : Bool} {d kc ks : Nat} {M : hnM} {P : Option Value → Nat → hnD → Prop} {pc : Nat} {ls st : List Value} {n : Nat} {D : hnD} {nx tg c k : Nat} {v : Value} {a x y : Nat} (hr : hn_lk (hn_rows M) pc = some (.getfield x, 3, nx, tg, v, c, k)) (ha : hn_kind a = (0, c)) (hn : a < n) (hg : (hn_tg c)[k]? = some 2) (hy : D.2.2 a k = some y) (h : hn_R g d kc ks M P nx ls (.ref y :: st) n D) : hn_R g d kc ks M P pc ls (.ref a :: st) n D := by
  intro p l e R s m args below meth cd dC dI ty ad b0 L xs Q C F H locs cells slots lsA hS hc hs hL
  obtain ⟨hx, hb, hrt, hml, hown, hts, hlk, hin, hK, had, hb0, hK0, hfr, hlo, hok, hX, hXb⟩ := id C
  obtain ⟨hP, hSS, hn5, hgs, hr0, hr1⟩ := id hS
  obtain ⟨hd, rfl, hv⟩ := hn_row hok hr
  obtain ⟨q, hq, hk, hw⟩ := hn_fl_of (hn_ex_get hv hg)
  exact va_get (ci := c) hx hb hts (hn_cl_ok hq).1 hown hK hP a (by rw [hn_w_get hn, hn_cell_o ha]) hq k hk (hts _ hw) (fun _ z => z) (v := .ref (ad y)) (by rw [hn_fs_get ad D a _ 0 k _ hg, Nat.zero_add]; simp only [hn_f1, hy]; rfl) hd (h p l e R s m args below meth cd dC dI ty ad b0 L xs Q C F H locs cells slots lsA hS hc hs hL)
theorem hn_getW {g : Bool} {d kc ks : Nat} {M : hnM} {P : Option Value → Nat → hnD → Prop} {pc : Nat} {ls st : List Value} {n : Nat} {D : hnD} {nx tg k : Nat} {v : Value} {a x : Nat} (hr : hn_lk (hn_rows M) pc = some (.getfield x, 3, nx, tg, v, 50, k)) (hk : k < 2) (ha : 5000 ≤ a ∧ a < 5026) (h : hn_R g d kc ks M P nx ls (.int (((if k = 0 then hn_wres else hn_wnum)).getD (a - 5000) 0) :: st) n D) : hn_R g d kc ks M P pc ls (.ref a :: st) n D := by
  intro p l e R s m args below meth cd dC dI ty ad b0 L xs Q C F H locs cells slots lsA hS hc hs hL
  obtain ⟨hx, hb, hrt, hml, hown, hts, hlk, hin, hK, had, hb0, hK0, hfr, hlo, hok, hX, hXb⟩ := id C
  obtain ⟨hP, hSS, hn5, hgs, hr0, hr1⟩ := id hS
  obtain ⟨hd, rfl, hv⟩ := hn_row hok hr
  have eW : ad a = (fun i => ad (5000 + i)) (a - 5000) := congrArg ad (by omega)
  show W p l e R s m args below meth cd H locs cells slots Q (F0 m pc lsA (.ref (ad a) :: st.map (hn_v ad)))
  have h9 := h p l e R s m args below meth cd dC dI ty ad b0 L xs Q C F H locs cells slots lsA hS hc hs hL
  rcases (show k = 0 ∨ k = 1 by omega) with rfl | rfl
  · simp only [hn_ex, hn_wf] at hv
    rw [eW]
    exact va_getE (ad := fun i => ad (5000 + i)) (i := a - 5000) hx hb hK0.1 (show a - 5000 < hn_wn.length by show a - 5000 < 26; omega) hSS hown (q := ("HammockNet$Word", "reserved", "Z", hn_wres)) List.mem_cons_self (hts _ (hn_at_in (by simpa using hv))) (fun _ z => z) hd h9
  · simp only [hn_ex, hn_wf] at hv
    rw [eW]
    exact va_getE (ad := fun i => ad (5000 + i)) (i := a - 5000) hx hb hK0.1 (show a - 5000 < hn_wn.length by show a - 5000 < 26; omega) hSS hown (q := ("HammockNet$Word", "number", "I", hn_wnum)) (List.mem_cons_of_mem _ List.mem_cons_self) (hts _ (hn_at_in (by simpa using hv))) (fun _ z => z) hd h9
theorem hn_getWL {g : Bool} {d kc ks : Nat} {M : hnM} {P : Option Value → Nat → hnD → Prop} {pc : Nat} {ls st : List Value} {n : Nat} {D : hnD} {nx tg : Nat} {v : Value} {a x : Nat} (hr : hn_lk (hn_rows M) pc = some (.getfield x, 3, nx, tg, v, 50, 2)) (ha : 5000 ≤ a ∧ a < 5026) (h : hn_R g d kc ks M P nx ls (.long (hn_wlet.getD (a - 5000) 0) :: st) n D) : hn_R g d kc ks M P pc ls (.ref a :: st) n D := by
  intro p l e R s m args below meth cd dC dI ty ad b0 L xs Q C F H locs cells slots lsA hS hc hs hL
  obtain ⟨hx, hb, hrt, hml, hown, hts, hlk, hin, hK, had, hb0, hK0, hfr, hlo, hok, hX, hXb⟩ := id C
  obtain ⟨hP, hSS, hn5, hgs, hr0, hr1⟩ := id hS
  obtain ⟨hd, rfl, hv⟩ := hn_row hok hr
  have eW : ad a = (fun i => ad (5000 + i)) (a - 5000) := congrArg ad (by omega)
  show W p l e R s m args below meth cd H locs cells slots Q (F0 m pc lsA (.ref (ad a) :: st.map (hn_v ad)))
  have h9 := h p l e R s m args below meth cd dC dI ty ad b0 L xs Q C F H locs cells slots lsA hS hc hs hL
  simp only [hn_ex, hn_wf] at hv
  rw [eW]
  exact va_getX (ad := fun i => ad (5000 + i)) (i := a - 5000) hx hb hK0.2.1 (show a - 5000 < 26 by omega) hSS hown (hts _ (hn_at_in (by simpa using hv))) (fun _ z => z) hd h9
theorem hn_getsW {g : Bool} {d kc ks : Nat} {M : hnM} {P : Option Value → Nat → hnD → Prop} {pc : Nat} {ls st : List Value} {n : Nat} {D : hnD} {nx tg c : Nat} {v : Value} {x : Nat} (hr : hn_lk (hn_rows M) pc = some (.getstatic x, 3, nx, tg, v, c, 0)) (h : hn_R g d kc ks M P nx ls (v :: st) n D) : hn_R g d kc ks M P pc ls (st) n D := by
  intro p l e R s m args below meth cd dC dI ty ad b0 L xs Q C F H locs cells slots lsA hS hc hs hL
  obtain ⟨hx, hb, hrt, hml, hown, hts, hlk, hin, hK, had, hb0, hK0, hfr, hlo, hok, hX, hXb⟩ := id C
  obtain ⟨hP, hSS, hn5, hgs, hr0, hr1⟩ := id hS
  obtain ⟨hd, rfl, hv⟩ := hn_row hok hr
  simp only [hn_ex, if_true] at hv
  cases hq : hn_wn[c]? with
  | none => rw [hq] at hv; cases hv
  | some q =>
    rw [hq] at hv
    simp only [Bool.and_eq_true, decide_eq_true_eq] at hv
    obtain ⟨hv1, rfl⟩ := hv
    have hlt : c < hn_wn.length := (List.getElem?_eq_some_iff.mp hq).1
    have hz := (hK0.1.1 c hlt).1
    have hnm : hn_wn.getD c "" = q := by simp [List.getD, hq]
    rw [hnm] at hz
    exact va_gets hx hb hz hSS hown (hts _ (hn_at_in hv1)) (fun _ z => z) hd (h p l e R s m args below meth cd dC dI ty ad b0 L xs Q C F H locs cells slots lsA hS hc hs hL)
theorem hn_getsA {g : Bool} {d kc ks : Nat} {M : hnM} {P : Option Value → Nat → hnD → Prop} {pc : Nat} {ls st : List Value} {n : Nat} {D : hnD} {nx tg c : Nat} {v : Value} {x : Nat} (hr : hn_lk (hn_rows M) pc = some (.getstatic x, 3, nx, tg, v, c, 1)) (h : hn_R g d kc ks M P nx ls (v :: st) n D) : hn_R g d kc ks M P pc ls (st) n D := by
  intro p l e R s m args below meth cd dC dI ty ad b0 L xs Q C F H locs cells slots lsA hS hc hs hL
  obtain ⟨hx, hb, hrt, hml, hown, hts, hlk, hin, hK, had, hb0, hK0, hfr, hlo, hok, hX, hXb⟩ := id C
  obtain ⟨hP, hSS, hn5, hgs, hr0, hr1⟩ := id hS
  obtain ⟨hd, rfl, hv⟩ := hn_row hok hr
  simp only [hn_ex, Nat.one_ne_zero, if_false, Bool.and_eq_true, decide_eq_true_eq] at hv
  obtain ⟨hv1, rfl⟩ := hv
  exact va_gets hx hb hK0.2.2.1 hSS hown (hts _ (hn_at_in hv1)) (fun _ z => z) hd (h p l e R s m args below meth cd dC dI ty ad b0 L xs Q C F H locs cells slots lsA hS hc hs hL)
def hn_dcl (c k : Nat) : String := match hn_cl[c]? with
  | some q => (q.2.1 k).1
  | none => ""
def hn_fin (c k : Nat) : Bool := match hn_cl[c]? with
  | some q => (q.2.1 k).2.2.2
  | none => false
theorem hn_fin_of {c k : Nat} {q : vw_C} (h : hn_cl[c]? = some q) : (q.2.1 k).2.2.2 = hn_fin c k := by simp only [hn_fin, h]
theorem hn_putI {g : Bool} {d kc ks : Nat} {M : hnM} {P : Option Value → Nat → hnD → Prop} {pc : Nat} {ls st : List Value} {n : Nat} {D : hnD} {nx tg c k : Nat} {v : Value} {a x : Nat} {y : Int32} (hr : hn_lk (hn_rows M) pc = some (.putfield x, 3, nx, tg, v, c, k)) (ha : hn_kind a = (0, c)) (hn : a < n) (hg : (hn_tg c)[k]? = some 0) (hf : hn_fin c k = false) (hw : narrow (hn_ft c k) (.int y) = .int y ∧ fits (hn_ft c k) (.int y) = true) (h : hn_R g d kc ks M P nx ls (st) n (hn_u D.1 a k y, D.2)) : hn_R g d kc ks M P pc ls (.int y :: .ref a :: st) n D := by
  intro p l e R s m args below meth cd dC dI ty ad b0 L xs Q C F H locs cells slots lsA hS hc hs hL
  obtain ⟨hx, hb, hrt, hml, hown, hts, hlk, hin, hK, had, hb0, hK0, hfr, hlo, hok, hX, hXb⟩ := id C
  obtain ⟨hP, hSS, hn5, hgs, hr0, hr1⟩ := id hS
  obtain ⟨hd, rfl, hv⟩ := hn_row hok hr
  obtain ⟨q, hq, hk, hw9⟩ := hn_fl_of (show hn_fl (hn_y M).cls x c k tg = true from hv)
  obtain ⟨z1, z2, z3, z4, z5, z6, z7⟩ := hn_cl_ok hq
  have hD := hn_wD (ty := ty) (D := D) had hn5
  have hne : ∀ b, b ≠ a → hn_cell ty ad ((hn_u D.1 a k y, D.2) : hnD) b = hn_cell ty ad D b := fun b hb => hn_cell_ne (hn_u_ne _ _ _ hb) rfl rfl
  have hcell : Sum.inr (c, (hn_fs ad D a (hn_tg c) 0).set k (.int y)) = hn_cell ty ad ((hn_u D.1 a k y, D.2) : hnD) a := by
    rw [hn_cell_o ha, hn_fs_set ad D ((hn_u D.1 a k y, D.2) : hnD) a k (.int y) (hn_tg c) 0 k (by omega) (fun i t hi => by unfold hn_f1; split <;> simp only [hn_u_eq, va_up, if_neg hi]) (fun t ht => by rw [hg] at ht; cases ht; simp only [hn_f1, hn_u_eq, va_up, if_pos]; (try rfl)) (by rw [z4]; exact hk)]
  refine va_put (ty := hn_ft c k) (ci := c) (v := .int y) hx hb hts z1 (hn_ft c) z5 z6 hown hK hP hD hSS a (by rw [hn_w_get hn, hn_cell_o ha]) hq k hk (hts _ hw9) (fun _ z => z) ((hn_fin_of hq).trans hf) (z5 k hk) hw.1 hw.2 (by rw [hn_fs_len, z4]; exact hk) hd (fun H1 locs1 hP1 hD1 hS1 => ?_)
  refine h p l e R s m args below meth cd dC dI ty ad b0 L xs Q C F H1 locs1 cells slots lsA ⟨?_, hS1, hn5, hgs, by show hn_u D.1 a k y 6000 = xs; rw [hn_u_ne _ _ _ (by have := hn_lt5 hn hn5; omega)]; exact hr0, by show hn_u D.1 a k y 6001 0 = _; rw [hn_u_ne _ _ _ (by have := hn_lt5 hn hn5; omega)]; exact hr1⟩ hc hs hL
  rw [← hn_w_set hcell hne]
  exact hP1
theorem hn_putIF {g : Bool} {d kc ks : Nat} {M : hnM} {P : Option Value → Nat → hnD → Prop} {pc : Nat} {ls st : List Value} {n : Nat} {D : hnD} {nx tg c k : Nat} {v : Value} {a x : Nat} {y : Int32} (hr : hn_lk (hn_rows M) pc = some (.putfield x, 3, nx, tg, v, c, k)) (ha : hn_kind a = (0, c)) (hn : a < n) (hg : (hn_tg c)[k]? = some 0) (hf : hn_fin c k = true) (hkd : hn_kd M = 2) (hcl : hn_dcl c k = (hn_y M).cls) (hw : narrow (hn_ft c k) (.int y) = .int y ∧ fits (hn_ft c k) (.int y) = true) (h : hn_R g d kc ks M P nx ls (st) n (hn_u D.1 a k y, D.2)) : hn_R g d kc ks M P pc ls (.int y :: .ref a :: st) n D := by
  intro p l e R s m args below meth cd dC dI ty ad b0 L xs Q C F H locs cells slots lsA hS hc hs hL
  obtain ⟨hx, hb, hrt, hml, hown, hts, hlk, hin, hK, had, hb0, hK0, hfr, hlo, hok, hX, hXb⟩ := id C
  obtain ⟨hP, hSS, hn5, hgs, hr0, hr1⟩ := id hS
  obtain ⟨hd, rfl, hv⟩ := hn_row hok hr
  obtain ⟨q, hq, hk, hw9⟩ := hn_fl_of (show hn_fl (hn_y M).cls x c k tg = true from hv)
  obtain ⟨z1, z2, z3, z4, z5, z6, z7⟩ := hn_cl_ok hq
  have hD := hn_wD (ty := ty) (D := D) had hn5
  have hne : ∀ b, b ≠ a → hn_cell ty ad ((hn_u D.1 a k y, D.2) : hnD) b = hn_cell ty ad D b := fun b hb => hn_cell_ne (hn_u_ne _ _ _ hb) rfl rfl
  have hcell : Sum.inr (c, (hn_fs ad D a (hn_tg c) 0).set k (.int y)) = hn_cell ty ad ((hn_u D.1 a k y, D.2) : hnD) a := by
    rw [hn_cell_o ha, hn_fs_set ad D ((hn_u D.1 a k y, D.2) : hnD) a k (.int y) (hn_tg c) 0 k (by omega) (fun i t hi => by unfold hn_f1; split <;> simp only [hn_u_eq, va_up, if_neg hi]) (fun t ht => by rw [hg] at ht; cases ht; simp only [hn_f1, hn_u_eq, va_up, if_pos]; (try rfl)) (by rw [z4]; exact hk)]
  refine va_putF (ty := hn_ft c k) (ci := c) (v := .int y) hx hb hts z1 (hn_ft c) z5 z6 hown hK hP hD hSS a (by rw [hn_w_get hn, hn_cell_o ha]) hq k hk (hts _ hw9) (fun _ z => z) ((hn_fin_of hq).trans hf) (hin hkd) (by rw [← hcl]; simp only [hn_dcl, hq]) (z5 k hk) hw.1 hw.2 (by rw [hn_fs_len, z4]; exact hk) hd (fun H1 locs1 hP1 hD1 hS1 => ?_)
  refine h p l e R s m args below meth cd dC dI ty ad b0 L xs Q C F H1 locs1 cells slots lsA ⟨?_, hS1, hn5, hgs, by show hn_u D.1 a k y 6000 = xs; rw [hn_u_ne _ _ _ (by have := hn_lt5 hn hn5; omega)]; exact hr0, by show hn_u D.1 a k y 6001 0 = _; rw [hn_u_ne _ _ _ (by have := hn_lt5 hn hn5; omega)]; exact hr1⟩ hc hs hL
  rw [← hn_w_set hcell hne]
  exact hP1
theorem hn_putL {g : Bool} {d kc ks : Nat} {M : hnM} {P : Option Value → Nat → hnD → Prop} {pc : Nat} {ls st : List Value} {n : Nat} {D : hnD} {nx tg c k : Nat} {v : Value} {a x : Nat} {y : Int64} (hr : hn_lk (hn_rows M) pc = some (.putfield x, 3, nx, tg, v, c, k)) (ha : hn_kind a = (0, c)) (hn : a < n) (hg : (hn_tg c)[k]? = some 1) (hf : hn_fin c k = false) (hw : ∀ z, narrow (hn_ft c k) (.long z) = .long z ∧ fits (hn_ft c k) (.long z) = true) (h : hn_R g d kc ks M P nx ls (st) n (D.1, hn_u D.2.1 a k y, D.2.2)) : hn_R g d kc ks M P pc ls (.long y :: .ref a :: st) n D := by
  intro p l e R s m args below meth cd dC dI ty ad b0 L xs Q C F H locs cells slots lsA hS hc hs hL
  obtain ⟨hx, hb, hrt, hml, hown, hts, hlk, hin, hK, had, hb0, hK0, hfr, hlo, hok, hX, hXb⟩ := id C
  obtain ⟨hP, hSS, hn5, hgs, hr0, hr1⟩ := id hS
  obtain ⟨hd, rfl, hv⟩ := hn_row hok hr
  obtain ⟨q, hq, hk, hw9⟩ := hn_fl_of (show hn_fl (hn_y M).cls x c k tg = true from hv)
  obtain ⟨z1, z2, z3, z4, z5, z6, z7⟩ := hn_cl_ok hq
  have hD := hn_wD (ty := ty) (D := D) had hn5
  have hne : ∀ b, b ≠ a → hn_cell ty ad ((D.1, hn_u D.2.1 a k y, D.2.2) : hnD) b = hn_cell ty ad D b := fun b hb => hn_cell_ne rfl (hn_u_ne _ _ _ hb) rfl
  have hcell : Sum.inr (c, (hn_fs ad D a (hn_tg c) 0).set k (.long y)) = hn_cell ty ad ((D.1, hn_u D.2.1 a k y, D.2.2) : hnD) a := by
    rw [hn_cell_o ha, hn_fs_set ad D ((D.1, hn_u D.2.1 a k y, D.2.2) : hnD) a k (.long y) (hn_tg c) 0 k (by omega) (fun i t hi => by unfold hn_f1; split <;> simp only [hn_u_eq, va_up, if_neg hi]) (fun t ht => by rw [hg] at ht; cases ht; simp only [hn_f1, hn_u_eq, va_up, if_pos]; (try rfl)) (by rw [z4]; exact hk)]
  refine va_put (ty := hn_ft c k) (ci := c) (v := .long y) hx hb hts z1 (hn_ft c) z5 z6 hown hK hP hD hSS a (by rw [hn_w_get hn, hn_cell_o ha]) hq k hk (hts _ hw9) (fun _ z => z) ((hn_fin_of hq).trans hf) (z5 k hk) (hw _).1 (hw _).2 (by rw [hn_fs_len, z4]; exact hk) hd (fun H1 locs1 hP1 hD1 hS1 => ?_)
  refine h p l e R s m args below meth cd dC dI ty ad b0 L xs Q C F H1 locs1 cells slots lsA ⟨?_, hS1, hn5, hgs, hr0, hr1⟩ hc hs hL
  rw [← hn_w_set hcell hne]
  exact hP1
theorem hn_putLF {g : Bool} {d kc ks : Nat} {M : hnM} {P : Option Value → Nat → hnD → Prop} {pc : Nat} {ls st : List Value} {n : Nat} {D : hnD} {nx tg c k : Nat} {v : Value} {a x : Nat} {y : Int64} (hr : hn_lk (hn_rows M) pc = some (.putfield x, 3, nx, tg, v, c, k)) (ha : hn_kind a = (0, c)) (hn : a < n) (hg : (hn_tg c)[k]? = some 1) (hf : hn_fin c k = true) (hkd : hn_kd M = 2) (hcl : hn_dcl c k = (hn_y M).cls) (hw : ∀ z, narrow (hn_ft c k) (.long z) = .long z ∧ fits (hn_ft c k) (.long z) = true) (h : hn_R g d kc ks M P nx ls (st) n (D.1, hn_u D.2.1 a k y, D.2.2)) : hn_R g d kc ks M P pc ls (.long y :: .ref a :: st) n D := by
  intro p l e R s m args below meth cd dC dI ty ad b0 L xs Q C F H locs cells slots lsA hS hc hs hL
  obtain ⟨hx, hb, hrt, hml, hown, hts, hlk, hin, hK, had, hb0, hK0, hfr, hlo, hok, hX, hXb⟩ := id C
  obtain ⟨hP, hSS, hn5, hgs, hr0, hr1⟩ := id hS
  obtain ⟨hd, rfl, hv⟩ := hn_row hok hr
  obtain ⟨q, hq, hk, hw9⟩ := hn_fl_of (show hn_fl (hn_y M).cls x c k tg = true from hv)
  obtain ⟨z1, z2, z3, z4, z5, z6, z7⟩ := hn_cl_ok hq
  have hD := hn_wD (ty := ty) (D := D) had hn5
  have hne : ∀ b, b ≠ a → hn_cell ty ad ((D.1, hn_u D.2.1 a k y, D.2.2) : hnD) b = hn_cell ty ad D b := fun b hb => hn_cell_ne rfl (hn_u_ne _ _ _ hb) rfl
  have hcell : Sum.inr (c, (hn_fs ad D a (hn_tg c) 0).set k (.long y)) = hn_cell ty ad ((D.1, hn_u D.2.1 a k y, D.2.2) : hnD) a := by
    rw [hn_cell_o ha, hn_fs_set ad D ((D.1, hn_u D.2.1 a k y, D.2.2) : hnD) a k (.long y) (hn_tg c) 0 k (by omega) (fun i t hi => by unfold hn_f1; split <;> simp only [hn_u_eq, va_up, if_neg hi]) (fun t ht => by rw [hg] at ht; cases ht; simp only [hn_f1, hn_u_eq, va_up, if_pos]; (try rfl)) (by rw [z4]; exact hk)]
  refine va_putF (ty := hn_ft c k) (ci := c) (v := .long y) hx hb hts z1 (hn_ft c) z5 z6 hown hK hP hD hSS a (by rw [hn_w_get hn, hn_cell_o ha]) hq k hk (hts _ hw9) (fun _ z => z) ((hn_fin_of hq).trans hf) (hin hkd) (by rw [← hcl]; simp only [hn_dcl, hq]) (z5 k hk) (hw _).1 (hw _).2 (by rw [hn_fs_len, z4]; exact hk) hd (fun H1 locs1 hP1 hD1 hS1 => ?_)
  refine h p l e R s m args below meth cd dC dI ty ad b0 L xs Q C F H1 locs1 cells slots lsA ⟨?_, hS1, hn5, hgs, hr0, hr1⟩ hc hs hL
  rw [← hn_w_set hcell hne]
  exact hP1
theorem hn_putR {g : Bool} {d kc ks : Nat} {M : hnM} {P : Option Value → Nat → hnD → Prop} {pc : Nat} {ls st : List Value} {n : Nat} {D : hnD} {nx tg c k : Nat} {v : Value} {a x : Nat} {y : Nat} (hr : hn_lk (hn_rows M) pc = some (.putfield x, 3, nx, tg, v, c, k)) (ha : hn_kind a = (0, c)) (hn : a < n) (hg : (hn_tg c)[k]? = some 2) (hf : hn_fin c k = false) (hw : ∀ z, narrow (hn_ft c k) (.ref z) = .ref z ∧ fits (hn_ft c k) (.ref z) = true) (h : hn_R g d kc ks M P nx ls (st) n (D.1, D.2.1, hn_u D.2.2 a k (some y))) : hn_R g d kc ks M P pc ls (.ref y :: .ref a :: st) n D := by
  intro p l e R s m args below meth cd dC dI ty ad b0 L xs Q C F H locs cells slots lsA hS hc hs hL
  obtain ⟨hx, hb, hrt, hml, hown, hts, hlk, hin, hK, had, hb0, hK0, hfr, hlo, hok, hX, hXb⟩ := id C
  obtain ⟨hP, hSS, hn5, hgs, hr0, hr1⟩ := id hS
  obtain ⟨hd, rfl, hv⟩ := hn_row hok hr
  obtain ⟨q, hq, hk, hw9⟩ := hn_fl_of (show hn_fl (hn_y M).cls x c k tg = true from hv)
  obtain ⟨z1, z2, z3, z4, z5, z6, z7⟩ := hn_cl_ok hq
  have hD := hn_wD (ty := ty) (D := D) had hn5
  have hne : ∀ b, b ≠ a → hn_cell ty ad ((D.1, D.2.1, hn_u D.2.2 a k (some y)) : hnD) b = hn_cell ty ad D b := fun b hb => hn_cell_ne rfl rfl (hn_u_ne _ _ _ hb)
  have hcell : Sum.inr (c, (hn_fs ad D a (hn_tg c) 0).set k (.ref (ad y))) = hn_cell ty ad ((D.1, D.2.1, hn_u D.2.2 a k (some y)) : hnD) a := by
    rw [hn_cell_o ha, hn_fs_set ad D ((D.1, D.2.1, hn_u D.2.2 a k (some y)) : hnD) a k (.ref (ad y)) (hn_tg c) 0 k (by omega) (fun i t hi => by unfold hn_f1; split <;> simp only [hn_u_eq, va_up, if_neg hi]) (fun t ht => by rw [hg] at ht; cases ht; simp only [hn_f1, hn_u_eq, va_up, if_pos]; (try rfl)) (by rw [z4]; exact hk)]
  refine va_put (ty := hn_ft c k) (ci := c) (v := .ref (ad y)) hx hb hts z1 (hn_ft c) z5 z6 hown hK hP hD hSS a (by rw [hn_w_get hn, hn_cell_o ha]) hq k hk (hts _ hw9) (fun _ z => z) ((hn_fin_of hq).trans hf) (z5 k hk) (hw _).1 (hw _).2 (by rw [hn_fs_len, z4]; exact hk) hd (fun H1 locs1 hP1 hD1 hS1 => ?_)
  refine h p l e R s m args below meth cd dC dI ty ad b0 L xs Q C F H1 locs1 cells slots lsA ⟨?_, hS1, hn5, hgs, hr0, hr1⟩ hc hs hL
  rw [← hn_w_set hcell hne]
  exact hP1
theorem hn_putRF {g : Bool} {d kc ks : Nat} {M : hnM} {P : Option Value → Nat → hnD → Prop} {pc : Nat} {ls st : List Value} {n : Nat} {D : hnD} {nx tg c k : Nat} {v : Value} {a x : Nat} {y : Nat} (hr : hn_lk (hn_rows M) pc = some (.putfield x, 3, nx, tg, v, c, k)) (ha : hn_kind a = (0, c)) (hn : a < n) (hg : (hn_tg c)[k]? = some 2) (hf : hn_fin c k = true) (hkd : hn_kd M = 2) (hcl : hn_dcl c k = (hn_y M).cls) (hw : ∀ z, narrow (hn_ft c k) (.ref z) = .ref z ∧ fits (hn_ft c k) (.ref z) = true) (h : hn_R g d kc ks M P nx ls (st) n (D.1, D.2.1, hn_u D.2.2 a k (some y))) : hn_R g d kc ks M P pc ls (.ref y :: .ref a :: st) n D := by
  intro p l e R s m args below meth cd dC dI ty ad b0 L xs Q C F H locs cells slots lsA hS hc hs hL
  obtain ⟨hx, hb, hrt, hml, hown, hts, hlk, hin, hK, had, hb0, hK0, hfr, hlo, hok, hX, hXb⟩ := id C
  obtain ⟨hP, hSS, hn5, hgs, hr0, hr1⟩ := id hS
  obtain ⟨hd, rfl, hv⟩ := hn_row hok hr
  obtain ⟨q, hq, hk, hw9⟩ := hn_fl_of (show hn_fl (hn_y M).cls x c k tg = true from hv)
  obtain ⟨z1, z2, z3, z4, z5, z6, z7⟩ := hn_cl_ok hq
  have hD := hn_wD (ty := ty) (D := D) had hn5
  have hne : ∀ b, b ≠ a → hn_cell ty ad ((D.1, D.2.1, hn_u D.2.2 a k (some y)) : hnD) b = hn_cell ty ad D b := fun b hb => hn_cell_ne rfl rfl (hn_u_ne _ _ _ hb)
  have hcell : Sum.inr (c, (hn_fs ad D a (hn_tg c) 0).set k (.ref (ad y))) = hn_cell ty ad ((D.1, D.2.1, hn_u D.2.2 a k (some y)) : hnD) a := by
    rw [hn_cell_o ha, hn_fs_set ad D ((D.1, D.2.1, hn_u D.2.2 a k (some y)) : hnD) a k (.ref (ad y)) (hn_tg c) 0 k (by omega) (fun i t hi => by unfold hn_f1; split <;> simp only [hn_u_eq, va_up, if_neg hi]) (fun t ht => by rw [hg] at ht; cases ht; simp only [hn_f1, hn_u_eq, va_up, if_pos]; (try rfl)) (by rw [z4]; exact hk)]
  refine va_putF (ty := hn_ft c k) (ci := c) (v := .ref (ad y)) hx hb hts z1 (hn_ft c) z5 z6 hown hK hP hD hSS a (by rw [hn_w_get hn, hn_cell_o ha]) hq k hk (hts _ hw9) (fun _ z => z) ((hn_fin_of hq).trans hf) (hin hkd) (by rw [← hcl]; simp only [hn_dcl, hq]) (z5 k hk) (hw _).1 (hw _).2 (by rw [hn_fs_len, z4]; exact hk) hd (fun H1 locs1 hP1 hD1 hS1 => ?_)
  refine h p l e R s m args below meth cd dC dI ty ad b0 L xs Q C F H1 locs1 cells slots lsA ⟨?_, hS1, hn5, hgs, hr0, hr1⟩ hc hs hL
  rw [← hn_w_set hcell hne]
  exact hP1
/-- an index within a row -/
theorem hn_ix_in {i : Int32} {j z : Nat} (hi : i.toInt = (j : Int)) (hz : j < z) : vp_in i z ∧ i.toNatClampNeg = j := by
  have h1 : i.toNatClampNeg = j := by rw [Int32.toNatClampNeg, hi]; simp
  refine ⟨fun h => ?_, h1⟩
  rcases h with h | h
  · rw [Int32.lt_iff_toInt_lt, hi] at h
    simp at h
    omega
  · omega
theorem hn_iaload {g : Bool} {d kc ks : Nat} {M : hnM} {P : Option Value → Nat → hnD → Prop} {pc : Nat} {ls st : List Value} {n : Nat} {D : hnD} {nx tg c k : Nat} {v : Value} {a j z : Nat} {i : Int32} (hr : hn_lk (hn_rows M) pc = some (.iaload, 1, nx, tg, v, c, k)) (ha : hn_kind a = (1, z)) (hn : a < n) (hi : i.toInt = (j : Int)) (hz : j < z) (h : hn_R g d kc ks M P nx ls (.int (D.1 a j) :: st) n D) : hn_R g d kc ks M P pc ls (.int i :: .ref a :: st) n D := by
  intro p l e R s m args below meth cd dC dI ty ad b0 L xs Q C F H locs cells slots lsA hS hc hs hL
  obtain ⟨hx, hb, hrt, hml, hown, hts, hlk, hin, hK, had, hb0, hK0, hfr, hlo, hok, hX, hXb⟩ := id C
  obtain ⟨hP, hSS, hn5, hgs, hr0, hr1⟩ := id hS
  obtain ⟨hd, rfl, -⟩ := hn_row hok hr
  obtain ⟨h1, h2⟩ := hn_ix_in hi hz
  refine va_iald hx hb hK hP a 0 (by rw [hn_w_get hn, hn_cell_i ha]) rfl h1 hd ?_
  rw [h2]
  exact h p l e R s m args below meth cd dC dI ty ad b0 L xs Q C F H locs cells slots lsA hS hc hs hL
theorem hn_baload {g : Bool} {d kc ks : Nat} {M : hnM} {P : Option Value → Nat → hnD → Prop} {pc : Nat} {ls st : List Value} {n : Nat} {D : hnD} {nx tg c k : Nat} {v : Value} {a j z : Nat} {i : Int32} (hr : hn_lk (hn_rows M) pc = some (.baload, 1, nx, tg, v, c, k)) (ha : hn_kind a = (3, z)) (hn : a < n) (hi : i.toInt = (j : Int)) (hz : j < z) (h : hn_R g d kc ks M P nx ls (.int (D.1 a j) :: st) n D) : hn_R g d kc ks M P pc ls (.int i :: .ref a :: st) n D := by
  intro p l e R s m args below meth cd dC dI ty ad b0 L xs Q C F H locs cells slots lsA hS hc hs hL
  obtain ⟨hx, hb, hrt, hml, hown, hts, hlk, hin, hK, had, hb0, hK0, hfr, hlo, hok, hX, hXb⟩ := id C
  obtain ⟨hP, hSS, hn5, hgs, hr0, hr1⟩ := id hS
  obtain ⟨hd, rfl, -⟩ := hn_row hok hr
  obtain ⟨h1, h2⟩ := hn_ix_in hi hz
  refine va_zald hx hb hK hP a 2 (by rw [hn_w_get hn, hn_cell_z ha]) rfl h1 hd ?_
  rw [h2]
  exact h p l e R s m args below meth cd dC dI ty ad b0 L xs Q C F H locs cells slots lsA hS hc hs hL
theorem hn_caload {g : Bool} {d kc ks : Nat} {M : hnM} {P : Option Value → Nat → hnD → Prop} {pc : Nat} {ls st : List Value} {n : Nat} {D : hnD} {nx tg c k : Nat} {v : Value} {a j z : Nat} {i : Int32} (hr : hn_lk (hn_rows M) pc = some (.caload, 1, nx, tg, v, c, k)) (ha : hn_kind a = (4, z)) (hn : a < n) (hi : i.toInt = (j : Int)) (hz : j < z) (h : hn_R g d kc ks M P nx ls (.int (D.1 a j) :: st) n D) : hn_R g d kc ks M P pc ls (.int i :: .ref a :: st) n D := by
  intro p l e R s m args below meth cd dC dI ty ad b0 L xs Q C F H locs cells slots lsA hS hc hs hL
  obtain ⟨hx, hb, hrt, hml, hown, hts, hlk, hin, hK, had, hb0, hK0, hfr, hlo, hok, hX, hXb⟩ := id C
  obtain ⟨hP, hSS, hn5, hgs, hr0, hr1⟩ := id hS
  obtain ⟨hd, rfl, -⟩ := hn_row hok hr
  obtain ⟨h1, h2⟩ := hn_ix_in hi hz
  refine va_cald hx hb hK hP a 3 (by rw [hn_w_get hn, hn_cell_c ha]) rfl h1 hd ?_
  rw [h2]
  exact h p l e R s m args below meth cd dC dI ty ad b0 L xs Q C F H locs cells slots lsA hS hc hs hL
theorem hn_laload {g : Bool} {d kc ks : Nat} {M : hnM} {P : Option Value → Nat → hnD → Prop} {pc : Nat} {ls st : List Value} {n : Nat} {D : hnD} {nx tg c k : Nat} {v : Value} {a j z : Nat} {i : Int32} (hr : hn_lk (hn_rows M) pc = some (.laload, 1, nx, tg, v, c, k)) (ha : hn_kind a = (2, z)) (hn : a < n) (hi : i.toInt = (j : Int)) (hz : j < z) (h : hn_R g d kc ks M P nx ls (.long (D.2.1 a j) :: st) n D) : hn_R g d kc ks M P pc ls (.int i :: .ref a :: st) n D := by
  intro p l e R s m args below meth cd dC dI ty ad b0 L xs Q C F H locs cells slots lsA hS hc hs hL
  obtain ⟨hx, hb, hrt, hml, hown, hts, hlk, hin, hK, had, hb0, hK0, hfr, hlo, hok, hX, hXb⟩ := id C
  obtain ⟨hP, hSS, hn5, hgs, hr0, hr1⟩ := id hS
  obtain ⟨hd, rfl, -⟩ := hn_row hok hr
  obtain ⟨h1, h2⟩ := hn_ix_in hi hz
  refine va_lald hx hb hK hP a 1 (by rw [hn_w_get hn, hn_cell_l ha]) rfl h1 hd ?_
  rw [h2]
  exact h p l e R s m args below meth cd dC dI ty ad b0 L xs Q C F H locs cells slots lsA hS hc hs hL
theorem hn_aaload {g : Bool} {d kc ks : Nat} {M : hnM} {P : Option Value → Nat → hnD → Prop} {pc : Nat} {ls st : List Value} {n : Nat} {D : hnD} {nx tg c k : Nat} {v : Value} {a j z y t : Nat} {i : Int32} (hr : hn_lk (hn_rows M) pc = some (.aaload, 1, nx, tg, v, c, k)) (ha : hn_kind a = (t, z)) (ht : t = 5 ∨ t = 6 ∨ t = 7) (hn : a < n) (hi : i.toInt = (j : Int)) (hz : j < z) (hy : D.2.2 a j = some y) (h : hn_R g d kc ks M P nx ls (.ref y :: st) n D) : hn_R g d kc ks M P pc ls (.int i :: .ref a :: st) n D := by
  intro p l e R s m args below meth cd dC dI ty ad b0 L xs Q C F H locs cells slots lsA hS hc hs hL
  obtain ⟨hx, hb, hrt, hml, hown, hts, hlk, hin, hK, had, hb0, hK0, hfr, hlo, hok, hX, hXb⟩ := id C
  obtain ⟨hP, hSS, hn5, hgs, hr0, hr1⟩ := id hS
  obtain ⟨hd, rfl, -⟩ := hn_row hok hr
  obtain ⟨h1, h2⟩ := hn_ix_in hi hz
  have h9 := h p l e R s m args below meth cd dC dI ty ad b0 L xs Q C F H locs cells slots lsA hS hc hs hL
  have e : va_rf ((D.2.2 a j).map ad) = .ref (ad y) := by rw [hy]; rfl
  rcases ht with rfl | rfl | rfl
  · refine va_aldq hx hb hK hP a 4 (C := "HammockNet$State") (by rw [hn_w_get hn, hn_cell_q ha (by omega)]) rfl h1 hd ?_
    rw [h2, e]
    exact h9
  · refine va_aldq hx hb hK hP a 5 (C := "HammockNet$Seen") (by rw [hn_w_get hn, hn_cell_q ha (by omega)]) rfl h1 hd ?_
    rw [h2, e]
    exact h9
  · refine va_aldq hx hb hK hP a 6 (C := "HammockNet$Word") (by rw [hn_w_get hn, hn_cell_q ha (by omega)]) rfl h1 hd ?_
    rw [h2, e]
    exact h9
theorem hn_iastore {g : Bool} {d kc ks : Nat} {M : hnM} {P : Option Value → Nat → hnD → Prop} {pc : Nat} {ls st : List Value} {n : Nat} {D : hnD} {nx tg c k : Nat} {v : Value} {a j z : Nat} {i : Int32} {y : Int32} (hr : hn_lk (hn_rows M) pc = some (.iastore, 1, nx, tg, v, c, k)) (ha : hn_kind a = (1, z)) (hn : a < n) (hi : i.toInt = (j : Int)) (hz : j < z) (h : hn_R g d kc ks M P nx ls (st) n (hn_u D.1 a j y, D.2)) : hn_R g d kc ks M P pc ls (.int y :: .int i :: .ref a :: st) n D := by
  intro p l e R s m args below meth cd dC dI ty ad b0 L xs Q C F H locs cells slots lsA hS hc hs hL
  obtain ⟨hx, hb, hrt, hml, hown, hts, hlk, hin, hK, had, hb0, hK0, hfr, hlo, hok, hX, hXb⟩ := id C
  obtain ⟨hP, hSS, hn5, hgs, hr0, hr1⟩ := id hS
  obtain ⟨hd, rfl, -⟩ := hn_row hok hr
  obtain ⟨h1, h2⟩ := hn_ix_in hi hz
  have hD := hn_wD (ty := ty) (D := D) had hn5
  refine va_iast hx hb hK hP hD hSS a 0 (by rw [hn_w_get hn, hn_cell_i ha]) rfl h1 hd (fun H1 locs1 hP1 hD1 hS1 => ?_)
  refine h p l e R s m args below meth cd dC dI ty ad b0 L xs Q C F H1 locs1 cells slots lsA ⟨?_, hS1, hn5, hgs, by show hn_u D.1 a j y 6000 = xs; rw [hn_u_ne _ _ _ (by have := hn_lt5 hn hn5; omega)]; exact hr0, by show hn_u D.1 a j y 6001 0 = _; rw [hn_u_ne _ _ _ (by have := hn_lt5 hn hn5; omega)]; exact hr1⟩ hc hs hL
  rw [← hn_w_set (D := D) (D' := ((hn_u D.1 a j y, D.2) : hnD)) (e := .inl (ty 1, z, .inl (upd (D.1 a) i.toNatClampNeg y))) (by rw [hn_cell_i ha, h2]; simp only [hn_u_eq]; rfl) (fun b hb => hn_cell_ne (hn_u_ne _ _ _ hb) rfl rfl)]
  exact hP1
theorem hn_bastore {g : Bool} {d kc ks : Nat} {M : hnM} {P : Option Value → Nat → hnD → Prop} {pc : Nat} {ls st : List Value} {n : Nat} {D : hnD} {nx tg c k : Nat} {v : Value} {a j z : Nat} {i : Int32} {y : Int32} (hr : hn_lk (hn_rows M) pc = some (.bastore, 1, nx, tg, v, c, k)) (ha : hn_kind a = (3, z)) (hn : a < n) (hi : i.toInt = (j : Int)) (hz : j < z) (hw : vp_nar .boolean y = y) (h : hn_R g d kc ks M P nx ls (st) n (hn_u D.1 a j y, D.2)) : hn_R g d kc ks M P pc ls (.int y :: .int i :: .ref a :: st) n D := by
  intro p l e R s m args below meth cd dC dI ty ad b0 L xs Q C F H locs cells slots lsA hS hc hs hL
  obtain ⟨hx, hb, hrt, hml, hown, hts, hlk, hin, hK, had, hb0, hK0, hfr, hlo, hok, hX, hXb⟩ := id C
  obtain ⟨hP, hSS, hn5, hgs, hr0, hr1⟩ := id hS
  obtain ⟨hd, rfl, -⟩ := hn_row hok hr
  obtain ⟨h1, h2⟩ := hn_ix_in hi hz
  have hD := hn_wD (ty := ty) (D := D) had hn5
  refine va_zast hx hb hK hP hD hSS a 2 (by rw [hn_w_get hn, hn_cell_z ha]) rfl h1 hd (fun H1 locs1 hP1 hD1 hS1 => ?_)
  refine h p l e R s m args below meth cd dC dI ty ad b0 L xs Q C F H1 locs1 cells slots lsA ⟨?_, hS1, hn5, hgs, by show hn_u D.1 a j y 6000 = xs; rw [hn_u_ne _ _ _ (by have := hn_lt5 hn hn5; omega)]; exact hr0, by show hn_u D.1 a j y 6001 0 = _; rw [hn_u_ne _ _ _ (by have := hn_lt5 hn hn5; omega)]; exact hr1⟩ hc hs hL
  rw [← hn_w_set (D := D) (D' := ((hn_u D.1 a j y, D.2) : hnD)) (e := .inl (ty 3, z, .inl (upd (D.1 a) i.toNatClampNeg (vp_nar .boolean y)))) (by rw [hn_cell_z ha, h2]; rw [hw]; simp only [hn_u_eq]; rfl) (fun b hb => hn_cell_ne (hn_u_ne _ _ _ hb) rfl rfl)]
  exact hP1
theorem hn_castore {g : Bool} {d kc ks : Nat} {M : hnM} {P : Option Value → Nat → hnD → Prop} {pc : Nat} {ls st : List Value} {n : Nat} {D : hnD} {nx tg c k : Nat} {v : Value} {a j z : Nat} {i : Int32} {y : Int32} (hr : hn_lk (hn_rows M) pc = some (.castore, 1, nx, tg, v, c, k)) (ha : hn_kind a = (4, z)) (hn : a < n) (hi : i.toInt = (j : Int)) (hz : j < z) (hw : vp_nar .char y = y) (h : hn_R g d kc ks M P nx ls (st) n (hn_u D.1 a j y, D.2)) : hn_R g d kc ks M P pc ls (.int y :: .int i :: .ref a :: st) n D := by
  intro p l e R s m args below meth cd dC dI ty ad b0 L xs Q C F H locs cells slots lsA hS hc hs hL
  obtain ⟨hx, hb, hrt, hml, hown, hts, hlk, hin, hK, had, hb0, hK0, hfr, hlo, hok, hX, hXb⟩ := id C
  obtain ⟨hP, hSS, hn5, hgs, hr0, hr1⟩ := id hS
  obtain ⟨hd, rfl, -⟩ := hn_row hok hr
  obtain ⟨h1, h2⟩ := hn_ix_in hi hz
  have hD := hn_wD (ty := ty) (D := D) had hn5
  refine va_cast hx hb hK hP hD hSS a 3 (by rw [hn_w_get hn, hn_cell_c ha]) rfl h1 hd (fun H1 locs1 hP1 hD1 hS1 => ?_)
  refine h p l e R s m args below meth cd dC dI ty ad b0 L xs Q C F H1 locs1 cells slots lsA ⟨?_, hS1, hn5, hgs, by show hn_u D.1 a j y 6000 = xs; rw [hn_u_ne _ _ _ (by have := hn_lt5 hn hn5; omega)]; exact hr0, by show hn_u D.1 a j y 6001 0 = _; rw [hn_u_ne _ _ _ (by have := hn_lt5 hn hn5; omega)]; exact hr1⟩ hc hs hL
  rw [← hn_w_set (D := D) (D' := ((hn_u D.1 a j y, D.2) : hnD)) (e := .inl (ty 4, z, .inl (upd (D.1 a) i.toNatClampNeg (vp_nar .char y)))) (by rw [hn_cell_c ha, h2]; rw [hw]; simp only [hn_u_eq]; rfl) (fun b hb => hn_cell_ne (hn_u_ne _ _ _ hb) rfl rfl)]
  exact hP1
theorem hn_lastore {g : Bool} {d kc ks : Nat} {M : hnM} {P : Option Value → Nat → hnD → Prop} {pc : Nat} {ls st : List Value} {n : Nat} {D : hnD} {nx tg c k : Nat} {v : Value} {a j z : Nat} {i : Int32} {y : Int64} (hr : hn_lk (hn_rows M) pc = some (.lastore, 1, nx, tg, v, c, k)) (ha : hn_kind a = (2, z)) (hn : a < n) (hi : i.toInt = (j : Int)) (hz : j < z) (h : hn_R g d kc ks M P nx ls (st) n (D.1, hn_u D.2.1 a j y, D.2.2)) : hn_R g d kc ks M P pc ls (.long y :: .int i :: .ref a :: st) n D := by
  intro p l e R s m args below meth cd dC dI ty ad b0 L xs Q C F H locs cells slots lsA hS hc hs hL
  obtain ⟨hx, hb, hrt, hml, hown, hts, hlk, hin, hK, had, hb0, hK0, hfr, hlo, hok, hX, hXb⟩ := id C
  obtain ⟨hP, hSS, hn5, hgs, hr0, hr1⟩ := id hS
  obtain ⟨hd, rfl, -⟩ := hn_row hok hr
  obtain ⟨h1, h2⟩ := hn_ix_in hi hz
  have hD := hn_wD (ty := ty) (D := D) had hn5
  refine va_last hx hb hK hP hD hSS a 1 (by rw [hn_w_get hn, hn_cell_l ha]) rfl h1 hd (fun H1 locs1 hP1 hD1 hS1 => ?_)
  refine h p l e R s m args below meth cd dC dI ty ad b0 L xs Q C F H1 locs1 cells slots lsA ⟨?_, hS1, hn5, hgs, hr0, hr1⟩ hc hs hL
  rw [← hn_w_set (D := D) (D' := ((D.1, hn_u D.2.1 a j y, D.2.2) : hnD)) (e := .inl (ty 2, z, .inr (.inl (vp_updL (D.2.1 a) i.toNatClampNeg y)))) (by rw [hn_cell_l ha, h2]; simp only [hn_u_eq]; rfl) (fun b hb => hn_cell_ne rfl (hn_u_ne _ _ _ hb) rfl)]
  exact hP1
theorem hn_arraylength {g : Bool} {d kc ks : Nat} {M : hnM} {P : Option Value → Nat → hnD → Prop} {pc : Nat} {ls st : List Value} {n : Nat} {D : hnD} {nx tg c k : Nat} {v : Value} {a z t : Nat} (hr : hn_lk (hn_rows M) pc = some (.arraylength, 1, nx, tg, v, c, k)) (ha : hn_kind a = (t, z)) (ht : t = 1) (hn : a < n) (h : hn_R g d kc ks M P nx ls (.int (Int32.ofNat z) :: st) n D) : hn_R g d kc ks M P pc ls (.ref a :: st) n D := by
  intro p l e R s m args below meth cd dC dI ty ad b0 L xs Q C F H locs cells slots lsA hS hc hs hL
  obtain ⟨hx, hb, hrt, hml, hown, hts, hlk, hin, hK, had, hb0, hK0, hfr, hlo, hok, hX, hXb⟩ := id C
  obtain ⟨hP, hSS, hn5, hgs, hr0, hr1⟩ := id hS
  obtain ⟨hd, rfl, -⟩ := hn_row hok hr
  subst ht
  exact va_alen hx hb hK hP a 0 (x := (z, .inl (D.1 a))) (by rw [hn_w_get hn, hn_cell_i ha]) rfl rfl hd (h p l e R s m args below meth cd dC dI ty ad b0 L xs Q C F H locs cells slots lsA hS hc hs hL)
theorem hn_slen {g : Bool} {d kc ks : Nat} {M : hnM} {P : Option Value → Nat → hnD → Prop} {pc : Nat} {ls st : List Value} {n : Nat} {D : hnD} {nx tg c k : Nat} {v : Value} (hr : hn_lk (hn_rows M) pc = some (.arraylength, 1, nx, tg, v, c, k)) (h : hn_R g d kc ks M P nx ls (.int (D.1 6001 0) :: st) n D) : hn_R g d kc ks M P pc ls (.ref 6000 :: st) n D := by
  intro p l e R s m args below meth cd dC dI ty ad b0 L xs Q C F H locs cells slots lsA hS hc hs hL
  obtain ⟨hx, hb, hrt, hml, hown, hts, hlk, hin, hK, had, hb0, hK0, hfr, hlo, hok, hX, hXb⟩ := id C
  obtain ⟨hP, hSS, hn5, hgs, hr0, hr1⟩ := id hS
  obtain ⟨hd, rfl, -⟩ := hn_row hok hr
  refine va_slen hx hb hX (Nat.lt_of_lt_of_le hXb hb0) (Nat.not_le.mpr hXb) hSS hd ?_
  rw [← hr1]
  exact h p l e R s m args below meth cd dC dI ty ad b0 L xs Q C F H locs cells slots lsA hS hc hs hL
theorem hn_sload {g : Bool} {d kc ks : Nat} {M : hnM} {P : Option Value → Nat → hnD → Prop} {pc : Nat} {ls st : List Value} {n : Nat} {D : hnD} {nx tg c k : Nat} {v : Value} {i : Int32} {j : Nat} (hr : hn_lk (hn_rows M) pc = some (.iaload, 1, nx, tg, v, c, k)) (hi : i.toInt = (j : Int)) (hz : (j : Int) < (D.1 6001 0).toInt) (hz2 : ∀ L, D.1 6001 0 = Int32.ofNat L → j < L) (h : hn_R g d kc ks M P nx ls (.int (D.1 6000 j) :: st) n D) : hn_R g d kc ks M P pc ls (.int i :: .ref 6000 :: st) n D := by
  intro p l e R s m args below meth cd dC dI ty ad b0 L xs Q C F H locs cells slots lsA hS hc hs hL
  obtain ⟨hx, hb, hrt, hml, hown, hts, hlk, hin, hK, had, hb0, hK0, hfr, hlo, hok, hX, hXb⟩ := id C
  obtain ⟨hP, hSS, hn5, hgs, hr0, hr1⟩ := id hS
  obtain ⟨hd, rfl, -⟩ := hn_row hok hr
  obtain ⟨h1, h2⟩ := hn_ix_in hi (hz2 L hr1)
  refine va_sld hx hb hX (Nat.lt_of_lt_of_le hXb hb0) (Nat.not_le.mpr hXb) hSS h1 hd ?_
  rw [h2, ← hr0]
  exact h p l e R s m args below meth cd dC dI ty ad b0 L xs Q C F H locs cells slots lsA hS hc hs hL
end HNcells
