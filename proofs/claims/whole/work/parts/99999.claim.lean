/-! THE CLAIM OUT OF ONE WALK OF THE LAW'S BODY. Your part is whole_start (and what it stands on); all else here is the same for every law, but numbers. -/
def R_law : String := "HammockNetLaw"
def lw_P (b : Addr) (xs : List Int32) (args : Array Value) (s : State) : Prop := args = #[.ref b] ∧ s.IntsAt b xs ∧ xs.length ≤ 3584 ∧ (Jvm.Cond.and given_1 narrow_1).before args s = true
def lw_Q (_ : Array Value) (s : State) (o : Outcome) (t : State) : Prop := o = .returned (some (.int 1)) ∧ Framed s o t [] 601024 7293034
def lw_Z (below : List Frame) (a : Array Value) (s : State) : State → Prop := fun t => ∃ o, t.status = .running ∧ Ended t below o ∧ lw_Q a s o t
/-- the law's own end, with 1 on the stack, nothing written that was there before, its room as the claim has it -/
theorem lw_ret {p : Program} {l : Launch} {e : Env} {s : State} {m : MethodId} {below : List Frame} {meth : Method} {c : Code} {b : Nat} (hx : p.tables.exec = Jvm.exec) (hb : c.code = code) (hr : meth.sig.returnType = ret) (hlocks : meth.locks = false) {pc : Nat} {H : Heap} {ls : Array Slot} (hdg : decode code pc = .ok (.ireturn, 1)) : W p l e room_1 s m #[Value.ref b] below meth c H [] 601024 7293034 (lw_Z below #[Value.ref b] s) (F0 m pc ls [.int 1]) := by
  intro T hT X
  obtain ⟨fs, hret, hrun, hended, hW, hframe⟩ := X.leave (v := some (.int 1)) (hlocks := hlocks) (fun h => by rw [hr] at h; cases h)
  have hmeth' : T.vm.method? m = some meth := X.method'
  refine ⟨T.setFrames fs, ?_, .returned (some (.int 1)), hrun, hended, rfl, ⟨_, rfl⟩, hW, hframe⟩
  jvm_step X.here [X.here.top, hx, hb, hdg, hmeth', hr, ret, narrow_b1]
  (try refine ⟨rfl, ?_⟩); (try refine ⟨rfl, ?_⟩)
  first | (intro acts; rw [hret _ acts rfl rfl rfl]) | rw [hret _ _ rfl rfl rfl]
  exact Steps.refl _
/-- what holds at the law's entry: the machine, the code, the tables' words (any of lw_tbl by 'hts w (by decide +kernel)'), the script of L ints xs at the cell b, what the Statement gives of the start (any of its parts by flat_of_before) -/
def lw_At (p : Program) (s : State) (m : MethodId) (meth : Method) (c : Code) (b L : Nat) (xs : Nat → Int32) : Prop :=
  p.tables.exec = Jvm.exec ∧ c.code = code ∧ meth.sig.returnType = ret ∧ c.maxLocals = 7 ∧ s.vm.findClass R_law = some m.cls ∧ (∀ w ∈ lw_tbl, w.before #[Value.ref b] s = true) ∧ va_X b L xs s s.heap ∧ b < s.heap.size ∧ meth.locks = false ∧ (Jvm.Cond.and given_1 narrow_1).before #[Value.ref b] s = true
-- ===== YOUR PART BEGINS =====
set_option maxHeartbeats 4000000 in
/-- YOUR PART: from the entry, for every script of at most 3584 ints, the law comes to its end with true ('hflags': the launch's flags, for a law that throws: no stack traces) -/
theorem whole_start {p : Program} {e : Env} {s : State} {m : MethodId} {below : List Frame} {meth : Method} {c : Code} (l : Launch) (hflags : l.flags = flags0) {b L : Nat} {xs : Nat → Int32} (hL : L ≤ 3584) (C0 : lw_At p s m meth c b L xs) : W p l e room_1 s m #[Value.ref b] below meth c s.heap [] 0 0 (lw_Z below #[Value.ref b] s) (entryFrame m ([Value.ref b] : List Value).toArray 7) := by
  obtain ⟨hx, hb, hr, hml, hown, hts, hX, hbl, hlocks, hgv⟩ := id C0
  have hst : l.stackTraces = false := by
    unfold Launch.stackTraces
    rw [hflags]
    decide +kernel
  have htsT : ∀ w ∈ hn_T, w.before #[Value.ref b] s = true := fun w hw => hts w (List.mem_filter.mp hw).1
  have hA : ∀ a : Nat, a < s.heap.size → ¬ (fun q : Nat => s.heap.size ≤ q) a := fun a h => Nat.not_le.mpr h
  obtain ⟨adw, hEn, hev⟩ := l_En (A := fun q : Nat => s.heap.size ≤ q) (fun i hi => hts _ (n_ly_in i hi)) (hts _ (n_tb_in 119 (by decide +kernel))) hgv hA
  have hEf : va_Ef 26 "HammockNet$Word" "letters" "J" (fun i => .long (hn_wlet.getD i 0)) adw (fun q : Nat => s.heap.size ≤ q) s s.heap := va_Efof (tm := fun i => .long (hn_wlet.getD i 0)) hev (n_fam_in hgv n_le) (fun i hi => rfl) hA
  obtain ⟨tW, hWe, hWT⟩ := va_Tof (N := 26) (tm := wA) (ty := .object "HammockNet$Word") (f := fun j => .ref (adw j)) (A := fun q : Nat => s.heap.size ≤ q) (by decide) (n_in hgv 16 n_wa) (va_eqt (n_in hgv 17 n_wl)) (fun j hj => va_eqv (n_fam_in hgv n_el j hj) (hev j hj)) hA
  have hWZ := va_Zref (hts _ (n_tb_in (w := .laysStatic "HammockNet$Tape" "WORDS" "[LHammockNet$Word;") 530 (by decide +kernel))) (hts _ (n_tb_in (w := .initialized "HammockNet$Tape") 117 (by decide +kernel))) hWe hA
  obtain ⟨ad, had, hadw, hadW, hadb⟩ : ∃ ad : Nat → Nat, (∀ k, k < 5000 → ad k = s.heap.size + k) ∧ (∀ i, i < 26 → ad (5000 + i) = adw i) ∧ ad 5100 = tW ∧ ad 6000 = b := by
    refine ⟨fun k => if k < 5000 then s.heap.size + k else if k < 5026 then adw (k - 5000) else if k = 5100 then tW else b, fun k hk => if_pos hk, fun i hi => ?_, rfl, rfl⟩
    show (if 5000 + i < 5000 then _ else if 5000 + i < 5026 then adw (5000 + i - 5000) else _) = _
    rw [if_neg (by omega), if_pos (by omega), Nat.add_sub_cancel_left]
  have hK0 : hn_K0 ad s.heap.size s s.heap := by
    refine ⟨⟨fun i hi => ?_, fun i j hi hj e => ?_⟩, fun i hi => ?_, ?_, ?_, fun w hw => ?_, ?_, ?_, ?_, fun w hw => ?_, ?_, ?_, ?_, ?_⟩
    · have h := hEn.1 i hi
      rw [← hadw i hi] at h
      exact h
    · have e : ad (5000 + i) = ad (5000 + j) := e
      rw [hadw i hi, hadw j hj] at e
      exact hEn.2 i j hi hj e
    · have h := hEf i hi
      rw [← hadw i hi] at h
      exact h
    · rw [hadW]; exact hWZ
    · rw [hadW]
      obtain ⟨cell, h1, h2, h3, h4, h5, h6, h7⟩ := hWT
      exact ⟨cell, h1, h2, h3, h4, h5, fun j hj => by show cell.slots[j]? = some (.ref (ad (5000 + j))); rw [hadw j hj]; exact h6 j hj, h7⟩
    · exact va_Nw.of (n_nestT w hw) (hts w (n_tbs_in n_nest w hw))
    · exact va_AO.of (hts _ (n_tb_in 356 (by decide +kernel)))
    · exact va_AO.of (hts _ (n_tb_in 382 (by decide +kernel)))
    · exact va_AO.of (hts _ (n_tb_in 335 (by decide +kernel)))
    · exact va_Nw.of (nx_kxt w hw) (hts w (n_tbs_in n_kx w hw))
    · exact l_str (hts _ (n_tb_in 1196 (by decide +kernel))) (n_in hgv 221 (by decide +kernel))
    · exact l_str (hts _ (n_tb_in 1229 (by decide +kernel))) (n_in hgv 237 (by decide +kernel))
    · exact vx_Zqof (hts _ (n_tb_in 1184 (by decide +kernel))) (hts _ (n_tb_in 133 (by decide +kernel))) (n_in hgv 120 (by decide +kernel)) hA
    · exact vx_Zqof (hts _ (n_tb_in 1186 (by decide +kernel))) (hts _ (n_tb_in 133 (by decide +kernel))) (n_in hgv 121 (by decide +kernel)) hA
  obtain ⟨dC, dI, hcl⟩ := l_cls htsT
  obtain ⟨c1, k1⟩ := l_ty_i (hts _ (n_tb_in 242 (by decide +kernel)))
  obtain ⟨c2, k2⟩ := l_ty_l (hts _ (n_tb_in 241 (by decide +kernel)))
  obtain ⟨c3, k3⟩ := l_ty_z (hts _ (n_tb_in 381 (by decide +kernel)))
  obtain ⟨c4, k4⟩ := l_ty_c (hts _ (n_tb_in 190 (by decide +kernel)))
  obtain ⟨c5, k5⟩ := l_ty_o (C := "HammockNet$State") (hts _ (n_tb_in 356 (by decide +kernel)))
  obtain ⟨c6, k6⟩ := l_ty_o (C := "HammockNet$Seen") (hts _ (n_tb_in 382 (by decide +kernel)))
  obtain ⟨c7, k7⟩ := l_ty_o (C := "HammockNet$Word") (hts _ (n_tb_in 335 (by decide +kernel)))
  obtain ⟨ty, hty⟩ : ∃ ty : Nat → ClassId, hn_tys ty = [(c1, .int), (c2, .long), (c3, .boolean), (c4, .char), (c5, .object "HammockNet$State"), (c6, .object "HammockNet$Seen"), (c7, .object "HammockNet$Word")] := ⟨fun k => ([0, c1, c2, c3, c4, c5, c6, c7] : List Nat).getD k 0, rfl⟩
  have hK : va_K (dC, dI) hn_cl (hn_tys ty) s := by
    refine ⟨hcl, fun k q hk => ?_⟩
    rw [hty] at hk
    match k, hk with
    | 0, hk => cases hk; exact k1
    | 1, hk => cases hk; exact k2
    | 2, hk => cases hk; exact k3
    | 3, hk => cases hk; exact k4
    | 4, hk => cases hk; exact k5
    | 5, hk => cases hk; exact k6
    | 6, hk => cases hk; exact k7
    | k + 7, hk => simp at hk
  have hC : hn_C hm_Law_law 60 p room_1 s m #[Value.ref b] meth c dC dI ty ad s.heap.size L xs :=
    ⟨hx, hb, hr, hml, hown, htsT, hlocks, fun h => absurd h (by decide), hK, had, Nat.le_refl _, hK0, Nat.le_of_ble_eq_true rfl, Nat.le_of_ble_eq_true rfl, hk_Law_law, by rw [hadb]; exact hX, by rw [hadb]; exact hbl⟩
  have hF : hn_Fin true hm_Law_law l_P p l e room_1 s m #[Value.ref b] below meth c dC dI ty ad s.heap.size L xs (lw_Z below #[Value.ref b] s) := by
    have htb : hn_tb hm_Law_law = none := by decide +kernel
    refine ⟨?_, hst, fun n D pc r hP => absurd hP (by intro z; cases z), fun hh h9 => absurd h9 (by rw [htb]; exact (fun z => nomatch z))⟩
    intro r n D hP hrn pc lsA H locs cells slots hdec hS hc hs
    have hP : r = some (.int 1) := hP
    subst hP
    refine va_forget (fun q hq => hS.2.1.2.2 q hq) ?_
    refine W.widen (k := 601024) (n := 7293034) hc hs ?_
    exact lw_ret hx hb hr hlocks hdec
  have hlv := lv_entry ([.ref b]) (n := 7) (Nat.le_of_ble_eq_true rfl)
  rw [lg_entry_eq]
  generalize (lg_sl ([.ref b]) ++ List.replicate (7 - (lg_sl ([.ref b])).length) Slot.unset).toArray = lsA at hlv ⊢
  refine l_entry (sc := xs) (LL := L) hL p l e room_1 s m #[Value.ref b] below meth c dC dI ty ad s.heap.size L xs (lw_Z below #[Value.ref b] s) hC hF s.heap [] 0 0 lsA ⟨fun k q h => ?_, va_S.rf, Nat.zero_le _, fun _ => rfl, rfl, rfl⟩ (Nat.le_of_ble_eq_true rfl) (Nat.le_of_ble_eq_true rfl) ⟨hlv.1, hlv.2.1, fun i v hi hnn => ?_⟩
  · have h : ([] : va_W)[k]? = some q := h
    simp at h
  · match i, hi with
    | 0, hi =>
      cases hi
      have h := hlv.2.2 (0, .ref b) (List.mem_of_getElem? (i := 0) rfl)
      show lsA[0]? = some (.val (.ref (ad 6000)))
      rw [hadb]
      exact h
    | 1, hi => cases hi; exact absurd rfl hnn
    | 2, hi => cases hi; exact absurd rfl hnn
    | 3, hi => cases hi; exact absurd rfl hnn
    | 4, hi => cases hi; exact absurd rfl hnn
    | 5, hi => cases hi; exact absurd rfl hnn
    | 6, hi => cases hi; exact absurd rfl hnn
    | i + 7, hi => simp at hi
-- ===== YOUR PART ENDS =====
set_option maxHeartbeats 4000000 in
theorem lw_walk (l : Launch) (hflags : l.flags = flags0) (b : Addr) (xs : List Int32) : MetFree l x (headSpec (Jvm.Cond.code x code maxLocals ret :: tables_1) room_1) (lw_P b xs) (fun _ _ _ _ _ => True) lw_Q := by
  refine MetFree.of_bodyS (code := code) (maxLocals := maxLocals) (ret := ret) (by decide) ?_ ?_
  · intro args s m h hn
    obtain ⟨meth, c, h1, h2, h3, h4, h5, h6, -, -⟩ := Cond.code_spec hn (atoms_spec (ws := Jvm.Cond.code x code maxLocals ret :: tables_1) h _ List.mem_cons_self)
    exact ⟨meth, c, h1, h2, h3, h4, h5, h6⟩
  · intro p e s m args below meth c s₁ B hml0 hP _
    obtain ⟨rfl, hx, hbd, hgv⟩ := hP
    obtain ⟨scr, harrAt, hlist, hof, hsmall⟩ := hx
    obtain ⟨hcb, hkn, -, -⟩ := State.arrayAt?_spec harrAt
    have hown : s.vm.findClass R_law = some m.cls := findClass_of_methodNamed B.named
    have hts0 : ∀ c ∈ (Jvm.Cond.code x code maxLocals ret :: tables_1), c.before #[Value.ref b] s = true := atoms_spec (ws := Jvm.Cond.code x code maxLocals ret :: tables_1) B.pre
    have hts : ∀ w ∈ lw_tbl, w.before #[Value.ref b] s = true := k2_hts_sels lw_privs (fun w hw => hts0 w (List.mem_cons_of_mem _ hw)) lw_privs_ok
    have hml : c.maxLocals = 7 := B.maxLocals_eq (hts0 _ List.mem_cons_self)
    have X₀ : Stand p l e room_1 s m #[Value.ref b] below meth c s₁ [] 0 0 := Stand.of_body B
    have hh0 : s₁.heap = s.heap := by rw [B.state]; rfl
    have hsz : scr.slots.size = xs.length := by rw [← Array.length_toList, hlist, List.length_map]
    have hval : ∀ j : Nat, j < xs.length → scr.slots[j]? = some (.int (xs.getD j 0)) := fun j hj => by
      rw [← Array.getElem?_toList, hlist]
      simp [hj]
    have hbl : b < s.heap.size := (Array.getElem?_eq_some_iff.mp hcb).1
    have hX : va_X b xs.length (fun j => xs.getD j 0) s s.heap := ⟨scr, hcb, hof, hkn, hsz, hval⟩
    have K : W p l e room_1 s m #[Value.ref b] below meth c s₁.heap [] 0 0 (lw_Z below #[Value.ref b] s) (entryFrame m ([Value.ref b] : List Value).toArray 7) := by
      rw [hh0]
      exact whole_start l hflags hbd ⟨B.exec, B.bytes, B.returns, hml, hown, hts, hX, hbl, B.notSynchronized, hgv⟩
    obtain ⟨t, a1, o, b1, b2, b3⟩ := K s₁ rfl X₀
    exact ⟨t, o, a1, b1, b2, b3⟩
theorem lw_pre_spec {args : Array Value} {s : State} (h : (Jvm.Cond.and given_1 narrow_1).before args s = true) (hr : rest_1_c.before args s = true) : ∃ (b : Addr) (xs : List Int32), lw_P b xs args s := by
  have hs := flat_of_before _ h
  have hq := flat_of_before _ hr
  have hc : (Cond.count 1).before args s = true := hs _ (by decide +kernel)
  have harr : (Cond.arrayOf (.arg 0) .int).before args s = true := hs _ (by decide +kernel)
  have hle : (Cond.le (.length (.arg 0)) (.int 3584)).before args s = true := hs _ (by decide +kernel)
  have hlen : (Cond.isInt (.length (.arg 0))).before args s = true := hq _ (by decide +kernel)
  have hall : (Cond.all (.arg 0) (.isInt (.elem (.arg 0) (.index 0)))).before args s = true := hq _ (by decide +kernel)
  obtain ⟨b, xs, hb, hx⟩ := State.ints_of_pre rfl harr hlen hall
  have hsm : xs.length < 2 ^ 31 := hx.choose_spec.2.2.2
  have hev : (Term.length (.arg 0)).eval args s none [] s = some (.int xs.length.toInt32) := hx.length_eval hb
  have hv := Cond.le_ints hev (show (Term.int 3584).eval args s none [] s = some (.int 3584) from rfl)
  have hd : xs.length.toInt32 ≤ 3584 := by
    simpa [Cond.before, Cond.holds, hv] using hle
  have hN : xs.length ≤ 3584 := (Int32.ofNat_le_ofNat hsm (by decide)).mp (show Int32.ofNat xs.length ≤ Int32.ofNat 3584 from hd)
  exact ⟨b, xs, Cond.one_arg hc (show args[0]? = some (.ref b) from hb), hx, hN, h⟩
theorem lw_comes (l : Launch) (hflags : l.flags = flags0) : Comes l x (Jvm.Cond.code x code maxLocals ret :: tables_1) room_1 (fun tb e args s => Calls_1 tb e args s ∧ rest_1 tb e args s ∧ Pre_1 tb e args s)
    (fun _ _ args s o t => lw_Q args s o t) := by
  intro p e ha hc hk s m args below hf hfit hheap happ hpre
  obtain ⟨b, xs, hP⟩ := lw_pre_spec hpre.2.2 hpre.2.1
  obtain ⟨k, o, h1, h2, h3, hQ⟩ := lw_walk l hflags b xs p e ha hc hk s m args below hf ((Spec.applies_iff_loose hf).mp happ).1 hP trivial
  exact ⟨k, o, h1, h2, h3, hQ⟩
theorem lw_frame {s t : State} {o : Outcome} {args : Array Value} (h : Framed s o t [] 601024 7293034) :
    Framed s o t (fieldLocs frame_1_writes args s ++ arrayLocs frame_1_arrays args s ++ staticLocs frame_1_statics s) 601024 7293034 := h
theorem lw_limb (L : Cond) (hL : ∀ (args : Array Value) (s t : State), L.after args s (.returned (some (.int 1))) t = true) :
    ArmFor flags0 classFile x code maxLocals ret World_1 tables_1 room_1 Calls_1 rest_1 Pre_1
      (fun tb e a s o t => postC L tb e a s o t ∧ Framed s o t (fieldLocs frame_1_writes a s ++ arrayLocs frame_1_arrays a s ++ staticLocs frame_1_statics s) 601024 7293034) := by
  intro l hflags _ _ p e ha hc hk s m args below hf hfit hheap happ hpre
  obtain ⟨k, o, h1, h2, h3, rfl, hF⟩ := lw_comes l hflags p e ha hc hk s m args below hf hfit hheap happ hpre
  exact ⟨k, _, h1, h2, h3, hL args s _, lw_frame hF⟩
theorem i_vc : Claimed_1_1 ∧ Claimed_1_2 := ⟨lw_limb limb_1_1 (fun args s t => by simp [limb_1_1, Cond.after, Cond.holds, Cond.value]), lw_limb limb_1_2 (fun args s t => Cond.after_iff.mpr (by
  first | (rw [show limb_1_2 = Cond.eq .result (.int 1) from rfl, Cond.eq_ints (x := 1) (y := 1) rfl rfl]; simp; done) | (simp [limb_1_2, Cond.value, Term.eval]; done)))⟩
