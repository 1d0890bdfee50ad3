/-! a method that throws, and the call of it from one that catches -/
section HNthrow
def hn_ats : List Cond → List Nat → Bool
  | [], _ => true
  | w :: t, i :: r => hn_at w i && hn_ats t r
  | _ :: _, [] => false
theorem hn_ats_in : ∀ {L : List Cond} {ps : List Nat}, hn_ats L ps = true → ∀ w ∈ L, w ∈ hn_T
  | [], _, _, w, h => by cases h
  | w :: t, i :: r, h, x, hx => by
    simp only [hn_ats, Bool.and_eq_true] at h
    rcases List.mem_cons.mp hx with rfl | hx
    · exact hn_at_in h.1
    · exact hn_ats_in h.2 x hx
  | _ :: _, [], h, _, _ => by simp [hn_ats] at h
abbrev nx_L : List Cond := nx_at "HammockNet" 352 nX nY 13 prog_24_method_4_code ["java/lang/Exception"]
theorem nx_good : hn_ats (nx_L.filter goodWord) [133, 1179, 1188, 1190, 1193, 1195, 1180, 1181, 143, 144, 1182, 1187, 1191, 1211, 1169, 1212, 1171, 1213, 1173, 1183, 1185, 1175, 1207, 1208, 1210, 1175, 1198, 1199, 1200, 1201, 1201, 1202, 1203, 1204, 1204, 1205, 1206, 1207, 1197, 1158, 1166, 1167, 1168, 1170, 1172, 1174, 1178, 1177, 1176] = true := by decide +kernel
theorem nx_bad : ∀ w ∈ nx_L.filter (fun w => !goodWord w), w ∈ hn_kx := by
  have h : (nx_L.filter (fun w => !goodWord w)).all (fun w => decide (w ∈ hn_kx)) = true := by decide +kernel
  exact fun w hw => of_decide_eq_true (List.all_eq_true.mp h w hw)
theorem nx_ot : ∀ w ∈ Cond.classLink "HammockNet" 348 nX :: Cond.initialized nX :: nx_L, vx_ot w = true := by
  have h : (Cond.classLink "HammockNet" 348 nX :: Cond.initialized nX :: nx_L).all vx_ot = true := by decide +kernel
  exact List.all_eq_true.mp h
theorem nx_kxt : ∀ w ∈ hn_kx, w.onTables = true := by
  have h : hn_kx.all (fun w => w.onTables) = true := by decide +kernel
  exact List.all_eq_true.mp h
theorem nx_words {args : Array Value} {s : State} (hts : ∀ w ∈ hn_T, w.before args s = true) (hk : ∀ w ∈ hn_kx, va_Nw w s) : ∀ w ∈ nx_L, w.before args s = true :=
  vx_hat (B := hn_kx) (fun w hw => hts w (hn_ats_in nx_good w hw)) nx_bad (fun w hw => (hk w hw).use (nx_kxt w hw))
theorem nx_clk : Cond.classLink "HammockNet" 348 nX ∈ hn_T := hn_at_in (i := 1157) (by decide +kernel)
theorem nx_ini : Cond.initialized nX ∈ hn_T := hn_at_in (i := 136) (by decide +kernel)
theorem nx_b0 : decode prog_24_method_4_code 0 = .ok (.aload_n 0, 1) := by decide +kernel
theorem nx_b1 : decode prog_24_method_4_code 1 = .ok (.aload_n 1, 1) := by decide +kernel
theorem nx_b2 : decode prog_24_method_4_code 2 = .ok (.invokespecial 13, 3) := by decide +kernel
theorem nx_b5 : decode prog_24_method_4_code 5 = .ok (.return_, 1) := by decide +kernel
/-- where it throws: no such element, in a world that P with null knows -/
def hn_XC (dC : Nat → ClassId) (dI : Nat → Nat → Nat) (ty : Nat → ClassId) (ad : Nat → Nat) (b0 L : Nat) (xs : Nat → Int32) (P : Option Value → Nat → hnD → Prop) : String → State → State → Prop := fun E st t =>
  E = nX ∧ ∃ (n : Nat) (D : hnD), P (some .null) n D ∧ va_P (dC, dI) hn_cl (hn_w ty ad D n) t.heap ∧ n ≤ 5000 ∧ D.1 6000 = xs ∧ D.1 6001 0 = Int32.ofNat L ∧ va_F (fun q => b0 ≤ q) st t
/-- a contract of a method that may throw -/
def hn_EX (d kc ks : Nat) (M : hnM) (av : List Value) (n : Nat) (D : hnD) (P : Option Value → Nat → hnD → Prop) : Prop :=
  ∀ (l : Launch) (_ : l.stackTraces = false) (dC : Nat → ClassId) (dI : Nat → Nat → Nat) (ty : Nat → ClassId) (ad : Nat → Nat) (b0 L : Nat) (xs : Nat → Int32),
    vx_Met l (hn_y M) (hn_ws M) ({ frames := d, cells := kc, slots := ks, locals := 64 * d } : Room) (va_Pc (av.map (hn_v ad)) (hn_U false dC dI ty ad b0 L xs n D)) (hn_Q false dC dI ty ad b0 L xs (fun r n D => P r n D ∧ ¬ r = some .null)) (hn_XC dC dI ty ad b0 L xs P) kc ks (fun q => b0 ≤ q)
theorem hn_rn_nn {rt : Option FieldType} {r : Option Value} (h : hn_rn rt r) : ¬ r = some .null := by
  intro e
  subst e
  unfold hn_rn at h
  split at h <;> simp_all
set_option maxHeartbeats 4000000 in
theorem hn_EX_of {d kc ks : Nat} {M : hnM} {av : List Value} {n : Nat} {D : hnD} {P : Option Value → Nat → hnD → Prop} (ls : List Value) (hok : hn_okx M = true) (htb : hn_tb M = none) (hgl : hn_gl M = true) (hd6 : 6 ≤ d)
    (hthr : ∀ pc r, hn_lk (hn_rows M) pc = some r → hn_st r = true → (hn_y M).cls = "HammockNet" ∧ ∃ (k : Nat) (tx : String), ((k = 350 ∧ tx = "no such lull") ∨ (k = 359 ∧ tx = "no such rest")) ∧ decode (hn_b M) pc = .ok (.new 348, 3) ∧ decode (hn_b M) (pc + 3) = .ok (.dup, 1) ∧ decode (hn_b M) (pc + 4) = .ok (.ldc_w k, 3) ∧ decode (hn_b M) (pc + 7) = .ok (.invokespecial 352, 3) ∧ decode (hn_b M) (pc + 10) = .ok (.athrow, 1))
    (hls : hn_ent av ++ List.replicate (hn_mx M - (hn_ent av).length) .null = ls) (hle : (hn_ent av).length ≤ hn_mx M) (h : hn_R false d kc ks M P 0 ls [] n D) : hn_EX d kc ks M av n D P := by
  intro l hst dC dI ty ad b0 L xs
  have hok2 := hok
  simp only [hn_okx, hn_okc, Bool.and_eq_true, decide_eq_true_eq] at hok2
  obtain ⟨hokr, ⟨⟨⟨⟨⟨⟨⟨⟨⟨q1, q2⟩, q3⟩, q4⟩, q5⟩, q6⟩, q7⟩, q8⟩, q9⟩, q10⟩⟩ := hok2
  refine vx_ofW (cc := hn_b M) (maxL := hn_mx M) (ret := hn_ret M) q7 rfl ?_
  intro p e s m args below meth c s₁ B hml htab hv
  obtain ⟨rfl, hU⟩ := hv
  obtain ⟨hP, hK, hn5, hgs, hr0, hr1, had, hb0, hK0, hX, hXb⟩ := hU
  have hts : ∀ w ∈ hn_ws M, w.before _ s = true := atoms_spec (ws := hn_ws M) B.pre
  have hin : meth.name = (hn_y M).name := (name_of_methodNamed B.named B.method).1
  have hown : s.vm.findClass (hn_y M).cls = some m.cls := findClass_of_methodNamed B.named
  have hlv := lv_entry (av.map (hn_v ad)) (n := hn_mx M) (by rw [hn_ent_sl]; exact hle)
  have hC : hn_C M d p ({ frames := d, cells := kc, slots := ks, locals := 64 * d } : Room) s m (av.map (hn_v ad)).toArray meth c dC dI ty ad b0 L xs :=
    ⟨B.exec, B.bytes, B.returns, hml, hown, fun w hw => hts w (List.mem_cons_of_mem _ hw), B.notSynchronized, fun hk => by rw [hin]; exact q8 hk, hK, had, hb0, hK0, Nat.le_refl _, Nat.le_refl _, hokr, hX, hXb⟩
  rw [lg_entry_eq]
  generalize (lg_sl (av.map (hn_v ad)) ++ List.replicate (hn_mx M - (lg_sl (av.map (hn_v ad))).length) Slot.unset).toArray = lsA at hlv ⊢
  refine h p l e ({ frames := d, cells := kc, slots := ks, locals := 64 * d } : Room) s m (av.map (hn_v ad)).toArray below meth c dC dI ty ad b0 L xs _ hC ⟨?_, hst, ?_, fun hh hh9 => absurd hh9 (by rw [htb]; exact fun z => nomatch z)⟩ s.heap [] 0 0 lsA ⟨hP, va_S.rf, hn5, (fun h9 => nomatch h9), hr0, hr1⟩ (Nat.le_of_eq (Nat.zero_add _)) (Nat.le_of_eq (Nat.zero_add _)) ⟨hlv.1, hlv.2.1, fun i v hi hnn => ?_⟩
  · intro r n' D' hPr hrn pc lsB H locs cells slots hdec hS hc hs
    obtain ⟨hP1, hSS, hn5', hgs', hr0', hr1'⟩ := hS
    refine vx_ret ?_
    refine W.widen (k := kc) (n := ks) hc hs ?_
    have fin : ∀ t : State, t.heap = H → s.WarmedH t.vm → hn_Q false dC dI ty ad b0 L xs (fun r n D => P r n D ∧ ¬ r = some .null) (av.map (hn_v ad)).toArray s (.returned r) t := by
      intro t ht hW
      exact ⟨r, n', D', ⟨hPr, hn_rn_nn hrn⟩, rfl, by rw [ht]; exact hP1, hn5', (fun h9 => nomatch h9), hr0', hr1', hSS.F ht, hn_rn_v hrn⟩
    have hrt := B.returns
    cases r with
    | none =>
      have hret : hn_ret M = none := by
        cases hh : hn_ret M with
        | none => rfl
        | some z => rw [hh] at hrn; cases z <;> exact absurd hrn (by simp [hn_rn])
      exact W.vret B.exec B.bytes (by rw [hrt]; exact hret) fin hSS.2.2 hdec B.notSynchronized
    | some z =>
      cases z with
      | int y =>
        cases hh : hn_ret M with
        | none => rw [hh] at hrn; exact absurd hrn (by simp [hn_rn])
        | some ft =>
          rw [hh] at hrn hrt
          cases ft <;> first | (simp [hn_rn] at hrn; done) | skip
          · exact W.iret B.exec B.bytes hrt fin hSS.2.2 hdec B.notSynchronized
          · refine W.zret (ty := .boolean) B.exec B.bytes hrt ?_ fin hSS.2.2 hdec B.notSynchronized
            have hrn : y = 0 ∨ y = 1 := hrn
            rcases hrn with rfl | rfl <;> rfl
      | long y =>
        cases hh : hn_ret M with
        | none => rw [hh] at hrn; exact absurd hrn (by simp [hn_rn])
        | some ft =>
          rw [hh] at hrn hrt
          cases ft <;> first | (simp [hn_rn] at hrn; done) | skip
          exact W.lret B.exec B.bytes hrt fin hSS.2.2 hdec B.notSynchronized
      | _ =>
        exfalso
        unfold hn_rn at hrn
        split at hrn <;> simp_all
  · intro n' D' pc r hPr hr hst2 lsB H locs cells slots hS hc hs hsz2
    obtain ⟨e1, k, tx, hit, d0, d3, d4, d7, d10⟩ := hthr pc r hr hst2
    obtain ⟨hP1, hSS, hn5', -, hr0', hr1'⟩ := hS
    obtain ⟨-, -, -, -, -, -, -, -, hkx, ⟨a2, t2⟩, ⟨a3, t3⟩, hZ1, hZ2⟩ := hK0
    rw [e1] at hown
    have hts2 : ∀ w ∈ hn_T, w.before (av.map (hn_v ad)).toArray s = true := fun w hw => hts w (List.mem_cons_of_mem _ hw)
    have hstr : ∃ sa, vk_R "HammockNet" k tx sa s := by
      rcases hit with ⟨rfl, rfl⟩ | ⟨rfl, rfl⟩
      · exact ⟨a2, t2⟩
      · exact ⟨a3, t3⟩
    obtain ⟨sa, hstr⟩ := hstr
    exact nx_throwSW (Y1 := nY) nx_b0 nx_b1 nx_b2 nx_b5 (by decide +kernel) B.exec B.bytes hst (own := "HammockNet") (cls := nX) (text := tx) (names := ["java/lang/Exception"]) (ik := 348) (ic := 352) (A := fun q => b0 ≤ q) hown (by decide +kernel) (by decide +kernel)
      (hts2 _ nx_clk) (hts2 _ nx_ini) hstr (nx_words hts2 hkx) nx_ot hZ1 hZ2 hSS (hsz2.trans hml.symm) d0 d3 d4 d7 d10 (fun x hx => (htab x hx).elim)
      (by show 1 + 4 < d; omega) (by show 0 + (13 * (1 + 2) + 43) ≤ 64 * d; omega) hc hs B.notSynchronized
      (fun t _ hz hq => ⟨rfl, n', D', hPr, hP1.kept (fun k q hk => hq _ (hP1 k q hk).lt), hn5', hr0', hr1', ⟨Nat.le_trans hSS.1 hz, fun q h1 h2 => by rw [hq q (Nat.lt_of_lt_of_le h1 hSS.1)]; exact hSS.2.1 q h1 h2⟩⟩)
      hSS.2.2 hc hs
  · subst hls
    rw [List.getElem?_append] at hi
    split at hi
    · have := hn_ent_args ad av 0 i v hi hnn
      rw [Nat.zero_add] at this
      exact hlv.2.2 _ this
    · rw [List.getElem?_replicate] at hi
      split at hi
      · cases hi; exact absurd rfl hnn
      · cases hi
/-- a place of which nothing is known -/
theorem hn_L.stn {ad : Nat → Nat} {lsA : Array Slot} {nL : Nat} {vs : List Value} {i : Nat} {w : Value} (h : lv_has lsA nL ((i, w) :: (hn_as ad 0 vs).filter (fun q => !(q.1 == i) && !(q.1 + 1 == i && q.2.category == 2)))) : hn_L ad lsA nL (hn_st1 vs i .null) := by
  refine ⟨h.1, h.2.1, fun j w hj hw => ?_⟩
  rcases hn_st1_get hj hw with ⟨rfl, rfl⟩ | ⟨h1, h2, h3⟩
  · exact absurd rfl hw
  · refine h.2.2 (j, hn_v ad w) (List.mem_cons_of_mem _ (List.mem_filter.mpr ⟨?_, ?_⟩))
    · have := hn_as_mem (ad := ad) (k := 0) h2 hw
      rwa [Nat.zero_add] at this
    · simp only [Bool.and_eq_true, Bool.not_eq_true', beq_eq_false_iff_ne, Bool.and_eq_false_iff, hn_v_cat]
      refine ⟨h1, ?_⟩
      by_cases q : j + 1 = i
      · exact Or.inr (fun z => h3 ⟨q, z⟩)
      · exact Or.inl q
set_option maxHeartbeats 4000000 in
theorem hn_callX {d d1 kc ks kc1 ks1 kc2 ks2 : Nat} {M M1 : hnM} {P P1 : Option Value → Nat → hnD → Prop} {pc : Nat} {ls st : List Value} {n : Nat} {D : hnD} {nx tg c k x b ci a0 a1 hp ct j nx2 tg2 c2 k2 pl : Nat} {v v2 : Value} {as : List Value}
    (hr : hn_lk (hn_rows M) pc = some (.invokevirtual x, 3, nx, tg, v, c, k)) (hy : hn_yl[c]? = some (hn_y M1)) (hok1 : hn_okx M1 = true) (hkd : hn_kd M1 = 1) (hci : (hn_cl[ci]?).map (fun q => q.1) = some (hn_y M1).cls) (hav : (st.take k).reverse = .ref b :: as) (hkb : hn_kind b = (0, ci)) (hbn : b < n) (hna : as.length + 1 = hn_na M1) (hst : ((st.drop k).map fun v => v.category).sum ≤ 8)
    (hE : hn_EX d1 kc1 ks1 M1 (.ref b :: as) n D P1) (hdd : d1 < d) (hk1 : kc1 + kc2 = kc) (hk2 : ks1 + ks2 = ks)
    (h : ∀ r n' D', P1 r n' D' → ¬ r = some .null → hn_R false d kc2 ks2 M P nx ls (r.toList ++ st.drop k) n' D')
    (htb : hn_tb M = some [(a0, a1, hp, ct)]) (hcov : a0 ≤ pc ∧ pc < a1) (hct : ct ≠ 0) (hln : hn_at (.classLink (hn_y M).cls ct nX) pl = true) (hr2 : hn_lk (hn_rows M) hp = some (.astore j, 2, nx2, tg2, v2, c2, k2)) (hj : j < hn_mx M)
    (hX : ∀ n' D', P1 (some .null) n' D' → hn_R false d kc2 ks2 M P nx2 (hn_st1 ls j .null) [] n' D') : hn_R false d kc ks M P pc ls st n D := by
  intro p l e R s m args below meth cd dC dI ty ad b0 L xs Q C F H locs cells slots lsA hS hc hs hL
  have C0 := C
  obtain ⟨hx, hb, hrt, hml, hown, hts, hlk, hin, hK, had, hb0, hK0, hfr, hlo, hok, hX6, hXb⟩ := C0
  have hS0 := hS
  obtain ⟨hP, hSS, hn5, hgs, hr0, hr1⟩ := hS0
  obtain ⟨hd, hnx, hv⟩ := hn_row hok hr
  obtain ⟨hd2, hnx2, -⟩ := hn_row hok hr2
  simp only [hn_ex, hy] at hv
  obtain ⟨q1, q2, q3, q4, q5, q6, q7, q8, q9⟩ := hn_okcsx hok1
  refine hn_sz (fun hsz => ?_)
  subst hnx; subst hk1; subst hk2; subst hnx2
  cases hq : hn_cl[ci]? with
  | none => rw [hq] at hci; cases hci
  | some q =>
    rw [hq] at hci
    have hci : q.1 = (hn_y M1).cls := Option.some.inj hci
    have hrec := va_recv hK hP (ci := ci) (q0 := b) hq (by rw [hn_w_get hbn, hn_cell_o hkb])
    rw [hci] at hrec
    have hsum : 2 * (F0 m pc lsA (st.map (hn_v ad))).monitorRoom + (((st.drop k).map (hn_v ad)).map fun v => v.category).sum ≤ 8 := by
      rw [hn_sum]
      show 2 * 0 + _ ≤ 8
      omega
    have run := vx_runV (Ts := hn_T) (own := (hn_y M).cls) (C := (hn_y M1).cls) (b := ad b) (As := as.map (hn_v ad)) (n := as.length) ⟨hx, hb, hml, hown, hts⟩ (hE l F.2.1 dC dI ty ad b0 L xs) ⟨callB_of (Ts := hn_T) _ hts (hn_goodx hok1 (fun _ z => z)) rfl rfl rfl (hts _ q5) (hts _ (hn_at_in hv)) ⟨q6.1, q6.2, by rw [q7, if_neg (by omega)]; congr 1; omega⟩ ⟨Nat.le_trans hdd hfr, by show 8 + (hn_mx M1 + 11) + 64 * d1 ≤ R.locals; omega⟩, hts _ (q3 (by omega)), hts _ (q4 hkd)⟩ ⟨hn_blind, hrec, hn_pre (av := .ref b :: as) C hS hsz⟩ rfl (by simp) hL.1 (hn_take ad hav) hsum hd ⟨by omega, by omega⟩ (locs := locs) (cells := cells) (slots := slots) (below := below) (e := e) (meth := meth)
    have keep : ∀ (n' : Nat) (D' : hnD) (st₀ t T' : State) (L' : List Loc), st₀.heap = H → T'.heap = t.heap → (∀ q ∈ L', (fun q => b0 ≤ q) q.base) → va_P (dC, dI) hn_cl (hn_w ty ad D' n') t.heap → n' ≤ 5000 → D'.1 6000 = xs → D'.1 6001 0 = Int32.ofNat L → va_F (fun q => b0 ≤ q) st₀ t → hn_S false dC dI ty ad b0 L xs n' D' s T'.heap (locs ++ L') (cells + kc1) := by
      intro n' D' st₀ t T' L' h0 e1 hL' hP' hn5' hr0' hr1' hF
      refine ⟨by rw [e1]; exact hP', ⟨?_, fun q h1 h2 => ?_, fun q hq => ?_⟩, hn5', (fun h9 => nomatch h9), hr0', hr1'⟩
      · have h8 := hF.1
        rw [h0] at h8
        rw [e1]
        exact Nat.le_trans hSS.1 h8
      · have h8 := hF.2 q (by rw [h0]; exact Nat.lt_of_lt_of_le h1 hSS.1) h2
        rw [h0] at h8
        rw [e1, h8]
        exact hSS.2.1 q h1 h2
      · rcases List.mem_append.mp hq with h8 | h8
        · exact hSS.2.2 q h8
        · exact hL' q h8
    intro T hT X
    rcases run T hT X with ⟨v, st₀, t, T', L', h0, X', hL', e1, e2, hq, st9⟩ | ⟨q9, st₀, t, T', L', E, ce, h0, X', hL', e1, e2, hq, hce, hcv, hcl, st9⟩
    · obtain ⟨r, n', D', ⟨hP1, hnn⟩, hv1, hP', hn5', -, hr0', hr1', hF, hvr⟩ := hq
      have hv1 := Outcome.returned.inj hv1
      subst hv1
      have w := h v n' D' hP1 hnn p l e R s m args below meth cd dC dI ty ad b0 L xs Q C F T'.heap (locs ++ L') (cells + kc1) (slots + ks1) lsA (keep n' D' st₀ t T' L' h0 e1 hL' hP' hn5' hr0' hr1' hF) (by omega) (by omega) hL
      obtain ⟨t2, a1, b1⟩ := w T' rfl X'
      refine ⟨t2, st9 t2 ?_, b1⟩
      have e9 : (v.toList ++ st.drop k).map (hn_v ad) = v.toList ++ (st.drop k).map (hn_v ad) := by
        rw [List.map_append]
        congr 1
        match v, hvr with
        | none, _ => rfl
        | some v, hvr => simp [hvr v rfl ad]
      rw [e9] at a1
      exact a1
    · obtain ⟨rfl, n', D', hP1, hP', hn5', hr0', hr1', hF⟩ := hq
      have hS' := keep n' D' st₀ t T' L' h0 e1 hL' hP' hn5' hr0' hr1' hF
      have kk : W p l e R s m args below meth cd T'.heap (locs ++ L') (cells + kc1) (slots + ks1) Q (F0 m hp lsA [.ref q9]) := lv_astore hx hb hd2 hL.has hj rfl (fun lsB hB => hX n' D' hP1 p l e R s m args below meth cd dC dI ty ad b0 L xs Q C F T'.heap (locs ++ L') (cells + kc1) (slots + ks1) lsB hS' (by omega) (by omega) (hn_L.stn hB))
      have hcat : vx_W p l e R s m args below meth cd T'.heap (locs ++ L') (cells + kc1) (slots + ks1) Q (F0 m pc lsA ((st.drop k).map (hn_v ad))) q9 := vx_catch (E := nX) (ce := ce) (name := nX) hown [] ⟨a0, a1, hp, ct⟩ [] (F.2.2.2 _ htb) (fun z hz => nomatch hz) (by show (decide (a0 ≤ pc) && decide (pc < a1)) = true; rw [decide_eq_true hcov.1, decide_eq_true hcov.2]; rfl) hct (hts _ (hn_at_in hln)) ((hK0.2.2.2.2.2.2.2.2.1 _ List.mem_cons_self).use rfl) (by rw [e1]; exact hce) hcv hcl kk
      obtain ⟨t2, a1, b1⟩ := hcat T' rfl X'
      exact ⟨t2, st9.trans a1, b1⟩
end HNthrow
