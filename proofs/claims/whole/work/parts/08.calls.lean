section HNcall
def hn_ws (M : hnM) : List Cond := .code (hn_y M) (hn_b M) (hn_mx M) (hn_ret M) :: hn_T
/-- a method's start: the world, the constants, the script -/
def hn_U (g : Bool) (dC : Nat → ClassId) (dI : Nat → Nat → Nat) (ty : Nat → ClassId) (ad : Nat → Nat) (b0 L : Nat) (xs : Nat → Int32) (n : Nat) (D : hnD) (U : State) : Prop :=
  va_P (dC, dI) hn_cl (hn_w ty ad D n) U.heap ∧ va_K (dC, dI) hn_cl (hn_tys ty) U ∧ n ≤ 5000 ∧ (g = true → U.heap.size = b0 + n) ∧ D.1 6000 = xs ∧ D.1 6001 0 = Int32.ofNat L ∧ (∀ k, k < 5000 → ad k = b0 + k) ∧ b0 ≤ U.heap.size ∧ hn_K0 ad b0 U U.heap ∧ va_X (ad 6000) L xs U U.heap ∧ ad 6000 < b0
/-- its end -/
def hn_Q (g : Bool) (dC : Nat → ClassId) (dI : Nat → Nat → Nat) (ty : Nat → ClassId) (ad : Nat → Nat) (b0 L : Nat) (xs : Nat → Int32) (P : Option Value → Nat → hnD → Prop) : Array Value → State → Outcome → State → Prop := fun _ st o t =>
  ∃ (r : Option Value) (n : Nat) (D : hnD), P r n D ∧ o = .returned r ∧ va_P (dC, dI) hn_cl (hn_w ty ad D n) t.heap ∧ n ≤ 5000 ∧ (g = true → t.heap.size = b0 + n) ∧ D.1 6000 = xs ∧ D.1 6001 0 = Int32.ofNat L ∧ va_F (fun q => b0 ≤ q) st t ∧ ∀ v, r = some v → ∀ a : Nat → Nat, hn_v a v = v
/-- the method M, with these arguments over this world, comes to an end that P knows; d calls deep at most, just kc cells and ks slots new (at most) -/
def hn_E (g : Bool) (d kc ks : Nat) (M : hnM) (av : List Value) (n : Nat) (D : hnD) (P : Option Value → Nat → hnD → Prop) : Prop :=
  ∀ (l : Launch) (_ : l.stackTraces = false) (dC : Nat → ClassId) (dI : Nat → Nat → Nat) (ty : Nat → ClassId) (ad : Nat → Nat) (b0 L : Nat) (xs : Nat → Int32),
    Met l (hn_y M) (hn_ws M) ({ frames := d, cells := kc, slots := ks, locals := 64 * d } : Room) (va_Pc (av.map (hn_v ad)) (hn_U g dC dI ty ad b0 L xs n D)) (hn_Q g dC dI ty ad b0 L xs P) kc ks (fun q => b0 ≤ q)
theorem hn_K1.moved {b0 : Nat} {s U : State} {H : Heap} (hW : s.WarmedH U.vm) (h : hn_K1 b0 s H) : hn_K1 b0 U H := by
  obtain ⟨h1, ⟨a2, h2⟩, ⟨a3, h3⟩, h4, h5⟩ := h
  exact ⟨fun w hw => by
    have h9 := h1 w hw
    simp only [hn_kx, List.mem_cons, List.not_mem_nil, or_false] at hw
    rcases hw with rfl | rfl | rfl | rfl
    · exact va_Nw.warmC hW h9
    · exact va_Nw.warmD hW h9
    · exact va_Nw.warmD hW h9
    · exact va_Nw.warmD hW h9, ⟨a2, vk_R.warm hW h2⟩, ⟨a3, vk_R.warm hW h3⟩, vx_Zq.moved hW.alike h4, vx_Zq.moved hW.alike h5⟩
theorem hn_K1.same {b0 : Nat} {s U : State} {H : Heap} (hv : s.vm = U.vm) (h : hn_K1 b0 s H) : hn_K1 b0 U H := by
  have ha : s.vm.Alike U.vm := by rw [hv]; exact Vm.Alike.refl U.vm
  obtain ⟨h1, ⟨a2, h2⟩, ⟨a3, h3⟩, h4, h5⟩ := h
  exact ⟨fun w hw => by
    have h9 := h1 w hw
    simp only [hn_kx, List.mem_cons, List.not_mem_nil, or_false] at hw
    rcases hw with rfl | rfl | rfl | rfl <;> exact va_Nw.same rfl hv h9, ⟨a2, vk_R.same hv.symm h2⟩, ⟨a3, vk_R.same hv.symm h3⟩, vx_Zq.moved ha h4, vx_Zq.moved ha h5⟩
theorem hn_K1.kept {b0 : Nat} {U : State} {H H1 : Heap} (h : hn_K1 b0 U H) (hq : ∀ a : Nat, a < H.size → ¬ b0 ≤ a → H1[a]? = H[a]?) : hn_K1 b0 U H1 := by
  obtain ⟨h1, h2, h3, h4, h5⟩ := h
  exact ⟨h1, h2, h3, h4.kept hq, h5.kept hq⟩
theorem hn_K0.moved {ad : Nat → Nat} {b0 : Nat} {s U : State} {H : Heap} (hW : s.WarmedH U.vm) (h : hn_K0 ad b0 s H) : hn_K0 ad b0 U H := by
  obtain ⟨h1, h2, h3, h4, h5, h6, h7, h8, k1⟩ := h
  exact ⟨h1.moved hW.alike, h2.moved hW.alike, h3.moved hW.alike, h4.moved hW.alike, fun w hw => by
    have h9 := h5 w hw
    simp only [hn_nest, List.mem_cons, List.not_mem_nil, or_false] at hw
    rcases hw with rfl | rfl | rfl | rfl | rfl | rfl | rfl | rfl | rfl <;> exact va_Nw.warmM hW h9, h6.moved hW.alike, h7.moved hW.alike, h8.moved hW.alike, k1.moved hW⟩
theorem hn_K0.same {ad : Nat → Nat} {b0 : Nat} {s U : State} {H : Heap} (hv : s.vm = U.vm) (h : hn_K0 ad b0 s H) : hn_K0 ad b0 U H := by
  have ha : s.vm.Alike U.vm := by rw [hv]; exact Vm.Alike.refl U.vm
  obtain ⟨h1, h2, h3, h4, h5, h6, h7, h8, k1⟩ := h
  exact ⟨h1.moved ha, h2.moved ha, h3.moved ha, h4.moved ha, fun w hw => by
    have h9 := h5 w hw
    simp only [hn_nest, List.mem_cons, List.not_mem_nil, or_false] at hw
    rcases hw with rfl | rfl | rfl | rfl | rfl | rfl | rfl | rfl | rfl <;> exact va_Nw.same rfl hv h9, h6.moved ha, h7.moved ha, h8.moved ha, k1.same hv⟩
theorem hn_K0.kept {ad : Nat → Nat} {b0 : Nat} {U : State} {H H1 : Heap} (h : hn_K0 ad b0 U H) (hq : ∀ a : Nat, a < H.size → ¬ b0 ≤ a → H1[a]? = H[a]?) : hn_K0 ad b0 U H1 := by
  obtain ⟨h1, h2, h3, h4, h5, h6, h7, h8, k1⟩ := h
  exact ⟨h1.kept hq, h2.kept hq, h3.kept hq, h4.kept hq, h5, h6, h7, h8, k1.kept hq⟩
theorem hn_ok_r {M : hnM} (h : hn_ok M = true) : hn_okr M = true := by simp only [hn_ok, Bool.and_eq_true] at h; have h := h.1; simp only [hn_okx, Bool.and_eq_true] at h; exact h.1
theorem hn_nost {M : hnM} {pc : Nat} {r : hnR} (h : hn_ok M = true) (hr : hn_lk (hn_rows M) pc = some r) : ¬ hn_st r = true := by
  simp only [hn_ok, hn_ns, Bool.and_eq_true, List.all_eq_true] at h
  have := h.2.1.1 _ (hn_lk_mem hr)
  simpa using this
theorem hn_glok {M : hnM} (h : hn_ok M = true) : hn_gl M = true := by
  simp only [hn_ok, hn_ns, Bool.and_eq_true] at h
  exact h.2.2
theorem hn_notb {M : hnM} (h : hn_ok M = true) : hn_tb M = none := by
  simp only [hn_ok, hn_ns, Bool.and_eq_true] at h
  exact Option.isNone_iff_eq_none.mp h.2.1.2
theorem hn_rn_v {rt : Option FieldType} {r : Option Value} (h : hn_rn rt r) : ∀ v, r = some v → ∀ a : Nat → Nat, hn_v a v = v := by
  intro v hv a
  subst hv
  cases v <;> first | rfl | (exfalso; unfold hn_rn at h; split at h <;> simp_all)
/-- the locals at the entry -/
def hn_ent : List Value → List Value
  | [] => []
  | v :: t => if v.category = 2 then v :: .null :: hn_ent t else v :: hn_ent t
theorem hn_ent_sl (ad : Nat → Nat) : ∀ av : List Value, (lg_sl (av.map (hn_v ad))).length = (hn_ent av).length
  | [] => rfl
  | v :: t => by
    have ih := hn_ent_sl ad t
    simp only [List.map_cons, lg_sl, List.flatMap_cons, List.length_append, hn_ent, hn_v_cat]
    simp only [lg_sl] at ih
    split <;> simp [ih] <;> omega
theorem hn_ent_args (ad : Nat → Nat) : ∀ (av : List Value) (k i : Nat) (v : Value), (hn_ent av)[i]? = some v → v ≠ .null → (k + i, hn_v ad v) ∈ lv_args k (av.map (hn_v ad))
  | [], k, i, v, h, _ => by simp [hn_ent] at h
  | w :: t, k, i, v, h, hn => by
    simp only [List.map_cons, lv_args, hn_v_cat]
    unfold hn_ent at h
    split at h
    · rename_i hc
      match i, h with
      | 0, h => simp at h; subst h; exact List.mem_cons_self
      | 1, h => simp at h; exact absurd h.symm hn
      | i + 2, h =>
        refine List.mem_cons_of_mem _ ?_
        simp only [hc, if_true]
        have := hn_ent_args ad t (k + 2) i v (by simpa using h) hn
        rwa [show k + 2 + i = k + (i + 2) by omega] at this
    · rename_i hc
      match i, h with
      | 0, h => simp at h; subst h; exact List.mem_cons_self
      | i + 1, h =>
        refine List.mem_cons_of_mem _ ?_
        simp only [hc, if_false]
        have := hn_ent_args ad t (k + 1) i v (by simpa using h) hn
        rwa [show k + 1 + i = k + (i + 1) by omega] at this
/-- a method by its body -/
theorem hn_E_of {g : Bool} {d kc ks : Nat} {M : hnM} {av : List Value} {n : Nat} {D : hnD} {P : Option Value → Nat → hnD → Prop} (ls : List Value) (hok : hn_ok M = true) (hls : hn_ent av ++ List.replicate (hn_mx M - (hn_ent av).length) .null = ls) (hle : (hn_ent av).length ≤ hn_mx M) (h : hn_R g d kc ks M P 0 ls [] n D) : hn_E g d kc ks M av n D P := by
  intro l hst dC dI ty ad b0 L xs
  have hgl : (g && hn_gl M) = g := by rw [hn_glok hok, Bool.and_true]
  have hok2 := hn_ok_x hok
  simp only [hn_okx, hn_okc, Bool.and_eq_true, decide_eq_true_eq] at hok2
  obtain ⟨hokr, ⟨⟨⟨⟨⟨⟨⟨⟨⟨q1, q2⟩, q3⟩, q4⟩, q5⟩, q6⟩, q7⟩, q8⟩, q9⟩, q10⟩⟩ := hok2
  refine Met.ofW (cc := hn_b M) (maxL := hn_mx M) (ret := hn_ret M) q7 rfl ?_
  intro p e s m args below meth c s₁ B hml hv
  obtain ⟨rfl, hU⟩ := hv
  obtain ⟨hP, hK, hn5, hgs, hr0, hr1, had, hb0, hK0, hX, hXb⟩ := hU
  have hts : ∀ w ∈ hn_ws M, w.before _ s = true := atoms_spec (ws := hn_ws M) B.pre
  have hin : meth.name = (hn_y M).name := (name_of_methodNamed B.named B.method).1
  have hlv := lv_entry (av.map (hn_v ad)) (n := hn_mx M) (by rw [hn_ent_sl]; exact hle)
  have hC : hn_C M d p ({ frames := d, cells := kc, slots := ks, locals := 64 * d } : Room) s m (av.map (hn_v ad)).toArray meth c dC dI ty ad b0 L xs :=
    ⟨B.exec, B.bytes, B.returns, hml, findClass_of_methodNamed B.named, fun w hw => hts w (List.mem_cons_of_mem _ hw), B.notSynchronized, fun hk => by rw [hin]; exact q8 hk, hK, had, hb0, hK0, Nat.le_refl _, Nat.le_refl _, hokr, hX, hXb⟩
  rw [lg_entry_eq]
  generalize (lg_sl (av.map (hn_v ad)) ++ List.replicate (hn_mx M - (lg_sl (av.map (hn_v ad))).length) Slot.unset).toArray = lsA at hlv ⊢
  refine h p l e ({ frames := d, cells := kc, slots := ks, locals := 64 * d } : Room) s m (av.map (hn_v ad)).toArray below meth c dC dI ty ad b0 L xs _ hC ⟨?_, hst, fun n D pc r _ hr hs9 => absurd hs9 (hn_nost hok hr), fun hh hh9 => absurd hh9 (by rw [hn_notb hok]; exact fun z => nomatch z)⟩ s.heap [] 0 0 lsA ⟨hP, va_S.rf, hn5, fun h9 => by rw [hgs h9]; omega, hr0, hr1⟩ (Nat.le_of_eq (Nat.zero_add _)) (Nat.le_of_eq (Nat.zero_add _)) ⟨hlv.1, hlv.2.1, fun i v hi hnn => ?_⟩
  · rw [hgl]
    intro r n' D' hPr hrn pc lsB H locs cells slots hdec hS hc hs
    obtain ⟨hP1, hSS, hn5', hgs', hr0', hr1'⟩ := hS
    refine hn_sz (fun hsz => ?_)
    refine W.widen (k := kc) (n := ks) hc hs ?_
    have fin : ∀ t : State, t.heap = H → s.WarmedH t.vm → hn_Q g dC dI ty ad b0 L xs P (av.map (hn_v ad)).toArray s (.returned r) t := by
      intro t ht hW
      refine ⟨r, n', D', hPr, rfl, by rw [ht]; exact hP1, hn5', fun h9 => ?_, hr0', hr1', hSS.F ht, hn_rn_v hrn⟩
      have h8 := hgs' h9
      have h7 : b0 + n' ≤ H.size := by
        by_cases hn0 : n' = 0
        · have := hSS.1; omega
        · have h6 := (hP1 (n' - 1) _ (hn_w_get (by omega))).lt
          simp only at h6
          rw [had _ (by omega)] at h6
          omega
      rw [ht]; omega
    have hrt := B.returns
    cases r with
    | none =>
      have hret : hn_ret M = none := by
        cases hh : hn_ret M with
        | none => rfl
        | some z => rw [hh] at hrn; cases z <;> exact absurd hrn (by simp [hn_rn])
      exact W.vret B.exec B.bytes (by rw [hrt]; exact hret) fin hSS.2.2 hdec B.notSynchronized
    | some z =>
      cases z with
      | int y =>
        cases hh : hn_ret M with
        | none => rw [hh] at hrn; exact absurd hrn (by simp [hn_rn])
        | some ft =>
          rw [hh] at hrn hrt
          cases ft <;> first | (simp [hn_rn] at hrn; done) | skip
          · exact W.iret B.exec B.bytes hrt fin hSS.2.2 hdec B.notSynchronized
          · refine W.zret (ty := .boolean) B.exec B.bytes hrt ?_ fin hSS.2.2 hdec B.notSynchronized
            have hrn : y = 0 ∨ y = 1 := hrn
            rcases hrn with rfl | rfl <;> rfl
      | long y =>
        cases hh : hn_ret M with
        | none => rw [hh] at hrn; exact absurd hrn (by simp [hn_rn])
        | some ft =>
          rw [hh] at hrn hrt
          cases ft <;> first | (simp [hn_rn] at hrn; done) | skip
          exact W.lret B.exec B.bytes hrt fin hSS.2.2 hdec B.notSynchronized
      | _ =>
        exfalso
        unfold hn_rn at hrn
        split at hrn <;> simp_all
  · subst hls
    rw [List.getElem?_append] at hi
    split at hi
    · have := hn_ent_args ad av 0 i v hi hnn
      rw [Nat.zero_add] at this
      exact hlv.2.2 _ this
    · rw [List.getElem?_replicate] at hi
      split at hi
      · cases hi; exact absurd rfl hnn
      · cases hi
theorem hn_goodx {Ts : List Cond} {M : hnM} (h : hn_okx M = true) (hT : ∀ w ∈ hn_T, w ∈ Ts) : GoodIn Ts (hn_ws M) := by
  intro w hw
  have hw2 : w ∈ hn_T := by
    rcases List.mem_cons.mp hw with rfl | hw
    · simp only [hn_okx, hn_okc, Bool.and_eq_true] at h
      exact hn_at_in h.2.1.1.1.1.1.1.1.1.1
    · exact hw
  exact ⟨hT w hw2, good_of_word (List.mem_filter.mp hw2).2⟩
theorem hn_good {Ts : List Cond} {M : hnM} (h : hn_ok M = true) (hT : ∀ w ∈ hn_T, w ∈ Ts) : GoodIn Ts (hn_ws M) := hn_goodx (hn_ok_x h) hT
theorem hn_blind {g : Bool} {dC : Nat → ClassId} {dI : Nat → Nat → Nat} {ty : Nat → ClassId} {ad : Nat → Nat} {b0 L : Nat} {xs : Nat → Int32} {n : Nat} {D : hnD} {av : List Value} : FrameBlind (va_Pc av (hn_U g dC dI ty ad b0 L xs n D)) := by
  intro a U gf mk q
  obtain ⟨rfl, hP, hK, hn5, hgs, hr0, hr1, had, hb0, hK0, hX, hXb⟩ := q
  exact ⟨rfl, hP, va_K.moved (u := U) (Vm.Alike.refl U.vm) hK, hn5, hgs, hr0, hr1, had, hb0, hn_K0.same (s := U) rfl hK0, va_X.moved (u := U) (Vm.Alike.refl U.vm) hX, hXb⟩
/-- what a callee finds -/
theorem hn_pre {g : Bool} {M : hnM} {d : Nat} {p : Program} {R : Room} {s : State} {m : MethodId} {args : Array Value} {meth : Method} {c : Code} {dC : Nat → ClassId} {dI : Nat → Nat → Nat} {ty : Nat → ClassId} {ad : Nat → Nat} {b0 L : Nat} {xs : Nat → Int32} {n : Nat} {D : hnD} {H : Heap} {locs : List Loc} {cells : Nat} {av : List Value}
    (C : hn_C M d p R s m args meth c dC dI ty ad b0 L xs) (hS : hn_S g dC dI ty ad b0 L xs n D s H locs cells) (hsz : H.size ≤ s.heap.size + cells) : ∀ U : State, U.heap = H → s.WarmedH U.vm → va_Pc (av.map (hn_v ad)) (hn_U g dC dI ty ad b0 L xs n D) (av.map (hn_v ad)).toArray U := by
  obtain ⟨hx, hb, hrt, hml, hown, hts, hlk, hin, hK, had, hb0, hK0, hfr, hlo, hok, hX, hXb⟩ := C
  obtain ⟨hP, hSS, hn5, hgs, hr0, hr1⟩ := hS
  intro U hU hW
  refine ⟨rfl, by rw [hU]; exact hP, hK.moved hW.alike, hn5, fun h9 => ?_, hr0, hr1, had, by rw [hU]; exact Nat.le_trans hb0 hSS.1, by rw [hU]; exact (hK0.kept hSS.2.1).moved hW, ?_, hXb⟩
  · have h8 := hgs h9
    have h7 : b0 + n ≤ H.size := by
      by_cases hn0 : n = 0
      · have := hSS.1; omega
      · have h6 := (hP (n - 1) _ (hn_w_get (by omega))).lt
        simp only at h6
        rw [had _ (by omega)] at h6
        omega
    rw [hU]; omega
  · rw [hU]
    exact (hX.kept (hSS.2.1 _ (Nat.lt_of_lt_of_le hXb hb0) (Nat.not_le.mpr hXb))).moved hW.alike
/-- behind a call -/
theorem hn_back {g : Bool} {d kc ks kc1 ks1 kc2 ks2 : Nat} {M : hnM} {P P1 : Option Value → Nat → hnD → Prop} {nx : Nat} {ls rest : List Value} {n : Nat} {D : hnD} {p : Program} {l : Launch} {e : Env} {R : Room} {s : State} {m : MethodId} {args : Array Value} {below : List Frame} {meth : Method} {c : Code} {dC : Nat → ClassId} {dI : Nat → Nat → Nat} {ty : Nat → ClassId} {ad : Nat → Nat} {b0 L : Nat} {xs : Nat → Int32} {Q : State → Prop} {H : Heap} {locs : List Loc} {cells slots : Nat} {lsA : Array Slot} {pc : Nat} {stA : List Value} {a : Array Value}
    (C : hn_C M d p R s m args meth c dC dI ty ad b0 L xs) (F : hn_Fin g M P p l e R s m args below meth c dC dI ty ad b0 L xs Q) (hS : hn_S g dC dI ty ad b0 L xs n D s H locs cells) (hc : cells + kc ≤ R.cells) (hs : slots + ks ≤ R.slots) (hL : hn_L ad lsA (hn_mx M) ls) (hk1 : kc1 + kc2 = kc) (hk2 : ks1 + ks2 = ks) (hnx : pc + 3 = nx)
    (hg : ∀ r n' D', P1 r n' D' → g = true → n' = n + kc1) (h : ∀ r n' D', P1 r n' D' → hn_R g d kc2 ks2 M P nx ls (r.toList ++ rest) n' D')
    (run : va_Run p l e R s m args below meth c H locs cells slots kc1 ks1 (F0 m pc lsA stA) (rest.map (hn_v ad)) (hn_Q g dC dI ty ad b0 L xs P1 a) (fun q => b0 ≤ q)) : W p l e R s m args below meth c H locs cells slots Q (F0 m pc lsA stA) := by
  intro T hT X
  obtain ⟨v, st₀, t, T', L', h0, X', hL', e1, e2, hq, st⟩ := run T hT X
  obtain ⟨r, n', D', hP1, hv, hP', hn5', hgs', hr0', hr1', hF, hvr⟩ := hq
  have hv := Outcome.returned.inj hv
  subst hv
  have C2 := C
  obtain ⟨hx, hb, hrt, hml, hown, hts, hlk, hin, hK, had, hb0, hK0, hfr, hlo, hok, hX, hXb⟩ := C2
  obtain ⟨hP, hSS, hn5, hgs, hr0, hr1⟩ := hS
  subst hnx; subst hk1; subst hk2
  have hS' : hn_S g dC dI ty ad b0 L xs n' D' s T'.heap (locs ++ L') (cells + kc1) := by
    refine ⟨by rw [e1]; exact hP', ⟨?_, fun q h1 h2 => ?_, fun q hq => ?_⟩, hn5', fun h9 => ?_, hr0', hr1'⟩
    · have h8 := hF.1
      rw [h0] at h8
      rw [e1]
      exact Nat.le_trans hSS.1 h8
    · have h8 := hF.2 q (by rw [h0]; exact Nat.lt_of_lt_of_le h1 hSS.1) h2
      rw [h0] at h8
      rw [e1, h8]
      exact hSS.2.1 q h1 h2
    · rcases List.mem_append.mp hq with h8 | h8
      · exact hSS.2.2 q h8
      · exact hL' q h8
    · have h8 := hgs h9
      have h7 := hg _ _ _ hP1 h9
      omega
  have w := h v n' D' hP1 p l e R s m args below meth c dC dI ty ad b0 L xs Q C F T'.heap (locs ++ L') (cells + kc1) (slots + ks1) lsA hS' (by omega) (by omega) hL
  obtain ⟨t2, a1, b1⟩ := w T' rfl X'
  refine ⟨t2, st t2 ?_, b1⟩
  have e9 : (v.toList ++ rest).map (hn_v ad) = v.toList ++ rest.map (hn_v ad) := by
    rw [List.map_append]
    congr 1
    match v, hvr with
    | none, _ => rfl
    | some v, hvr => simp [hvr v rfl ad]
  rw [e9] at a1
  exact a1
end HNcall
