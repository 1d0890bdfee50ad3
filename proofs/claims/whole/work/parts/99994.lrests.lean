/-! the law's own rests: it catches -/
section HNlrests
variable {I : Nat → Nat → Int32} {J : Nat → Nat → Int64} {R : Nat → Nat → Option Nat}
/-- a contract of a method with a table of what it catches -/
def hn_EW (d kc ks : Nat) (M : hnM) (hh : List (Nat × Nat × Nat × Nat)) (av : List Value) (n : Nat) (D : hnD) (P : Option Value → Nat → hnD → Prop) : Prop :=
  ∀ (l : Launch) (_ : l.stackTraces = false) (dC : Nat → ClassId) (dI : Nat → Nat → Nat) (ty : Nat → ClassId) (ad : Nat → Nat) (b0 L : Nat) (xs : Nat → Int32),
    Met l (hn_y M) (Cond.codeWith (hn_y M) (hn_b M) (hn_mx M) (hn_ret M) hh :: hn_T) ({ frames := d, cells := kc, slots := ks, locals := 64 * d } : Room) (va_Pc (av.map (hn_v ad)) (hn_U false dC dI ty ad b0 L xs n D)) (hn_Q false dC dI ty ad b0 L xs P) kc ks (fun q => b0 ≤ q)
set_option maxHeartbeats 4000000 in
theorem hn_EW_of {d kc ks : Nat} {M : hnM} {hh : List (Nat × Nat × Nat × Nat)} {av : List Value} {n : Nat} {D : hnD} {P : Option Value → Nat → hnD → Prop} (ls : List Value) (hokr : hn_okr M = true) (htb : hn_tb M = some hh) (hns : (hn_rows M).all (fun r => !hn_st r.2) = true) (hkd : hn_kd M = 0) (q7 : plainName (hn_y M).cls = true)
    (hls : hn_ent av ++ List.replicate (hn_mx M - (hn_ent av).length) .null = ls) (hle : (hn_ent av).length ≤ hn_mx M) (h : hn_R false d kc ks M P 0 ls [] n D) : hn_EW d kc ks M hh av n D P := by
  intro l hst dC dI ty ad b0 L xs
  refine va_MetW (cc := hn_b M) (maxL := hn_mx M) (ret := hn_ret M) (hh := hh) q7 rfl ?_
  intro p e s m args below meth c s₁ B hml hv
  obtain ⟨rfl, hU⟩ := hv
  obtain ⟨hP, hK, hn5, hgs, hr0, hr1, had, hb0, hK0, hX, hXb⟩ := hU
  have hts : ∀ w ∈ (Cond.codeWith (hn_y M) (hn_b M) (hn_mx M) (hn_ret M) hh :: hn_T), w.before _ s = true := atoms_spec (ws := Cond.codeWith (hn_y M) (hn_b M) (hn_mx M) (hn_ret M) hh :: hn_T) B.pre
  have hlv := lv_entry (av.map (hn_v ad)) (n := hn_mx M) (by rw [hn_ent_sl]; exact hle)
  have htab : c.exceptionTable.toList = tableOf hh := vx_table (x := hn_y M) B (hts _ List.mem_cons_self)
  have hC : hn_C M d p ({ frames := d, cells := kc, slots := ks, locals := 64 * d } : Room) s m (av.map (hn_v ad)).toArray meth c dC dI ty ad b0 L xs :=
    ⟨B.exec, B.bytes, B.returns, hml, findClass_of_methodNamed B.named, fun w hw => hts w (List.mem_cons_of_mem _ hw), B.notSynchronized, fun hk => absurd hk (by omega), hK, had, hb0, hK0, Nat.le_refl _, Nat.le_refl _, hokr, hX, hXb⟩
  rw [lg_entry_eq]
  generalize (lg_sl (av.map (hn_v ad)) ++ List.replicate (hn_mx M - (lg_sl (av.map (hn_v ad))).length) Slot.unset).toArray = lsA at hlv ⊢
  refine h p l e ({ frames := d, cells := kc, slots := ks, locals := 64 * d } : Room) s m (av.map (hn_v ad)).toArray below meth c dC dI ty ad b0 L xs _ hC ⟨?_, hst, fun n D pc r _ hr hs9 => absurd hs9 (by have := List.all_eq_true.mp hns _ (hn_lk_mem hr); simpa using this), fun h9 e9 => by rw [htb] at e9; cases e9; exact htab⟩ s.heap [] 0 0 lsA ⟨hP, va_S.rf, hn5, (fun h9 => nomatch h9), hr0, hr1⟩ (Nat.le_of_eq (Nat.zero_add _)) (Nat.le_of_eq (Nat.zero_add _)) ⟨hlv.1, hlv.2.1, fun i v hi hnn => ?_⟩
  · intro r n' D' hPr hrn pc lsB H locs cells slots hdec hS hc hs
    obtain ⟨hP1, hSS, hn5', hgs', hr0', hr1'⟩ := hS
    refine W.widen (k := kc) (n := ks) hc hs ?_
    have fin : ∀ t : State, t.heap = H → s.WarmedH t.vm → hn_Q false dC dI ty ad b0 L xs P (av.map (hn_v ad)).toArray s (.returned r) t := by
      intro t ht hW
      exact ⟨r, n', D', hPr, rfl, by rw [ht]; exact hP1, hn5', (fun h9 => nomatch h9), hr0', hr1', hSS.F ht, hn_rn_v hrn⟩
    have hrt := B.returns
    cases r with
    | none =>
      have hret : hn_ret M = none := by
        cases hh : hn_ret M with
        | none => rfl
        | some z => rw [hh] at hrn; cases z <;> exact absurd hrn (by simp [hn_rn])
      exact W.vret B.exec B.bytes (by rw [hrt]; exact hret) fin hSS.2.2 hdec B.notSynchronized
    | some z =>
      cases z with
      | int y =>
        cases hh : hn_ret M with
        | none => rw [hh] at hrn; exact absurd hrn (by simp [hn_rn])
        | some ft =>
          rw [hh] at hrn hrt
          cases ft <;> first | (simp [hn_rn] at hrn; done) | skip
          · exact W.iret B.exec B.bytes hrt fin hSS.2.2 hdec B.notSynchronized
          · refine W.zret (ty := .boolean) B.exec B.bytes hrt ?_ fin hSS.2.2 hdec B.notSynchronized
            have hrn : y = 0 ∨ y = 1 := hrn
            rcases hrn with rfl | rfl <;> rfl
      | long y =>
        cases hh : hn_ret M with
        | none => rw [hh] at hrn; exact absurd hrn (by simp [hn_rn])
        | some ft =>
          rw [hh] at hrn hrt
          cases ft <;> first | (simp [hn_rn] at hrn; done) | skip
          exact W.lret B.exec B.bytes hrt fin hSS.2.2 hdec B.notSynchronized
      | _ =>
        exfalso
        unfold hn_rn at hrn
        split at hrn <;> simp_all
  · subst hls
    rw [List.getElem?_append] at hi
    split at hi
    · have := hn_ent_args ad av 0 i v hi hnn
      rw [Nat.zero_add] at this
      exact hlv.2.2 _ this
    · rw [List.getElem?_replicate] at hi
      split at hi
      · cases hi; exact absurd rfl hnn
      · cases hi
/-- .. and the call of it -/
theorem hn_callSW {d d1 kc ks kc1 ks1 kc2 ks2 : Nat} {M M1 : hnM} {hh : List (Nat × Nat × Nat × Nat)} {P P1 : Option Value → Nat → hnD → Prop} {pc : Nat} {ls st : List Value} {n : Nat} {D : hnD} {nx tg c k x q1 q2 q3 : Nat} {v : Value} {as : List Value}
    (hr : hn_lk (hn_rows M) pc = some (.invokestatic x, 3, nx, tg, v, c, k)) (hy : hn_yl[c]? = some (hn_y M1)) (hcw : hn_at (.codeWith (hn_y M1) (hn_b M1) (hn_mx M1) (hn_ret M1) hh) q1 = true) (hstt : hn_at (.static (hn_y M1)) q2 = true) (hini : hn_at (.initialized (hn_y M1).cls) q3 = true)
    (hnm : (hn_y M1).cls ≠ "java/lang/invoke/MethodHandle" ∧ (hn_y M1).cls ≠ "java/lang/invoke/VarHandle" ∧ (parseMethodDescriptor (hn_y M1).desc).map (fun d => d.parameters.length) = some as.length) (hm30 : hn_mx M1 ≤ 30) (hav : (st.take k).reverse = as) (hst : ((st.drop k).map fun v => v.category).sum ≤ 8)
    (hE : hn_EW d1 kc1 ks1 M1 hh as n D P1) (hdd : d1 < d) (hk1 : kc1 + kc2 = kc) (hk2 : ks1 + ks2 = ks) (h : ∀ r n' D', P1 r n' D' → hn_R false d kc2 ks2 M P nx ls (r.toList ++ st.drop k) n' D') : hn_R false d kc ks M P pc ls st n D := by
  intro p l e R s m args below meth cd dC dI ty ad b0 L xs Q C F H locs cells slots lsA hS hc hs hL
  have C0 := C
  obtain ⟨hx, hb, hrt, hml, hown, hts, hlk, hin, hK, had, hb0, hK0, hfr, hlo, hok, hX, hXb⟩ := C0
  have hS0 := hS
  obtain ⟨hP, hSS, hn5, hgs, hr0, hr1⟩ := hS0
  obtain ⟨hd, hnx, hv⟩ := hn_row hok hr
  simp only [hn_ex, hy] at hv
  have hG : GoodIn hn_T (va_wsS (hn_y M).cls x (hn_y M1) (Cond.codeWith (hn_y M1) (hn_b M1) (hn_mx M1) (hn_ret M1) hh :: hn_T)) := by
    intro w hw
    have hw2 : w ∈ hn_T := by
      simp only [va_wsS, List.cons_append, List.nil_append, List.mem_cons] at hw
      rcases hw with rfl | rfl | rfl | rfl | hw
      · exact hn_at_in hv
      · exact hn_at_in hstt
      · exact hn_at_in hini
      · exact hn_at_in hcw
      · exact hw
    exact ⟨hw2, good_of_word (List.mem_filter.mp hw2).2⟩
  refine hn_sz (fun hsz => ?_)
  have hsum : 2 * (F0 m pc lsA (st.map (hn_v ad))).monitorRoom + (((st.drop k).map (hn_v ad)).map fun v => v.category).sum ≤ 8 := by
    rw [hn_sum]
    show 2 * 0 + _ ≤ 8
    omega
  exact hn_back C F hS hc hs hL hk1 hk2 hnx (fun _ _ _ _ q => nomatch q) h (vx_runSW (Ts := hn_T) (own := (hn_y M).cls) (As := as.map (hn_v ad)) (n := as.length) ⟨hx, hb, hml, hown, hts⟩ (hE l F.2.1 dC dI ty ad b0 L xs) (vx_cwSW (ws' := hn_T) as.length hts hG rfl rfl rfl hnm ⟨Nat.le_trans hdd hfr, by show 8 + (hn_mx M1 + 11) + 64 * d1 ≤ R.locals; omega⟩) ⟨hn_blind, hn_pre (av := as) C hS hsz⟩ rfl (by simp) hL.1 (hn_takeS ad hav) hsum hd ⟨by omega, by omega⟩)
/-- its end -/
def w_P (D : hnD) (u v w q : Int32) : Option Value → Nat → hnD → Prop := fun r n' D' => n' = 213 ∧ ((v_thr u v w q ∧ r = some (.int 1) ∧ D' = D) ∨ (¬ v_thr u v w q ∧ r = some (.int 0) ∧ D' = (D.1, hn_u D.2.1 212 0 (v_rests u v w q).toInt64, D.2.2)))
theorem q_Law_rests {u v w q : Int32} : hn_EW 7 1 6 hm_Law_rests [(0, 14, 17, 13)] [.ref 0, .int u, .int v, .int w, .int q, .ref 212] 213 (I, J, R) (w_P (I, J, R) u v w q) := by
  refine hn_EW_of _ hk_Law_rests rfl rfl rfl (by decide +kernel) rfl (Nat.le_of_ble_eq_true rfl) ?_
  refine hn_aload rfl rfl ?_
  refine hn_iconst rfl ?_
  refine hn_aload_n rfl rfl ?_
  refine hn_iload_n rfl rfl ?_
  refine hn_iload_n rfl rfl ?_
  refine hn_iload_n rfl rfl ?_
  refine hn_iload rfl rfl ?_
  refine hn_callX (pl := 1149) (ci := 0) (kc2 := 0) (ks2 := 0) rfl rfl hk_X_rests rfl rfl rfl rfl (by omega) rfl (Nat.le_of_ble_eq_true rfl) (q_X_rests (by omega)) (Nat.le_of_ble_eq_true rfl) rfl rfl (fun r n' D' h hnn => ?_) rfl ⟨by omega, by omega⟩ (by decide) (by decide +kernel) rfl (Nat.le_of_ble_eq_true rfl) (fun n' D' h => ?_)
  · obtain ⟨rfl, rfl, h | h⟩ := h
    · exact absurd h.1 hnn
    · obtain ⟨rfl, h⟩ := h
      refine hn_i2l rfl ?_
      refine hn_lastore (a := 212) (j := 0) (z := 1) rfl rfl (by omega) rfl (by omega) ?_
      refine hn_goto rfl ?_
      refine hn_iconst rfl ?_
      exact hn_ireturn (st := []) rfl trivial ⟨rfl, Or.inr ⟨h, rfl, rfl⟩⟩
  · obtain ⟨rfl, rfl, h | h⟩ := h
    · refine hn_iconst rfl ?_
      exact hn_ireturn (st := []) rfl trivial ⟨rfl, Or.inl ⟨h.2, rfl, rfl⟩⟩
    · exact absurd h.1 (by intro z; cases z)
end HNlrests
