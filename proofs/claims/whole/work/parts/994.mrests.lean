section HNmrests
variable {I I' : Nat → Nat → Int32} {J J' : Nat → Nat → Int64} {R R' : Nat → Nat → Option Nat}
theorem hs_Rm_c {f : Nat → Nat} {n E : Nat} {s : rd} (h : hs_Rm I J f n E s) (g0 : I' 190 = I 190) (g1 : I' 191 = I 191) (g7 : I' 188 7 = I 188 7) (g8 : I' 188 8 = I 188 8) : hs_Rm I' J f n E s := ⟨h.1, hs_tt_c h.2.1 g0 g1, by rw [g7]; exact h.2.2.1, by rw [g8]; exact h.2.2.2.1, h.2.2.2.2⟩
/-- names as told last -/
def hs_Nt (I : Nat → Nat → Int32) (J : Nat → Nat → Int64) (kn : Nat) (nm : Nat → Nat) (pn : Nat) (pm : Nat → Nat) : Prop := hs_Jt (J 197) (I 199) (kn + pn) kn nm pn pm ∧ I 188 18 = nI (kn + pn)
theorem hs_Nt_c {kn pn : Nat} {nm pm : Nat → Nat} (h : hs_Nt I J kn nm pn pm) (g : I' 199 = I 199) (g18 : I' 188 18 = I 188 18) (gJ : J' 197 = J 197) : hs_Nt I' J' kn nm pn pm := by
  unfold hs_Nt at h ⊢
  rw [g, g18, gJ]
  exact h
theorem tT_p {f : Nat → Nat} {n E kn pn : Nat} {nm pm : Nat → Nat} {x : Int32} {s : rd} (hM : hs_M R) (hW : hs_Wm J) (h : hs_Rm I J f n E s) (hN : hs_Nt I J kn nm pn pm) (hw : hs_Jw kn nm pn pm) (hx : x = nI 20) : hn_F 3 hm_M_takeTold [.ref 188, .int 0, .int x, .int 0] (I, J, R) (fun r D' => (∃ z, r = some (.int z) ∧ ((p_kt f n pm pn s).1 = 0 → z = oI (o_k f n pm pn s))) ∧ (¬ (p_kt f n pm pn s).1 = 0 → r = some (.int 0)) ∧ hs_mp I J R f n E (p_kt f n pm pn s) D') := by
  have q := q_M_takeTold (fr := 20) (tb := pm) (tn := pn) (b := 0) (bu := 0) (V := jo nm kn pm pn (tq f n s.2).2.2.2) hM hW h hx (fun _ hz => q_M_nameAt0 (m := kn + pn) hM h hN.1 hw hN.2 hz) (tbz_20 hw)
  rw [pT_kt] at q
  exact q
theorem tT_k {f : Nat → Nat} {n E kn pn : Nat} {nm pm : Nat → Nat} {x bu : Int32} {s : rd} (hM : hs_M R) (hW : hs_Wm J) (h : hs_Rm I J f n E s) (hN : hs_Nt I J kn nm pn pm) (hw : hs_Jw kn nm pn pm) (hx : x = nI 0) : hn_F 3 hm_M_takeTold [.ref 188, .int 0, .int x, .int bu] (I, J, R) (fun r D' => (∃ z, r = some (.int z) ∧ ((pT f n nm kn bu s).1 = 0 → z = oI (o_k f n nm kn s))) ∧ (¬ (pT f n nm kn bu s).1 = 0 → r = some (.int 0)) ∧ hs_mp I J R f n E (pT f n nm kn bu s) D') :=
  q_M_takeTold (fr := 0) (tb := nm) (tn := kn) (b := 0) (bu := bu) (V := jo nm kn pm pn (tq f n s.2).2.2.2) hM hW h hx (fun _ hz => q_M_nameAt0 (m := kn + pn) hM h hN.1 hw hN.2 hz) (tbz_0 hw)
/-- a line's state behind its names -/
def qr (f : Nat → Nat) (n : Nat) (nm : Nat → Nat) (kn : Nat) (pm : Nat → Nat) (pn a : Nat) (s1 : rd) : rd := if a = 0 then s1 else if a = 2 then p_kt f n pm pn s1 else if a = 4 then p_o f n nm kn (oI (o_k f n nm kn s1)) 0 (p_kt f n nm kn s1) else p_kt f n nm kn (p_kt f n pm pn s1)
def hs_Lq2 (I : Nat → Nat → Int32) (J : Nat → Nat → Int64) (R : Nat → Nat → Option Nat) (f : Nat → Nat) (n E i a x1 x2 : Nat) (Q : rd) (D' : hnD) : Prop := ∃ I2, D' = (I2, J, R) ∧ hs_Rm I2 J f n E Q ∧ (∀ b, b ≠ 188 → b ≠ 201 → I2 b = I b) ∧ (∀ j, j ≠ 7 → j ≠ 8 → I2 188 j = I 188 j) ∧ (∀ j, j ≠ i → j ≠ i + 1 → j ≠ i + 2 → I2 201 j = I 201 j) ∧ (Q.1 = 0 → I2 201 i = nI a ∧ (¬ a = 0 → I2 201 (i + 1) = nI x1) ∧ (ln_1 a → I2 201 (i + 2) = nI x2))
theorem pT_s {f : Nat → Nat} {n tn : Nat} {tb : Nat → Nat} {bu : Int32} {s : rd} (h : ¬ s.1 = 0) : pT f n tb tn bu s = s := (if_neg (fun q => h q.1)).trans (if_neg (fun q => h q.1))
theorem p_kt_s {f : Nat → Nat} {n tn : Nat} {tb : Nat → Nat} {s : rd} (h : ¬ s.1 = 0) : p_kt f n tb tn s = s := (if_neg (fun q => h q.1)).trans (if_neg (fun q => h q.1))
theorem p_o_s {f : Nat → Nat} {n tn : Nat} {tb : Nat → Nat} {a b : Int32} {s : rd} (h : ¬ s.1 = 0) : p_o f n tb tn a b s = s := (if_neg (fun q => h q.1)).trans (if_neg (fun q => h q.1))
theorem q_M_readRest {f : Nat → Nat} {n E kn pn i a k : Nat} {nm pm : Nat → Nat} (hM : hs_M R) (hW : hs_Wm J) (h : hs_Rm I J f n E (0, k)) (hN : hs_Nt I J kn nm pn pm) (hw : hs_Jw kn nm pn pm) (hi : i ≤ 247) (hi1 : 125 ≤ i) (ha : a ≤ 4) : hn_F 4 hm_M_readRest [.ref 188, .int (nI i), .int (nI a)] (I, J, R) (fun r D' => r = none ∧ hs_Lq2 I J R f n E i a ((if a = 4 then o_k f n nm kn (0, k) else o_k f n pm pn (0, k)).getD 0) ((o_k f n nm kn (0, k + 1)).getD 0) (qr f n nm kn pm pn a (0, k)) D') := by
  refine hn_F_of _ hk_M_readRest rfl (Nat.le_of_ble_eq_true rfl) ?_
  obtain ⟨m1, m4, m5, m6, m9, m10, m11, m12, m14, m15, m16, m17, m20, m21, m22, m23, m25, m27, m28, m29, m30, m31, m32⟩ := id hM
  have ei1 : nI i + 1 = nI (i + 1) := (nI_succ i).symm
  have ei2 : nI i + 2 = nI (i + 2) := (nI_ad i 2).symm
  obtain ⟨I1, hI1⟩ : ∃ z, z = hn_u I 201 i (nI a) := ⟨_, rfl⟩
  have f1 : ∀ b, b ≠ 201 → I1 b = I b := fun b hb => by rw [hI1, hn_u_ne _ _ _ hb]
  have h1 : hs_Rm I1 J f n E (0, k) := hs_Rm_c h (f1 190 (by omega)) (f1 191 (by omega)) (by rw [f1 188 (by omega)]) (by rw [f1 188 (by omega)])
  have n1 : hs_Nt I1 J kn nm pn pm := hs_Nt_c hN (f1 199 (by omega)) (by rw [f1 188 (by omega)]) rfl
  have a1 : I1 201 = va_up (I 201) i (nI a) := by rw [hI1, hn_u_eq]
  by_cases a0 : a = 0
  · subst a0
    have eq : qr f n nm kn pm pn 0 (0, k) = (0, k) := if_pos rfl
    rw [eq]
    obtain ⟨I2, hI2⟩ : ∃ z, z = hn_u (hn_u I1 201 (i + 1) 0) 201 (i + 2) 0 := ⟨_, rfl⟩
    have f2 : ∀ b, b ≠ 201 → I2 b = I b := fun b hb => by rw [hI2, hn_u_ne _ _ _ hb, hn_u_ne _ _ _ hb, f1 b hb]
    have r2 : I2 201 = va_up (va_up (va_up (I 201) i (nI 0)) (i + 1) 0) (i + 2) 0 := by rw [hI2, hn_u_eq, hn_u_eq, a1]
    refine b_aload_n rfl rfl ?_
    refine b_getR rfl (by first | rfl | assumption) rfl (by assumption) ?_
    refine b_iload_n rfl rfl ?_
    refine b_iload_n rfl rfl ?_
    refine b_iastore rfl (by first | rfl | assumption) (nI_toInt (n := i) (by omega)) (by omega) ?_
    rw [← hI1]
    refine b_aload_n rfl rfl ?_
    refine b_getR rfl (by first | rfl | assumption) rfl (by assumption) ?_
    refine b_iload_n rfl rfl ?_
    refine b_iconst rfl ?_
    refine b_iadd rfl ?_
    rw [ei1]
    refine b_iload_n rfl rfl ?_
    refine b_if_ne rfl (fun c_15 => ?_) (fun c_15 => ?_)
    · exact absurd rfl c_15
    · refine b_iconst rfl ?_
      refine b_goto rfl ?_
      refine b_iastore rfl (by first | rfl | assumption) (nI_toInt (n := i + 1) (by omega)) (by omega) ?_
      refine b_aload_n rfl rfl ?_
      refine b_getR rfl (by first | rfl | assumption) rfl (by assumption) ?_
      refine b_iload_n rfl rfl ?_
      refine b_iconst rfl ?_
      refine b_iadd rfl ?_
      rw [ei2]
      refine b_iload_n rfl rfl ?_
      refine b_if_eq rfl (fun c_48 => ?_) (fun c_48 => ?_)
      · refine b_iconst rfl ?_
        refine b_goto rfl ?_
        refine b_iastore rfl (by first | rfl | assumption) (nI_toInt (n := i + 2) (by omega)) (by omega) ?_
        rw [← hI2]
        exact b_return_ rfl trivial (⟨rfl, I2, rfl, hs_Rm_c h (f2 190 (by omega)) (f2 191 (by omega)) (by rw [f2 188 (by omega)]) (by rw [f2 188 (by omega)]), fun b _ hb => f2 b hb, fun j _ _ => by rw [f2 188 (by omega)], fun j j0 j1 j2 => by rw [r2, va_up, if_neg j2, va_up, if_neg j1, va_up, if_neg j0], fun _ => ⟨by rw [r2, va_up, if_neg (by omega), va_up, if_neg (by omega), va_up, if_pos rfl], fun z => absurd rfl z, fun z => by rcases z with z | z | z <;> cases z⟩⟩)
      · exact absurd rfl c_48
  have na0 : ¬ nI a = 0 := fun z => a0 ((hi_nIe (k := 0) (by omega) (by omega)).mp z)
  by_cases a4 : a = 4
  · subst a4
    have eq : qr f n nm kn pm pn 4 (0, k) = p_o f n nm kn (oI (o_k f n nm kn (0, k))) 0 (p_kt f n nm kn (0, k)) := ((if_neg (by omega)).trans (if_neg (by omega))).trans (if_pos rfl)
    rw [eq, if_pos rfl]
    have qa := tT_k (bu := 0) hM hW h1 n1 hw rfl
    rw [pT_kt] at qa
    obtain ⟨u, hu⟩ : ∃ u, u = p_kt f n nm kn (0, k) := ⟨_, rfl⟩
    rw [← hu] at qa ⊢
    obtain ⟨oa, hoa⟩ : ∃ oa, oa = o_k f n nm kn (0, k) := ⟨_, rfl⟩
    rw [← hoa] at qa ⊢
    obtain ⟨ob, hob⟩ : ∃ ob, ob = o_k f n nm kn (0, k + 1) := ⟨_, rfl⟩
    rw [← hob]
    obtain ⟨Q, hQ⟩ : ∃ Q, Q = p_o f n nm kn (oI oa) 0 u := ⟨_, rfl⟩
    rw [← hQ]
    obtain ⟨P, hP⟩ : ∃ P : Option Value → hnD → Prop, P = (fun r D' => r = none ∧ hs_Lq2 I J R f n E i 4 (oa.getD 0) (ob.getD 0) Q D') := ⟨_, rfl⟩
    rw [← hP]
    have S39 : ∀ (x : Nat) (I2 : Nat → Nat → Int32), x < 8 → hs_mf I1 I2 → hs_Rm I2 J f n E u → (u.1 = 0 → u = (0, k + 1) ∧ oa = some x) → hn_B 4 hm_M_readRest P 39 [.ref 188, .int (nI i), .int (nI 4)] [.int (nI x), .int (nI (i + 1)), .ref 201] (I2, J, R) := by
      intro x I2 hx g2 k2 hux
      obtain ⟨I3, hI3⟩ : ∃ z, z = hn_u I2 201 (i + 1) (nI x) := ⟨_, rfl⟩
      have f3 : ∀ b, b ≠ 201 → I3 b = I2 b := fun b hb => by rw [hI3, hn_u_ne _ _ _ hb]
      have a3 : I3 201 = va_up (va_up (I 201) i (nI 4)) (i + 1) (nI x) := by rw [hI3, hn_u_eq, g2.1 201 (by omega), a1]
      have k3 : hs_Rm I3 J f n E u := hs_Rm_c k2 (f3 190 (by omega)) (f3 191 (by omega)) (by rw [f3 188 (by omega)]) (by rw [f3 188 (by omega)])
      have n3 : hs_Nt I3 J kn nm pn pm := hs_Nt_c n1 (by rw [f3 199 (by omega), g2.1 199 (by omega)]) (by rw [f3 188 (by omega), g2.2 18 (by omega) (by omega)]) rfl
      have r3 : I3 201 (i + 1) = nI x := by rw [a3, va_up, if_pos rfl]
      have qb := tT_k (bu := (1 : Int32) <<< (nI x &&& 31)) hM hW k3 n3 hw rfl
      have eQ : pT f n nm kn ((1 : Int32) <<< (nI x &&& 31)) u = Q := by
        by_cases hu1 : u.1 = 0
        · have z := pT_o (f := f) (n := n) (kn := kn) (a := x) (nm := nm) (bu := 0) (s := u) (by omega) hw.1
          rw [Int32.zero_or] at z
          rw [z, hQ, (hux hu1).2]; rfl
        · rw [pT_s hu1, hQ, p_o_s hu1]
      rw [eQ] at qb
      refine b_iastore rfl (by first | rfl | assumption) (nI_toInt (n := i + 1) (by omega)) (by omega) ?_
      rw [← hI3]
      refine b_aload_n rfl rfl ?_
      refine b_getR rfl (by first | rfl | assumption) rfl (by assumption) ?_
      refine b_iload_n rfl rfl ?_
      refine b_iconst rfl ?_
      refine b_iadd rfl ?_
      rw [ei2]
      refine b_iload_n rfl rfl ?_
      refine b_if_eq rfl (fun c_48 => ?_) (fun c_48 => ?_)
      · exact absurd c_48 (by decide)
      · refine b_iload_n rfl rfl ?_
        refine b_iconst rfl ?_
        refine b_icmp_ne rfl (fun c_53 => ?_) (fun c_53 => ?_)
        · refine b_aload_n rfl rfl ?_
          refine b_iconst rfl ?_
          refine b_iconst rfl ?_
          refine b_iload_n rfl rfl ?_
          refine b_iconst rfl ?_
          refine b_icmp_ne rfl (fun c_65 => ?_) (fun c_65 => ?_)
          · exact absurd (show nI 4 = 4 by decide) c_65
          · refine b_iconst rfl ?_
            refine b_aload_n rfl rfl ?_
            refine b_getR rfl (by first | rfl | assumption) rfl (by assumption) ?_
            refine b_iload_n rfl rfl ?_
            refine b_iconst rfl ?_
            refine b_iadd rfl ?_
            rw [ei1]
            refine b_iaload rfl (by first | rfl | assumption) (nI_toInt (n := i + 1) (by omega)) (by omega) ?_
            rw [r3]
            refine b_ishl rfl ?_
            refine b_goto rfl ?_
            refine b_callV rfl rfl hk_M_takeTold rfl rfl rfl (by first | rfl | assumption) rfl (Nat.le_of_ble_eq_true rfl) (qb) (Nat.le_of_ble_eq_true rfl) (fun r_82 D_82 q_82 => ?_)
            obtain ⟨⟨z2, rfl, hz2⟩, _, I4, rfl, g4, k4⟩ := q_82
            obtain ⟨I5, hI5⟩ : ∃ z, z = hn_u I4 201 (i + 2) z2 := ⟨_, rfl⟩
            have f5 : ∀ b, b ≠ 201 → I5 b = I4 b := (fun b hb => by rw [hI5, hn_u_ne _ _ _ hb])
            have a5 : I5 201 = va_up (va_up (va_up (I 201) i (nI 4)) (i + 1) (nI x)) (i + 2) z2 := (by rw [hI5, hn_u_eq, g4.1 201 (by omega), a3])
            refine b_iastore rfl (by first | rfl | assumption) (nI_toInt (n := i + 2) (by omega)) (by omega) ?_
            rw [← hI5]
            exact b_return_ rfl trivial ((by rw [hP]; exact ⟨rfl, I5, rfl, hs_Rm_c k4 (f5 190 (by omega)) (f5 191 (by omega)) (by rw [f5 188 (by omega)]) (by rw [f5 188 (by omega)]), fun b b1 b2 => by rw [f5 b b2, g4.1 b b1, f3 b b2, g2.1 b b1, f1 b b2], fun j j7 j8 => by rw [f5 188 (by omega), g4.2 j j7 j8, f3 188 (by omega), g2.2 j j7 j8, f1 188 (by omega)], fun j j0 j1 j2 => by rw [a5, va_up, if_neg j2, va_up, if_neg j1, va_up, if_neg j0], fun z => by (have hu1 : u.1 = 0 := (by have z1 := z; rw [hQ] at z1; exact (p_o_1 z1).1.1)); obtain ⟨u2, oa2⟩ := hux hu1; (have hz3 := hz2 z); have z1 := z; rw [hQ, u2] at z1; obtain ⟨y, hy, _⟩ := (p_o_1 z1).2.1; rw [u2, hy] at hz3; rw [oa2, hob.trans hy]; exact ⟨by rw [a5, va_up, if_neg (by omega), va_up, if_neg (by omega), va_up, if_pos rfl], fun _ => by rw [a5, va_up, if_neg (by omega), va_up, if_pos rfl]; rfl, fun _ => by rw [a5, va_up, if_pos rfl, hz3]; rfl⟩⟩))
        · exact absurd c_53 (by decide)
    by_cases hu1 : u.1 = 0
    · obtain ⟨z1, ⟨x, zx, xl⟩, z3⟩ := p_kt_1 (hu ▸ hu1)
      have oa2 : oa = some x := hoa.trans zx
      have hx8 := hw.1
      rw [oa2] at qa
      refine b_aload_n rfl rfl ?_
      refine b_getR rfl (by first | rfl | assumption) rfl (by assumption) ?_
      refine b_iload_n rfl rfl ?_
      refine b_iload_n rfl rfl ?_
      refine b_iastore rfl (by first | rfl | assumption) (nI_toInt (n := i) (by omega)) (by omega) ?_
      rw [← hI1]
      refine b_aload_n rfl rfl ?_
      refine b_getR rfl (by first | rfl | assumption) rfl (by assumption) ?_
      refine b_iload_n rfl rfl ?_
      refine b_iconst rfl ?_
      refine b_iadd rfl ?_
      rw [ei1]
      refine b_iload_n rfl rfl ?_
      refine b_if_ne rfl (fun c_15 => ?_) (fun c_15 => ?_)
      · refine b_aload_n rfl rfl ?_
        refine b_iconst rfl ?_
        refine b_iload_n rfl rfl ?_
        refine b_iconst rfl ?_
        refine b_icmp_ne rfl (fun c_26 => ?_) (fun c_26 => ?_)
        · exact absurd (show nI 4 = 4 by decide) c_26
        · refine b_iconst rfl ?_
          refine b_goto rfl ?_
          refine b_iconst rfl ?_
          refine b_callV rfl rfl hk_M_takeTold rfl rfl rfl (by first | rfl | assumption) rfl (Nat.le_of_ble_eq_true rfl) (qa) (Nat.le_of_ble_eq_true rfl) (fun r_36 D_36 q_36 => ?_)
          obtain ⟨⟨zb, rfl, hzb⟩, _, I2, rfl, g2, k2⟩ := q_36
          have hzb : zb = nI x := hzb hu1
          subst hzb
          exact S39 x I2 (by omega) g2 k2 (fun _ => ⟨hu.trans z3, oa2⟩)
      · exact absurd c_15 na0
    · refine b_aload_n rfl rfl ?_
      refine b_getR rfl (by first | rfl | assumption) rfl (by assumption) ?_
      refine b_iload_n rfl rfl ?_
      refine b_iload_n rfl rfl ?_
      refine b_iastore rfl (by first | rfl | assumption) (nI_toInt (n := i) (by omega)) (by omega) ?_
      rw [← hI1]
      refine b_aload_n rfl rfl ?_
      refine b_getR rfl (by first | rfl | assumption) rfl (by assumption) ?_
      refine b_iload_n rfl rfl ?_
      refine b_iconst rfl ?_
      refine b_iadd rfl ?_
      rw [ei1]
      refine b_iload_n rfl rfl ?_
      refine b_if_ne rfl (fun c_15 => ?_) (fun c_15 => ?_)
      · refine b_aload_n rfl rfl ?_
        refine b_iconst rfl ?_
        refine b_iload_n rfl rfl ?_
        refine b_iconst rfl ?_
        refine b_icmp_ne rfl (fun c_26 => ?_) (fun c_26 => ?_)
        · exact absurd (show nI 4 = 4 by decide) c_26
        · refine b_iconst rfl ?_
          refine b_goto rfl ?_
          refine b_iconst rfl ?_
          refine b_callV rfl rfl hk_M_takeTold rfl rfl rfl (by first | rfl | assumption) rfl (Nat.le_of_ble_eq_true rfl) (qa) (Nat.le_of_ble_eq_true rfl) (fun r_36 D_36 q_36 => ?_)
          obtain ⟨_, hr, I2, rfl, g2, k2⟩ := q_36
          obtain rfl := hr hu1
          exact S39 0 I2 (by omega) g2 k2 (fun z => absurd z hu1)
      · exact absurd c_15 na0
  have na4 : ¬ nI a = 4 := fun z => a4 ((hi_nIe (k := 4) (by omega) (by omega)).mp z)
  rw [if_neg a4]
  have qa := tT_p (x := 20) hM hW h1 n1 hw rfl
  obtain ⟨u, hu⟩ : ∃ u, u = p_kt f n pm pn (0, k) := ⟨_, rfl⟩
  rw [← hu] at qa
  obtain ⟨oa, hoa⟩ : ∃ oa, oa = o_k f n pm pn (0, k) := ⟨_, rfl⟩
  rw [← hoa] at qa ⊢
  by_cases a2 : a = 2
  · subst a2
    have eq : qr f n nm kn pm pn 2 (0, k) = u := ((if_neg (by omega)).trans (if_pos rfl)).trans hu.symm
    rw [eq]
    refine b_aload_n rfl rfl ?_
    refine b_getR rfl (by first | rfl | assumption) rfl (by assumption) ?_
    refine b_iload_n rfl rfl ?_
    refine b_iload_n rfl rfl ?_
    refine b_iastore rfl (by first | rfl | assumption) (nI_toInt (n := i) (by omega)) (by omega) ?_
    rw [← hI1]
    refine b_aload_n rfl rfl ?_
    refine b_getR rfl (by first | rfl | assumption) rfl (by assumption) ?_
    refine b_iload_n rfl rfl ?_
    refine b_iconst rfl ?_
    refine b_iadd rfl ?_
    rw [ei1]
    refine b_iload_n rfl rfl ?_
    refine b_if_ne rfl (fun c_15 => ?_) (fun c_15 => ?_)
    · refine b_aload_n rfl rfl ?_
      refine b_iconst rfl ?_
      refine b_iload_n rfl rfl ?_
      refine b_iconst rfl ?_
      refine b_icmp_ne rfl (fun c_26 => ?_) (fun c_26 => ?_)
      · refine b_bipush rfl ?_
        refine b_iconst rfl ?_
        refine b_callV rfl rfl hk_M_takeTold rfl rfl rfl (by first | rfl | assumption) rfl (Nat.le_of_ble_eq_true rfl) (qa) (Nat.le_of_ble_eq_true rfl) (fun r_36 D_36 q_36 => ?_)
        obtain ⟨⟨z1, rfl, hz1⟩, _, I2, rfl, g2, k2⟩ := q_36
        obtain ⟨I3, hI3⟩ : ∃ z, z = hn_u (hn_u I2 201 (i + 1) z1) 201 (i + 2) 0 := ⟨_, rfl⟩
        have f3 : ∀ b, b ≠ 201 → I3 b = I2 b := (fun b hb => by rw [hI3, hn_u_ne _ _ _ hb, hn_u_ne _ _ _ hb])
        have a3 : I3 201 = va_up (va_up (va_up (I 201) i (nI 2)) (i + 1) z1) (i + 2) 0 := (by rw [hI3, hn_u_eq, hn_u_eq, g2.1 201 (by omega), a1])
        refine b_iastore rfl (by first | rfl | assumption) (nI_toInt (n := i + 1) (by omega)) (by omega) ?_
        refine b_aload_n rfl rfl ?_
        refine b_getR rfl (by first | rfl | assumption) rfl (by assumption) ?_
        refine b_iload_n rfl rfl ?_
        refine b_iconst rfl ?_
        refine b_iadd rfl ?_
        rw [ei2]
        refine b_iload_n rfl rfl ?_
        refine b_if_eq rfl (fun c_48 => ?_) (fun c_48 => ?_)
        · exact absurd c_48 (by decide)
        · refine b_iload_n rfl rfl ?_
          refine b_iconst rfl ?_
          refine b_icmp_ne rfl (fun c_53 => ?_) (fun c_53 => ?_)
          · exact absurd (show nI 2 = 2 by decide) c_53
          · refine b_iconst rfl ?_
            refine b_goto rfl ?_
            refine b_iastore rfl (by first | rfl | assumption) (nI_toInt (n := i + 2) (by omega)) (by omega) ?_
            rw [← hI3]
            exact b_return_ rfl trivial (⟨rfl, I3, rfl, hs_Rm_c k2 (f3 190 (by omega)) (f3 191 (by omega)) (by rw [f3 188 (by omega)]) (by rw [f3 188 (by omega)]), fun b b1 b2 => by rw [f3 b b2, g2.1 b b1, f1 b b2], fun j j7 j8 => by rw [f3 188 (by omega), g2.2 j j7 j8, f1 188 (by omega)], fun j j0 j1 j2 => by rw [a3, va_up, if_neg j2, va_up, if_neg j1, va_up, if_neg j0], fun z => by (have hz3 := hz1 z); obtain ⟨_, ⟨y, hy, _⟩, _⟩ := p_kt_1 (hu ▸ z); have hy := hoa.trans hy; rw [hy] at hz3 ⊢; exact ⟨by rw [a3, va_up, if_neg (by omega), va_up, if_neg (by omega), va_up, if_pos rfl], fun _ => by rw [a3, va_up, if_neg (by omega), va_up, if_pos rfl, hz3]; rfl, (fun z => by rcases z with z | z | z <;> cases z)⟩⟩)
      · exact absurd c_26 na4
    · exact absurd c_15 na0
  have na2 : ¬ nI a = 2 := fun z => a2 ((hi_nIe (k := 2) (by omega) (by omega)).mp z)
  have eq : qr f n nm kn pm pn a (0, k) = p_kt f n nm kn u := by rw [hu]; exact ((if_neg a0).trans (if_neg a2)).trans (if_neg a4)
  rw [eq]
  obtain ⟨ob, hob⟩ : ∃ ob, ob = o_k f n nm kn (0, k + 1) := ⟨_, rfl⟩
  rw [← hob]
  refine b_aload_n rfl rfl ?_
  refine b_getR rfl (by first | rfl | assumption) rfl (by assumption) ?_
  refine b_iload_n rfl rfl ?_
  refine b_iload_n rfl rfl ?_
  refine b_iastore rfl (by first | rfl | assumption) (nI_toInt (n := i) (by omega)) (by omega) ?_
  rw [← hI1]
  refine b_aload_n rfl rfl ?_
  refine b_getR rfl (by first | rfl | assumption) rfl (by assumption) ?_
  refine b_iload_n rfl rfl ?_
  refine b_iconst rfl ?_
  refine b_iadd rfl ?_
  rw [ei1]
  refine b_iload_n rfl rfl ?_
  refine b_if_ne rfl (fun c_15 => ?_) (fun c_15 => ?_)
  · refine b_aload_n rfl rfl ?_
    refine b_iconst rfl ?_
    refine b_iload_n rfl rfl ?_
    refine b_iconst rfl ?_
    refine b_icmp_ne rfl (fun c_26 => ?_) (fun c_26 => ?_)
    · refine b_bipush rfl ?_
      refine b_iconst rfl ?_
      refine b_callV rfl rfl hk_M_takeTold rfl rfl rfl (by first | rfl | assumption) rfl (Nat.le_of_ble_eq_true rfl) (qa) (Nat.le_of_ble_eq_true rfl) (fun r_36 D_36 q_36 => ?_)
      obtain ⟨⟨z1, rfl, hz1⟩, _, I2, rfl, g2, k2⟩ := q_36
      obtain ⟨I3, hI3⟩ : ∃ z, z = hn_u I2 201 (i + 1) z1 := ⟨_, rfl⟩
      have f3 : ∀ b, b ≠ 201 → I3 b = I2 b := (fun b hb => by rw [hI3, hn_u_ne _ _ _ hb])
      have a3 : I3 201 = va_up (va_up (I 201) i (nI a)) (i + 1) z1 := (by rw [hI3, hn_u_eq, g2.1 201 (by omega), a1])
      have k3 : hs_Rm I3 J f n E u := hs_Rm_c k2 (f3 190 (by omega)) (f3 191 (by omega)) (by rw [f3 188 (by omega)]) (by rw [f3 188 (by omega)])
      have n3 : hs_Nt I3 J kn nm pn pm := hs_Nt_c n1 (by rw [f3 199 (by omega), g2.1 199 (by omega)]) (by rw [f3 188 (by omega), g2.2 18 (by omega) (by omega)]) rfl
      have qb := tT_k (x := 0) (bu := 0) hM hW k3 n3 hw rfl
      rw [pT_kt] at qb
      refine b_iastore rfl (by first | rfl | assumption) (nI_toInt (n := i + 1) (by omega)) (by omega) ?_
      rw [← hI3]
      refine b_aload_n rfl rfl ?_
      refine b_getR rfl (by first | rfl | assumption) rfl (by assumption) ?_
      refine b_iload_n rfl rfl ?_
      refine b_iconst rfl ?_
      refine b_iadd rfl ?_
      rw [ei2]
      refine b_iload_n rfl rfl ?_
      refine b_if_eq rfl (fun c_48 => ?_) (fun c_48 => ?_)
      · exact absurd c_48 na0
      · refine b_iload_n rfl rfl ?_
        refine b_iconst rfl ?_
        refine b_icmp_ne rfl (fun c_53 => ?_) (fun c_53 => ?_)
        · refine b_aload_n rfl rfl ?_
          refine b_iconst rfl ?_
          refine b_iconst rfl ?_
          refine b_iload_n rfl rfl ?_
          refine b_iconst rfl ?_
          refine b_icmp_ne rfl (fun c_65 => ?_) (fun c_65 => ?_)
          · refine b_iconst rfl ?_
            refine b_callV rfl rfl hk_M_takeTold rfl rfl rfl (by first | rfl | assumption) rfl (Nat.le_of_ble_eq_true rfl) (qb) (Nat.le_of_ble_eq_true rfl) (fun r_82 D_82 q_82 => ?_)
            obtain ⟨⟨z2, rfl, hz2⟩, _, I4, rfl, g4, k4⟩ := q_82
            obtain ⟨I5, hI5⟩ : ∃ z, z = hn_u I4 201 (i + 2) z2 := ⟨_, rfl⟩
            have f5 : ∀ b, b ≠ 201 → I5 b = I4 b := (fun b hb => by rw [hI5, hn_u_ne _ _ _ hb])
            have a5 : I5 201 = va_up (va_up (va_up (I 201) i (nI a)) (i + 1) z1) (i + 2) z2 := (by rw [hI5, hn_u_eq, g4.1 201 (by omega), a3])
            refine b_iastore rfl (by first | rfl | assumption) (nI_toInt (n := i + 2) (by omega)) (by omega) ?_
            rw [← hI5]
            exact b_return_ rfl trivial (⟨rfl, I5, rfl, hs_Rm_c k4 (f5 190 (by omega)) (f5 191 (by omega)) (by rw [f5 188 (by omega)]) (by rw [f5 188 (by omega)]), fun b b1 b2 => by rw [f5 b b2, g4.1 b b1, f3 b b2, g2.1 b b1, f1 b b2], fun j j7 j8 => by rw [f5 188 (by omega), g4.2 j j7 j8, f3 188 (by omega), g2.2 j j7 j8, f1 188 (by omega)], fun j j0 j1 j2 => by rw [a5, va_up, if_neg j2, va_up, if_neg j1, va_up, if_neg j0], fun z => by (have hz4 := hz2 z); obtain ⟨zu, ⟨y, hy, _⟩, _⟩ := p_kt_1 z; obtain ⟨_, ⟨x, hx, _⟩, ux⟩ := p_kt_1 (hu ▸ zu.1); have hx := hoa.trans hx; have u2 := hu.trans ux; (have hz3 := hz1 zu.1); rw [hx] at hz3 ⊢; rw [u2] at hy hz4; rw [hy] at hz4; rw [hob.trans hy]; exact ⟨by rw [a5, va_up, if_neg (by omega), va_up, if_neg (by omega), va_up, if_pos rfl], fun _ => by rw [a5, va_up, if_neg (by omega), va_up, if_pos rfl, hz3]; rfl, fun _ => by rw [a5, va_up, if_pos rfl, hz4]; rfl⟩⟩)
          · exact absurd c_65 na4
        · exact absurd c_53 na2
    · exact absurd c_26 na4
  · exact absurd c_15 na0
end HNmrests
