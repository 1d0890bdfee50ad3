section HNmpairs
variable {I I' : Nat → Nat → Int32} {J J' : Nat → Nat → Int64} {R R' : Nat → Nat → Option Nat}
/-! a line of the reference: what may change -/
def hs_mn (I : Nat → Nat → Int32) (J : Nat → Nat → Int64) (I' : Nat → Nat → Int32) (J' : Nat → Nat → Int64) : Prop := (∀ b, b ≠ 188 → b ≠ 194 → b ≠ 195 → b ≠ 196 → b ≠ 200 → I' b = I b) ∧ (∀ i, i ≠ 7 → i ≠ 8 → i ≠ 13 → i ≠ 19 → I' 188 i = I 188 i) ∧ (∀ j, j < 60 → I' 194 j = I 194 j) ∧ (∀ j, j < 1100 → I' 195 j = I 195 j ∧ I' 196 j = I 196 j) ∧ ∀ b, b ≠ 198 → J' b = J b
theorem hs_mn_r : hs_mn I J I J := ⟨fun _ _ _ _ _ _ => rfl, fun _ _ _ _ _ => rfl, fun _ _ => rfl, fun _ _ => ⟨rfl, rfl⟩, fun _ _ => rfl⟩
theorem hs_mn_t {I2 : Nat → Nat → Int32} {J2 : Nat → Nat → Int64} (h : hs_mn I J I' J') (g : hs_mn I' J' I2 J2) : hs_mn I J I2 J2 := ⟨fun b h1 h2 h3 h4 h5 => (g.1 b h1 h2 h3 h4 h5).trans (h.1 b h1 h2 h3 h4 h5), fun i h1 h2 h3 h4 => (g.2.1 i h1 h2 h3 h4).trans (h.2.1 i h1 h2 h3 h4), fun j hj => (g.2.2.1 j hj).trans (h.2.2.1 j hj), fun j hj => ⟨(g.2.2.2.1 j hj).1.trans (h.2.2.2.1 j hj).1, (g.2.2.2.1 j hj).2.trans (h.2.2.2.1 j hj).2⟩, fun b hb => (g.2.2.2.2 b hb).trans (h.2.2.2.2 b hb)⟩
theorem hs_mn_f (g : hs_mf I I') : hs_mn I J I' J := ⟨fun b h1 _ _ _ _ => g.1 b h1, fun i h7 h8 _ _ => g.2 i h7 h8, fun j _ => by rw [g.1 194 (by omega)], fun j _ => ⟨by rw [g.1 195 (by omega)], by rw [g.1 196 (by omega)]⟩, fun _ _ => rfl⟩
theorem hs_mn_g (g : hs_mg I I') : hs_mn I J I' J := ⟨fun b h1 _ h3 h4 _ => g.1 b h1 h3 h4, fun i h7 h8 h13 _ => g.2.1 i h7 h8 h13, fun j _ => by rw [g.1 194 (by omega) (by omega) (by omega)], g.2.2, fun _ _ => rfl⟩
theorem hs_tt_J {f : Nat → Nat} {n E : Nat} (h : hs_tt I J f n E) (g0 : I' 190 = I 190) (g1 : I' 191 = I 191) (g2 : J' 192 = J 192) : hs_tt I' J' f n E := by
  unfold hs_tt hs_ct hs_c1 at h ⊢
  rw [g0, g1, g2]
  exact h
theorem jo_lt {kn pn v : Nat} {nm pm : Nat → Nat} (h8 : kn ≤ 8) (h4 : pn ≤ 4) : jo nm kn pm pn v < 0 ↔ ¬ (nfd nm v kn ≠ none ∨ nfd pm v pn ≠ none) := by
  have pos : ∀ k, k < 100 → ¬ nI k < 0 := fun k hk z => by
    have := (nI_lt_c (c := k) (k := 0) (by omega) (by omega)).mp z
    omega
  unfold jo
  rcases nfd_or nm v kn with e | ⟨i, e⟩
  · rw [e]
    rcases nfd_or pm v pn with e2 | ⟨p, e2⟩
    · rw [e2]
      exact ⟨fun _ z => z.elim (fun z => z rfl) (fun z => z rfl), fun _ => by show (-1 : Int32) < 0; decide⟩
    · rw [e2]
      have := (nfd_lt e2).1
      exact ⟨fun z => absurd z (pos (20 + p) (by omega)), fun z => absurd (Or.inr (fun q => by cases q)) z⟩
  · rw [e]
    have := (nfd_lt e).1
    exact ⟨fun z => absurd z (pos i (by omega)), fun z => absurd (Or.inl (fun q => by cases q)) z⟩
def hs_Nz (I : Nat → Nat → Int32) (J : Nat → Nat → Int64) (R : Nat → Nat → Option Nat) (f : Nat → Nat) (n E m mc fr c : Nat) (k : Nat) (Z : rd) (D' : hnD) : Prop := ∃ I2 J2, D' = (I2, J2, R) ∧ hs_mn I J I2 J2 ∧ hs_Rm I2 J2 f n E Z ∧ (Z.1 = 0 → J2 = hn_u J 198 m (nJ (cv (tq f n (k + 1)).2.2.2)) ∧ I2 200 = va_up (I 200) m (nI (fr + c)) ∧ I2 188 19 = nI (m + 1) ∧ I2 194 = va_up (I 194) (60 + mc) (nI (c + 1)) ∧ I2 195 = I 195 ∧ I2 196 = I 196 ∧ I2 188 13 = I 188 13)
theorem q_M_readName {f : Nat → Nat} {n E kn pn m mc mo fr c : Nat} {nm pm : Nat → Nat} {x y z : Int32} {s : rd} (hM : hs_M R) (hW : hs_Wm J) (h : hs_Rm I J f n E s) (h0 : s.1 = 0) (hk0 : ¬ (tq f n s.2).1 = 0) (hJ : hs_Jt (J 198) (I 200) m kn nm pn pm) (hw : hs_Jw kn nm pn pm) (hm : I 188 19 = nI m) (hx : x = nI mc) (hy : y = nI mo) (hz : z = nI fr) (hmc : mc ≤ 3) (hc : I 194 (60 + mc) = nI c) (hcm : c ≤ mo) (hmo : mo ≤ 8) (hfr : fr ≤ 20) (hm12 : c < mo → m < 12) : hn_F 3 hm_M_readName [.ref 188, .int x, .int y, .int z] (I, J, R) (fun r D' => r = none ∧ hs_Nz I J R f n E m mc fr c s.2 (p_nn f n nm kn pm pn (p_u f n (mo ≤ c) 5 s)) D') := by
  subst hx hy hz
  refine hn_F_of _ hk_M_readName rfl (Nat.le_of_ble_eq_true rfl) ?_
  obtain ⟨m1, m4, m5, m6, m9, m10, m11, m12, m14, m15, m16, m17, m20, m21, m22, m23, m25, m27, m28, m29, m30, m31, m32⟩ := id hM
  obtain ⟨hn, ht, h7, h8, hk, hb⟩ := id h
  have hE := ht.1
  have e60 : (60 : Int32) + nI mc = nI (60 + mc) := (nI_ad 60 mc).symm
  obtain ⟨Z, hZ⟩ : ∃ Z, Z = p_nn f n nm kn pm pn (p_u f n (mo ≤ c) 5 s) := ⟨_, rfl⟩
  rw [← hZ]
  by_cases hful : mo ≤ c
  · have eZ : Z = p_f f n 5 s := by
      rw [hZ, show p_u f n (mo ≤ c) 5 s = fl f n 5 s from if_pos hful, show p_f f n 5 s = fl f n 5 s from if_pos h0]
      have hne : ¬ (fl f n 5 s).1 = 0 := fl_ne (by omega)
      exact (if_neg (fun q => hne q.1)).trans (if_neg (fun q => hne q.1))
    have hzz : ¬ Z.1 = 0 := by rw [eZ, show p_f f n 5 s = fl f n 5 s from if_pos h0]; exact fl_ne (by omega)
    have ec : c = mo := by omega
    refine b_aload_n rfl rfl ?_
    refine b_getR rfl (by first | rfl | assumption) rfl (by assumption) ?_
    refine b_bipush rfl ?_
    refine b_iload_n rfl rfl ?_
    refine b_iadd rfl ?_
    rw [e60]
    refine b_iaload rfl (by first | rfl | assumption) (nI_toInt (n := 60 + mc) (by omega)) (by omega) ?_
    rw [hc]
    refine b_istore rfl (Nat.le_of_ble_eq_true rfl) ?_
    refine b_iload rfl rfl ?_
    refine b_iload_n rfl rfl ?_
    refine b_icmp_ne rfl (fun c_14 => ?_) (fun c_14 => ?_)
    · exact absurd (by rw [ec]) c_14
    · refine b_aload_n rfl rfl ?_
      refine b_iconst rfl ?_
      refine b_callV rfl rfl hk_M_wrong rfl rfl rfl (by first | rfl | assumption) rfl (Nat.le_of_ble_eq_true rfl) (q_M_wrong (c := 5) hM h (by omega)) (Nat.le_of_ble_eq_true rfl) (fun r_19 D_19 q_19 => ?_)
      obtain ⟨rfl, I2, rfl, g2, k2⟩ := q_19
      rw [← eZ] at k2
      exact b_return_ rfl trivial (⟨rfl, I2, J, rfl, hs_mn_f g2, k2, fun q => absurd q hzz⟩)
  have hcl : c < mo := by omega
  have ne : ¬ nI c = nI mo := fun q => by have := (hi_nIe (by omega) (by omega)).mp q; omega
  have eu : p_u f n (mo ≤ c) 5 s = (0, s.2 + 1) := if_neg hful
  rw [eu] at hZ
  obtain ⟨I1, e1, g1, k1⟩ := mp_on (R := R) h h0 hk0
  have e1 : hn_u I 188 7 (nI (s.2 + 1)) = I1 := congrArg Prod.fst e1
  have qn := q_M_isName (R := R) hM hW k1
  by_cases hA : nAt f n (0, s.2 + 1)
  · have h1 : (tq f n (s.2 + 1)).1 = 1 := hA.2.1
    have qa := q_M_nameAt1 (nm := nm) (kn := kn) (pm := pm) (pn := pn) (m := m) hM k1 (by rw [g1.1 200 (by omega)]; exact hJ) hw (by rw [g1.2 19 (by omega) (by omega)]; exact hm) h1
    obtain ⟨V, hV⟩ : ∃ V, V = jo nm kn pm pn (tq f n (s.2 + 1)).2.2.2 := ⟨_, rfl⟩
    have hlt := jo_lt (v := (tq f n (s.2 + 1)).2.2.2) (nm := nm) (pm := pm) hw.1 hw.2.1
    rw [show (tq f n (0, s.2 + 1).2).2.2.2 = (tq f n (s.2 + 1)).2.2.2 from rfl, ← hV] at qa
    rw [← hV] at hlt
    have eA : Z = p_u f n (nfd nm (tq f n (s.2 + 1)).2.2.2 kn ≠ none ∨ nfd pm (tq f n (s.2 + 1)).2.2.2 pn ≠ none) 3 (0, s.2 + 1) := by rw [hZ]; exact if_pos hA
    by_cases hV0 : V < 0
    · have eZ : Z = (0, s.2 + 2) := by rw [eA]; exact if_neg (hlt.mp hV0)
      have ev := (tt_at k1.2.1 (k := s.2 + 1) k1.2.2.2.2.1).2.2.1 h1
      have hlE := tt_lt k1.2.1 (k := s.2 + 1) k1.2.2.2.2.1 (by rw [h1]; omega)
      have i7 : I1 188 7 = nI (s.2 + 1) := k1.2.2.1
      have i8 : I1 188 8 = 0 := k1.2.2.2.1
      have i19 : I1 188 19 = nI m := by rw [g1.2 19 (by omega) (by omega)]; exact hm
      have hm12 := hm12 hcl
      obtain ⟨J2, hJ2⟩ : ∃ z, z = hn_u J 198 m (nJ (cv (tq f n (s.2 + 1)).2.2.2)) := ⟨_, rfl⟩
      obtain ⟨I3, hI3⟩ : ∃ z, z = hn_u (hn_u I1 200 m (nI (fr + c))) 188 19 (nI (m + 1)) := ⟨_, rfl⟩
      have a37 : I3 188 7 = nI (s.2 + 1) := by rw [hI3, hn_u_eq, va_up, if_neg (by omega), hn_u_ne _ _ _ (by omega)]; exact i7
      have a34 : I3 194 (60 + mc) = nI c := by rw [hI3, hn_u_ne _ _ _ (by omega), hn_u_ne _ _ _ (by omega), g1.1 194 (by omega)]; exact hc
      obtain ⟨I4, hI4⟩ : ∃ z, z = hn_u (hn_u I3 188 7 (nI (s.2 + 2))) 194 (60 + mc) (nI (c + 1)) := ⟨_, rfl⟩
      have b0 : ∀ b, b ≠ 188 → b ≠ 194 → b ≠ 200 → I4 b = I b := fun b h1 h2 h3 => by rw [hI4, hn_u_ne _ _ _ h2, hn_u_ne _ _ _ h1, hI3, hn_u_ne _ _ _ h1, hn_u_ne _ _ _ h3, g1.1 b h1]
      have b194 : I4 194 = va_up (I 194) (60 + mc) (nI (c + 1)) := by rw [hI4, hn_u_eq, hn_u_ne _ _ _ (by omega), hI3, hn_u_ne _ _ _ (by omega), hn_u_ne _ _ _ (by omega), g1.1 194 (by omega)]
      have b200 : I4 200 = va_up (I 200) m (nI (fr + c)) := by rw [hI4, hn_u_ne _ _ _ (by omega), hn_u_ne _ _ _ (by omega), hI3, hn_u_ne _ _ _ (by omega), hn_u_eq, g1.1 200 (by omega)]
      have b188 : ∀ j, j ≠ 7 → j ≠ 19 → I4 188 j = I1 188 j := fun j j7 j19 => by rw [hI4, hn_u_ne _ _ _ (by omega), hn_u_eq, va_up, if_neg j7, hI3, hn_u_eq, va_up, if_neg j19, hn_u_ne _ _ _ (by omega)]
      have b7 : I4 188 7 = nI (s.2 + 2) := by rw [hI4, hn_u_ne _ _ _ (by omega), hn_u_eq, va_up, if_pos rfl]
      have b19 : I4 188 19 = nI (m + 1) := by rw [hI4, hn_u_ne _ _ _ (by omega), hn_u_eq, va_up, if_neg (by omega), hI3, hn_u_eq, va_up, if_pos rfl]
      have post : hs_Nz I J R f n E m mc fr c s.2 Z (I4, J2, R) := ⟨I4, J2, rfl, ⟨fun b h1 h2 _ _ h5 => b0 b h1 h2 h5, fun i i7 i8 _ i19 => by rw [b188 i i7 i19]; exact g1.2 i i7 i8, fun j hj => by rw [b194, va_up, if_neg (by omega)], fun j _ => ⟨by rw [b0 195 (by omega) (by omega) (by omega)], by rw [b0 196 (by omega) (by omega) (by omega)]⟩, fun b hb => by rw [hJ2, hn_u_ne _ _ _ hb]⟩, by rw [eZ]; exact ⟨hn, hs_tt_J ht (b0 190 (by omega) (by omega) (by omega)) (b0 191 (by omega) (by omega) (by omega)) (by rw [hJ2, hn_u_ne _ _ _ (by omega)]), b7, by rw [b188 8 (by omega) (by omega)]; exact i8, hlE, by show 0 < 20000; omega⟩, fun _ => ⟨hJ2, b200, b19, b194, b0 195 (by omega) (by omega) (by omega), b0 196 (by omega) (by omega) (by omega), by rw [b188 13 (by omega) (by omega)]; exact g1.2 13 (by omega) (by omega)⟩⟩
      refine b_aload_n rfl rfl ?_
      refine b_getR rfl (by first | rfl | assumption) rfl (by assumption) ?_
      refine b_bipush rfl ?_
      refine b_iload_n rfl rfl ?_
      refine b_iadd rfl ?_
      rw [e60]
      refine b_iaload rfl (by first | rfl | assumption) (nI_toInt (n := 60 + mc) (by omega)) (by omega) ?_
      rw [hc]
      refine b_istore rfl (Nat.le_of_ble_eq_true rfl) ?_
      refine b_iload rfl rfl ?_
      refine b_iload_n rfl rfl ?_
      refine b_icmp_ne rfl (fun c_14 => ?_) (fun c_14 => ?_)
      · refine b_aload_n rfl rfl ?_
        refine b_dup rfl rfl ?_
        refine b_getI rfl (by first | rfl | assumption) rfl ?_
        refine b_iconst rfl ?_
        rw [h7]
        refine b_iadd rfl ?_
        rw [← nI_succ]
        refine b_putI rfl (by first | rfl | assumption) rfl rfl ⟨rfl, rfl⟩ ?_
        rw [e1]
        refine b_aload_n rfl rfl ?_
        refine b_callV rfl rfl hk_M_isName rfl rfl rfl (by first | rfl | assumption) rfl (Nat.le_of_ble_eq_true rfl) (qn) (Nat.le_of_ble_eq_true rfl) (fun r_34 D_34 q_34 => ?_)
        obtain ⟨⟨b, rfl, hb⟩, rfl⟩ := q_34
        refine b_if_ne rfl (fun c_37 => ?_) (fun c_37 => ?_)
        · refine b_aload_n rfl rfl ?_
          refine b_iconst rfl ?_
          refine b_callV rfl rfl hk_M_nameAt rfl rfl rfl (by first | rfl | assumption) rfl (Nat.le_of_ble_eq_true rfl) (qa) (Nat.le_of_ble_eq_true rfl) (fun r_50 D_50 q_50 => ?_)
          obtain ⟨rfl, rfl⟩ := q_50
          refine b_if_lt rfl (fun c_53 => ?_) (fun c_53 => ?_)
          · refine b_aload_n rfl rfl ?_
            refine b_getI rfl (by first | rfl | assumption) rfl ?_
            rw [i8]
            refine b_if_ne rfl (fun c_65 => ?_) (fun c_65 => ?_)
            · exact absurd rfl c_65
            · refine b_aload_n rfl rfl ?_
              refine b_getR rfl (by first | rfl | assumption) rfl (by assumption) ?_
              refine b_aload_n rfl rfl ?_
              refine b_getI rfl (by first | rfl | assumption) rfl ?_
              rw [i19]
              refine b_aload_n rfl rfl ?_
              refine b_getR rfl (by first | rfl | assumption) rfl (by assumption) ?_
              refine b_aload_n rfl rfl ?_
              refine b_getI rfl (by first | rfl | assumption) rfl ?_
              rw [i7]
              refine b_laload rfl (by first | rfl | assumption) (by decide) (nI_toInt (n := s.2 + 1) (by omega)) (by omega) ?_
              rw [ev]
              refine b_lastore rfl (by first | rfl | assumption) (by decide) (nI_toInt (n := m) (by omega)) (by omega) ?_
              rw [← hJ2]
              refine b_aload_n rfl rfl ?_
              refine b_getR rfl (by first | rfl | assumption) rfl (by assumption) ?_
              refine b_aload_n rfl rfl ?_
              refine b_getI rfl (by first | rfl | assumption) rfl ?_
              rw [i19]
              refine b_iload_n rfl rfl ?_
              refine b_iload rfl rfl ?_
              refine b_iadd rfl ?_
              rw [show nI fr + nI c = nI (fr + c) from (nI_ad fr c).symm]
              refine b_iastore rfl (by first | rfl | assumption) (nI_toInt (n := m) (by omega)) (by omega) ?_
              refine b_aload_n rfl rfl ?_
              refine b_dup rfl rfl ?_
              refine b_getI rfl (by first | rfl | assumption) rfl ?_
              have a19 : hn_u I1 200 m (nI (fr + c)) 188 19 = nI m := (by rw [hn_u_ne _ _ _ (by omega)]; exact i19)
              rw [a19]
              refine b_iconst rfl ?_
              refine b_iadd rfl ?_
              rw [← nI_succ]
              refine b_putI rfl (by first | rfl | assumption) rfl rfl ⟨rfl, rfl⟩ ?_
              rw [← hI3]
              refine b_aload_n rfl rfl ?_
              refine b_dup rfl rfl ?_
              refine b_getI rfl (by first | rfl | assumption) rfl ?_
              rw [a37]
              refine b_iconst rfl ?_
              refine b_iadd rfl ?_
              rw [← nI_succ]
              refine b_putI rfl (by first | rfl | assumption) rfl rfl ⟨rfl, rfl⟩ ?_
              refine b_aload_n rfl rfl ?_
              refine b_getR rfl (by first | rfl | assumption) rfl (by assumption) ?_
              refine b_bipush rfl ?_
              refine b_iload_n rfl rfl ?_
              refine b_iadd rfl ?_
              rw [e60]
              refine b_dup2_11 rfl rfl rfl ?_
              refine b_iaload rfl (by first | rfl | assumption) (nI_toInt (n := 60 + mc) (by omega)) (by omega) ?_
              have a35 : hn_u I3 188 7 (nI (s.2 + 1 + 1)) 194 (60 + mc) = nI c := (by rw [hn_u_ne _ _ _ (by omega)]; exact a34)
              rw [a35]
              refine b_iconst rfl ?_
              refine b_iadd rfl ?_
              rw [← nI_succ]
              refine b_iastore rfl (by first | rfl | assumption) (nI_toInt (n := 60 + mc) (by omega)) (by omega) ?_
              rw [show s.2 + 1 + 1 = s.2 + 2 from rfl, ← hI4]
              exact b_return_ rfl trivial (⟨rfl, post⟩)
          · exact absurd hV0 c_53
        · rcases hb with ⟨_, hb⟩ | ⟨hb, _⟩ <;> first | exact absurd hA hb | (rw [hb] at c_37; exact absurd c_37 (by decide))
      · exact absurd c_14 ne
    · have eZ : Z = p_f f n 3 (0, s.2 + 1) := by rw [eA]; exact (if_pos (Classical.not_not.mp (fun q => hV0 (hlt.mpr q)))).trans (if_pos rfl).symm
      have hzz : ¬ Z.1 = 0 := by rw [eZ, show p_f f n 3 (0, s.2 + 1) = fl f n 3 (0, s.2 + 1) from if_pos rfl]; exact fl_ne (by omega)
      refine b_aload_n rfl rfl ?_
      refine b_getR rfl (by first | rfl | assumption) rfl (by assumption) ?_
      refine b_bipush rfl ?_
      refine b_iload_n rfl rfl ?_
      refine b_iadd rfl ?_
      rw [e60]
      refine b_iaload rfl (by first | rfl | assumption) (nI_toInt (n := 60 + mc) (by omega)) (by omega) ?_
      rw [hc]
      refine b_istore rfl (Nat.le_of_ble_eq_true rfl) ?_
      refine b_iload rfl rfl ?_
      refine b_iload_n rfl rfl ?_
      refine b_icmp_ne rfl (fun c_14 => ?_) (fun c_14 => ?_)
      · refine b_aload_n rfl rfl ?_
        refine b_dup rfl rfl ?_
        refine b_getI rfl (by first | rfl | assumption) rfl ?_
        refine b_iconst rfl ?_
        rw [h7]
        refine b_iadd rfl ?_
        rw [← nI_succ]
        refine b_putI rfl (by first | rfl | assumption) rfl rfl ⟨rfl, rfl⟩ ?_
        rw [e1]
        refine b_aload_n rfl rfl ?_
        refine b_callV rfl rfl hk_M_isName rfl rfl rfl (by first | rfl | assumption) rfl (Nat.le_of_ble_eq_true rfl) (qn) (Nat.le_of_ble_eq_true rfl) (fun r_34 D_34 q_34 => ?_)
        obtain ⟨⟨b, rfl, hb⟩, rfl⟩ := q_34
        refine b_if_ne rfl (fun c_37 => ?_) (fun c_37 => ?_)
        · refine b_aload_n rfl rfl ?_
          refine b_iconst rfl ?_
          refine b_callV rfl rfl hk_M_nameAt rfl rfl rfl (by first | rfl | assumption) rfl (Nat.le_of_ble_eq_true rfl) (qa) (Nat.le_of_ble_eq_true rfl) (fun r_50 D_50 q_50 => ?_)
          obtain ⟨rfl, rfl⟩ := q_50
          refine b_if_lt rfl (fun c_53 => ?_) (fun c_53 => ?_)
          · exact absurd c_53 hV0
          · refine b_aload_n rfl rfl ?_
            refine b_iconst rfl ?_
            refine b_callV rfl rfl hk_M_wrong rfl rfl rfl (by first | rfl | assumption) rfl (Nat.le_of_ble_eq_true rfl) (q_M_wrong (c := 3) hM k1 (by omega)) (Nat.le_of_ble_eq_true rfl) (fun r_58 D_58 q_58 => ?_)
            obtain ⟨rfl, I2, rfl, g2, k2⟩ := q_58
            rw [← eZ] at k2
            refine b_aload_n rfl rfl ?_
            refine b_getI rfl (by first | rfl | assumption) rfl ?_
            rw [k2.2.2.2.1]
            refine b_if_ne rfl (fun c_65 => ?_) (fun c_65 => ?_)
            · exact b_return_ rfl trivial (⟨rfl, I2, J, rfl, hs_mn_f (hs_mf_t g1 g2), k2, fun q => absurd q hzz⟩)
            · exact absurd ((hi_nIe (k := 0) (by have := k2.2.2.2.2.2; omega) (by omega)).mp c_65) hzz
        · rcases hb with ⟨_, hb⟩ | ⟨hb, _⟩ <;> first | exact absurd hA hb | (rw [hb] at c_37; exact absurd c_37 (by decide))
      · exact absurd c_14 ne
  · have eZ : Z = p_f f n 1 (0, s.2 + 1) := by rw [hZ, show p_nn f n nm kn pm pn (0, s.2 + 1) = p_a f n (0, s.2 + 1) from if_neg hA, p_a_f hA rfl]
    have hzz : ¬ Z.1 = 0 := by rw [eZ, show p_f f n 1 (0, s.2 + 1) = fl f n 1 (0, s.2 + 1) from if_pos rfl]; exact fl_ne (by omega)
    refine b_aload_n rfl rfl ?_
    refine b_getR rfl (by first | rfl | assumption) rfl (by assumption) ?_
    refine b_bipush rfl ?_
    refine b_iload_n rfl rfl ?_
    refine b_iadd rfl ?_
    rw [e60]
    refine b_iaload rfl (by first | rfl | assumption) (nI_toInt (n := 60 + mc) (by omega)) (by omega) ?_
    rw [hc]
    refine b_istore rfl (Nat.le_of_ble_eq_true rfl) ?_
    refine b_iload rfl rfl ?_
    refine b_iload_n rfl rfl ?_
    refine b_icmp_ne rfl (fun c_14 => ?_) (fun c_14 => ?_)
    · refine b_aload_n rfl rfl ?_
      refine b_dup rfl rfl ?_
      refine b_getI rfl (by first | rfl | assumption) rfl ?_
      refine b_iconst rfl ?_
      rw [h7]
      refine b_iadd rfl ?_
      rw [← nI_succ]
      refine b_putI rfl (by first | rfl | assumption) rfl rfl ⟨rfl, rfl⟩ ?_
      rw [e1]
      refine b_aload_n rfl rfl ?_
      refine b_callV rfl rfl hk_M_isName rfl rfl rfl (by first | rfl | assumption) rfl (Nat.le_of_ble_eq_true rfl) (qn) (Nat.le_of_ble_eq_true rfl) (fun r_34 D_34 q_34 => ?_)
      obtain ⟨⟨b, rfl, hb⟩, rfl⟩ := q_34
      refine b_if_ne rfl (fun c_37 => ?_) (fun c_37 => ?_)
      · rcases hb with ⟨hb, _⟩ | ⟨_, hb⟩ <;> first | exact absurd hb hA | exact absurd hb c_37
      · refine b_aload_n rfl rfl ?_
        refine b_iconst rfl ?_
        refine b_callV rfl rfl hk_M_wrong rfl rfl rfl (by first | rfl | assumption) rfl (Nat.le_of_ble_eq_true rfl) (q_M_wrong (c := 1) hM k1 (by omega)) (Nat.le_of_ble_eq_true rfl) (fun r_42 D_42 q_42 => ?_)
        obtain ⟨rfl, I2, rfl, g2, k2⟩ := q_42
        rw [← eZ] at k2
        refine b_goto rfl ?_
        refine b_aload_n rfl rfl ?_
        refine b_getI rfl (by first | rfl | assumption) rfl ?_
        rw [k2.2.2.2.1]
        refine b_if_ne rfl (fun c_65 => ?_) (fun c_65 => ?_)
        · exact b_return_ rfl trivial (⟨rfl, I2, J, rfl, hs_mn_f (hs_mf_t g1 g2), k2, fun q => absurd q hzz⟩)
        · exact absurd ((hi_nIe (k := 0) (by have := k2.2.2.2.2.2; omega) (by omega)).mp c_65) hzz
    · exact absurd c_14 ne
def hs_Pz (I : Nat → Nat → Int32) (J : Nat → Nat → Int64) (R : Nat → Nat → Option Nat) (f : Nat → Nat) (n E mc wr c : Nat) (g : Nat → Int32) (oa ob : Option Nat) (Z : rd) (D' : hnD) : Prop := ∃ I2, D' = (I2, J, R) ∧ hs_mn I J I2 J ∧ hs_Rm I2 J f n E Z ∧ (Z.1 = 0 → ∃ a b, oa = some a ∧ ob = some b ∧ I2 194 = va_up (va_up (I 194) (65 + 4 * a + wr) (g a ||| ((1 : Int32) <<< (nI b &&& 31)))) (60 + mc) (nI (c + 1)) ∧ (∀ b, b ≠ 188 → b ≠ 194 → I2 b = I b) ∧ I2 188 13 = I 188 13 ∧ I2 188 19 = I 188 19)
theorem q_M_readPair {f : Nat → Nat} {n E kn pn m mc mo wr c : Nat} {nm pm : Nat → Nat} {g : Nat → Int32} {x y z : Int32} {s : rd} (hM : hs_M R) (hW : hs_Wm J) (h : hs_Rm I J f n E s) (h0 : s.1 = 0) (hk0 : ¬ (tq f n s.2).1 = 0) (hJ : hs_Jt (J 198) (I 200) m kn nm pn pm) (hw : hs_Jw kn nm pn pm) (hm : I 188 19 = nI m) (hx : x = nI mc) (hy : y = nI mo) (hz : z = nI wr) (hmc : mc = 1 ∨ mc = 2) (hwr : wr = 2 ∨ wr = 3) (hc : I 194 (60 + mc) = nI c) (hcg : sp_cnt g = nI c) (hcm : c ≤ mo) (hmo : mo ≤ 16) (hg : ∀ k, k < 8 → I 194 (65 + 4 * k + wr) = g k) : hn_F 4 hm_M_readPair [.ref 188, .int x, .int y, .int z] (I, J, R) (fun r D' => r = none ∧ hs_Pz I J R f n E mc wr c g (o_k f n nm kn (0, s.2 + 1)) (o_k f n nm kn (0, s.2 + 2)) (p_o f n nm kn (oI (o_k f n nm kn (p_p1 f n g (nI mo) s))) (tl_k g (o_k f n nm kn (p_p1 f n g (nI mo) s))) (p_kt f n nm kn (p_p1 f n g (nI mo) s))) D') := by
  subst hx hy hz
  refine hn_F_of _ hk_M_readPair rfl (Nat.le_of_ble_eq_true rfl) ?_
  obtain ⟨m1, m4, m5, m6, m9, m10, m11, m12, m14, m15, m16, m17, m20, m21, m22, m23, m25, m27, m28, m29, m30, m31, m32⟩ := id hM
  obtain ⟨hn, ht, h7, h8, hk, hb⟩ := id h
  have hE := ht.1
  have e60 : (60 : Int32) + nI mc = nI (60 + mc) := (nI_ad 60 mc).symm
  have e65 : ∀ a, (65 : Int32) + 4 * nI a + nI wr = nI (65 + 4 * a + wr) := fun a => by rw [nI_ad, nI_ad, nI_ml]; rfl
  have hkn8 := hw.1
  have hfull : nI mo ≤ sp_cnt g ↔ mo ≤ c := by rw [hcg]; exact nI_le_c (by omega) (by omega)
  by_cases hful : mo ≤ c
  · have e1 : p_p1 f n g (nI mo) s = fl f n 5 s := if_pos (hfull.mpr hful)
    rw [e1]
    have hne : ¬ (fl f n 5 s).1 = 0 := fl_ne (by omega)
    have e2 : p_kt f n nm kn (fl f n 5 s) = fl f n 5 s := (if_neg (fun q => hne q.1)).trans (if_neg (fun q => hne q.1))
    rw [e2]
    obtain ⟨Z, hZ⟩ : ∃ Z, Z = p_o f n nm kn (oI (o_k f n nm kn (fl f n 5 s))) (tl_k g (o_k f n nm kn (fl f n 5 s))) (fl f n 5 s) := ⟨_, rfl⟩
    rw [← hZ]
    have eZ : Z = p_f f n 5 s := by
      rw [hZ, show p_f f n 5 s = fl f n 5 s from if_pos h0]
      exact (if_neg (fun q => hne q.1)).trans (if_neg (fun q => hne q.1))
    have hzz : ¬ Z.1 = 0 := by rw [eZ, show p_f f n 5 s = fl f n 5 s from if_pos h0]; exact hne
    have ec : c = mo := by omega
    refine b_aload_n rfl rfl ?_
    refine b_getR rfl (by first | rfl | assumption) rfl (by assumption) ?_
    refine b_bipush rfl ?_
    refine b_iload_n rfl rfl ?_
    refine b_iadd rfl ?_
    rw [e60]
    refine b_iaload rfl (by first | rfl | assumption) (nI_toInt (n := 60 + mc) (by omega)) (by omega) ?_
    rw [hc]
    refine b_iload_n rfl rfl ?_
    refine b_icmp_ne rfl (fun c_10 => ?_) (fun c_10 => ?_)
    · exact absurd (by rw [ec]) c_10
    · refine b_aload_n rfl rfl ?_
      refine b_iconst rfl ?_
      refine b_callV rfl rfl hk_M_wrong rfl rfl rfl (by first | rfl | assumption) rfl (Nat.le_of_ble_eq_true rfl) (q_M_wrong (c := 5) hM h (by omega)) (Nat.le_of_ble_eq_true rfl) (fun r_15 D_15 q_15 => ?_)
      obtain ⟨rfl, I2, rfl, g2, k2⟩ := q_15
      rw [← eZ] at k2
      exact b_return_ rfl trivial (⟨rfl, I2, rfl, hs_mn_f g2, k2, fun q => absurd q hzz⟩)
  have ne : ¬ nI c = nI mo := fun q => by have := (hi_nIe (by omega) (by omega)).mp q; omega
  have e1 : p_p1 f n g (nI mo) s = (0, s.2 + 1) := if_neg (fun q => hful (hfull.mp q))
  rw [e1]
  obtain ⟨I1, d1, g1, k1⟩ := mp_on (R := R) h h0 hk0
  have d1 : hn_u I 188 7 (nI (s.2 + 1)) = I1 := congrArg Prod.fst d1
  have t1 : ∀ (I2 : Nat → Nat → Int32) (q : rd), hs_mf I I2 → hs_Rm I2 J f n E q → (tq f n q.2).1 = 1 → hn_F 0 hm_M_nameAt [.ref 188, .int 1] (I2, J, R) (fun r D' => r = some (.int (jo nm kn pm pn (tq f n q.2).2.2.2)) ∧ D' = (I2, J, R)) := fun I2 q g2 k2 hq => q_M_nameAt1 (m := m) hM k2 (by rw [g2.1 200 (by omega)]; exact hJ) hw (by rw [g2.2 19 (by omega) (by omega)]; exact hm) hq
  have qa := q_M_takeTold (fr := 0) (tb := nm) (tn := kn) (b := 1) (bu := 0) (V := jo nm kn pm pn (tq f n (s.2 + 1)).2.2.2) hM hW k1 rfl (fun _ => t1 I1 _ g1 k1) (tbz_0 hw)
  rw [pT_kt] at qa
  obtain ⟨oa, hoa⟩ : ∃ oa, oa = o_k f n nm kn (0, s.2 + 1) := ⟨_, rfl⟩
  rw [← hoa] at qa ⊢
  obtain ⟨u, hu⟩ : ∃ u, u = p_kt f n nm kn (0, s.2 + 1) := ⟨_, rfl⟩
  rw [← hu] at qa ⊢
  obtain ⟨ob, hob⟩ : ∃ ob, ob = o_k f n nm kn (0, s.2 + 2) := ⟨_, rfl⟩
  rw [← hob]
  obtain ⟨Z, hZ⟩ : ∃ Z, Z = p_o f n nm kn (oI oa) (tl_k g oa) u := ⟨_, rfl⟩
  rw [← hZ]
  obtain ⟨P, hP⟩ : ∃ P : Option Value → hnD → Prop, P = (fun r D' => r = none ∧ hs_Pz I J R f n E mc wr c g oa ob Z D') := ⟨_, rfl⟩
  rw [← hP]
  have S36 : ∀ (a : Nat) (I2 : Nat → Nat → Int32), a < 8 → hs_mf I I2 → hs_Rm I2 J f n E u → (u.1 = 0 → u = (0, s.2 + 2) ∧ oa = some a) → hn_B 4 hm_M_readPair P 36 [.ref 188, .int (nI mc), .int (nI mo), .int (nI wr), .null, .null, .null] [.int (nI a)] (I2, J, R) := by
    intro a I2 ha g2 k2 hu0
    have f194 : I2 194 = I 194 := g2.1 194 (by omega)
    have hga : I2 194 (65 + 4 * a + wr) = g a := by rw [f194]; exact hg a ha
    have qb := q_M_takeTold (fr := 0) (tb := nm) (tn := kn) (b := 1) (bu := g a ||| ((1 : Int32) <<< (nI a &&& 31))) (V := jo nm kn pm pn (tq f n u.2).2.2.2) hM hW k2 rfl (fun _ => t1 I2 u g2 k2) (tbz_0 hw)
    rw [pT_o (by omega) hw.1] at qb
    have eZ : p_o f n nm kn (nI a) (g a) u = Z := by
      rw [hZ]
      by_cases hu1 : u.1 = 0
      · rw [(hu0 hu1).2]; rfl
      · exact ((if_neg (fun q => hu1 q.1)).trans (if_neg (fun q => hu1 q.1))).trans ((if_neg (fun q => hu1 q.1)).trans (if_neg (fun q => hu1 q.1))).symm
    rw [eZ] at qb
    by_cases hZ0 : Z.1 = 0
    · have hu1 : u.1 = 0 := by
        have z := hZ0
        rw [hZ] at z
        exact (p_o_1 z).1.1
      obtain ⟨u2, oa2⟩ := hu0 hu1
      have hZ1 : ∃ b, ob = some b ∧ b < kn := by
        have z := hZ0
        rw [hZ, u2] at z
        obtain ⟨b, hb1, hb2, _⟩ := (p_o_1 z).2.1
        exact ⟨b, hob.trans hb1, hb2⟩
      obtain ⟨b, hb1, hb2⟩ := hZ1
      have ob2 : o_k f n nm kn u = some b := by rw [u2, ← hob]; exact hb1
      rw [ob2] at qb
      refine b_istore rfl (Nat.le_of_ble_eq_true rfl) ?_
      refine b_bipush rfl ?_
      refine b_iconst rfl ?_
      refine b_iload rfl rfl ?_
      refine b_imul rfl ?_
      refine b_iadd rfl ?_
      refine b_iload_n rfl rfl ?_
      refine b_iadd rfl ?_
      rw [e65]
      refine b_istore rfl (Nat.le_of_ble_eq_true rfl) ?_
      refine b_aload_n rfl rfl ?_
      refine b_iconst rfl ?_
      refine b_iconst rfl ?_
      refine b_aload_n rfl rfl ?_
      refine b_getR rfl (by first | rfl | assumption) rfl (by assumption) ?_
      refine b_iload rfl rfl ?_
      refine b_iaload rfl (by first | rfl | assumption) (nI_toInt (n := 65 + 4 * a + wr) (by omega)) (by omega) ?_
      rw [hga]
      refine b_iconst rfl ?_
      refine b_iload rfl rfl ?_
      refine b_ishl rfl ?_
      refine b_ior rfl ?_
      refine b_callV rfl rfl hk_M_takeTold rfl rfl rfl (by first | rfl | assumption) rfl (Nat.le_of_ble_eq_true rfl) (qb) (Nat.le_of_ble_eq_true rfl) (fun r_64 D_64 q_64 => ?_)
      obtain ⟨⟨zb, rfl, hzb⟩, _, I3, rfl, g3, k3⟩ := q_64
      have hzb : zb = nI b := hzb hZ0
      have f3 : I3 194 = I 194 := (g3.1 194 (by omega)).trans f194
      have hga3 : I3 194 (65 + 4 * a + wr) = g a := by rw [f3]; exact hg a ha
      subst hzb
      refine b_istore rfl (Nat.le_of_ble_eq_true rfl) ?_
      refine b_aload_n rfl rfl ?_
      refine b_getI rfl (by first | rfl | assumption) rfl ?_
      rw [k3.2.2.2.1, hZ0]
      refine b_if_ne rfl (fun c_73 => ?_) (fun c_73 => ?_)
      · exact absurd rfl c_73
      · refine b_aload_n rfl rfl ?_
        refine b_getR rfl (by first | rfl | assumption) rfl (by assumption) ?_
        refine b_iload rfl rfl ?_
        refine b_dup2_11 rfl rfl rfl ?_
        refine b_iaload rfl (by first | rfl | assumption) (nI_toInt (n := 65 + 4 * a + wr) (by omega)) (by omega) ?_
        rw [hga3]
        refine b_iconst rfl ?_
        refine b_iload rfl rfl ?_
        refine b_ishl rfl ?_
        refine b_ior rfl ?_
        refine b_iastore rfl (by first | rfl | assumption) (nI_toInt (n := 65 + 4 * a + wr) (by omega)) (by omega) ?_
        obtain ⟨I4, hI4⟩ : ∃ z, z = hn_u I3 194 (65 + 4 * a + wr) (g a ||| ((1 : Int32) <<< (nI b &&& 31))) := ⟨_, rfl⟩
        rw [← hI4]
        have a4 : I4 194 (60 + mc) = nI c := (by rw [hI4, hn_u_eq, va_up, if_neg (by omega), f3]; exact hc)
        refine b_aload_n rfl rfl ?_
        refine b_getR rfl (by first | rfl | assumption) rfl (by assumption) ?_
        refine b_bipush rfl ?_
        refine b_iload_n rfl rfl ?_
        refine b_iadd rfl ?_
        rw [e60]
        refine b_dup2_11 rfl rfl rfl ?_
        refine b_iaload rfl (by first | rfl | assumption) (nI_toInt (n := 60 + mc) (by omega)) (by omega) ?_
        rw [a4]
        refine b_iconst rfl ?_
        refine b_iadd rfl ?_
        rw [← nI_succ]
        refine b_iastore rfl (by first | rfl | assumption) (nI_toInt (n := 60 + mc) (by omega)) (by omega) ?_
        exact b_return_ rfl trivial ((by rw [hP]; have g23 := hs_mf_t g2 g3; have e194 : hn_u I4 194 (60 + mc) (nI (c + 1)) 194 = va_up (va_up (I 194) (65 + 4 * a + wr) (g a ||| ((1 : Int32) <<< (nI b &&& 31)))) (60 + mc) (nI (c + 1)) := (by rw [hn_u_eq, hI4, hn_u_eq, f3]); have eb : ∀ d, d ≠ 194 → hn_u I4 194 (60 + mc) (nI (c + 1)) d = I3 d := (fun d hd => by rw [hn_u_ne _ _ _ hd, hI4, hn_u_ne _ _ _ hd]); exact ⟨rfl, _, rfl, ⟨fun d h1 h2 _ _ _ => by rw [eb d h2]; exact g23.1 d h1, fun i h7 h8 _ _ => by rw [eb 188 (by omega)]; exact g23.2 i h7 h8, fun j hj => by rw [e194, va_up, if_neg (by omega), va_up, if_neg (by omega)], fun j _ => ⟨by rw [eb 195 (by omega), g23.1 195 (by omega)], by rw [eb 196 (by omega), g23.1 196 (by omega)]⟩, fun _ _ => rfl⟩, ⟨k3.1, hs_tt_c k3.2.1 (eb 190 (by omega)) (eb 191 (by omega)), by rw [eb 188 (by omega)]; exact k3.2.2.1, by rw [eb 188 (by omega)]; exact k3.2.2.2.1, k3.2.2.2.2⟩, fun _ => ⟨a, b, oa2, hb1, e194, fun d h1 h2 => by rw [eb d h2]; exact g23.1 d h1, by rw [eb 188 (by omega)]; exact g23.2 13 (by omega) (by omega), by rw [eb 188 (by omega)]; exact g23.2 19 (by omega) (by omega)⟩⟩))
    · refine b_istore rfl (Nat.le_of_ble_eq_true rfl) ?_
      refine b_bipush rfl ?_
      refine b_iconst rfl ?_
      refine b_iload rfl rfl ?_
      refine b_imul rfl ?_
      refine b_iadd rfl ?_
      refine b_iload_n rfl rfl ?_
      refine b_iadd rfl ?_
      rw [e65]
      refine b_istore rfl (Nat.le_of_ble_eq_true rfl) ?_
      refine b_aload_n rfl rfl ?_
      refine b_iconst rfl ?_
      refine b_iconst rfl ?_
      refine b_aload_n rfl rfl ?_
      refine b_getR rfl (by first | rfl | assumption) rfl (by assumption) ?_
      refine b_iload rfl rfl ?_
      refine b_iaload rfl (by first | rfl | assumption) (nI_toInt (n := 65 + 4 * a + wr) (by omega)) (by omega) ?_
      rw [hga]
      refine b_iconst rfl ?_
      refine b_iload rfl rfl ?_
      refine b_ishl rfl ?_
      refine b_ior rfl ?_
      refine b_callV rfl rfl hk_M_takeTold rfl rfl rfl (by first | rfl | assumption) rfl (Nat.le_of_ble_eq_true rfl) (qb) (Nat.le_of_ble_eq_true rfl) (fun r_64 D_64 q_64 => ?_)
      obtain ⟨⟨zb, rfl, hzb⟩, _, I3, rfl, g3, k3⟩ := q_64
      refine b_istore rfl (Nat.le_of_ble_eq_true rfl) ?_
      refine b_aload_n rfl rfl ?_
      refine b_getI rfl (by first | rfl | assumption) rfl ?_
      rw [k3.2.2.2.1]
      refine b_if_ne rfl (fun c_73 => ?_) (fun c_73 => ?_)
      · exact b_return_ rfl trivial ((by rw [hP]; exact ⟨rfl, I3, rfl, hs_mn_f (hs_mf_t g2 g3), k3, fun q => absurd q hZ0⟩))
      · exact absurd ((hi_nIe (k := 0) (by have := k3.2.2.2.2.2; omega) (by omega)).mp c_73) hZ0
  by_cases hu1 : u.1 = 0
  · have z := hu1
    rw [hu] at z
    obtain ⟨z1, ⟨a, za, zl⟩, z3⟩ := p_kt_1 z
    have oa2 : oa = some a := hoa.trans za
    have u2 : u = (0, s.2 + 2) := hu.trans z3
    rw [oa2] at qa
    refine b_aload_n rfl rfl ?_
    refine b_getR rfl (by first | rfl | assumption) rfl (by assumption) ?_
    refine b_bipush rfl ?_
    refine b_iload_n rfl rfl ?_
    refine b_iadd rfl ?_
    rw [e60]
    refine b_iaload rfl (by first | rfl | assumption) (nI_toInt (n := 60 + mc) (by omega)) (by omega) ?_
    rw [hc]
    refine b_iload_n rfl rfl ?_
    refine b_icmp_ne rfl (fun c_10 => ?_) (fun c_10 => ?_)
    · refine b_aload_n rfl rfl ?_
      refine b_dup rfl rfl ?_
      refine b_getI rfl (by first | rfl | assumption) rfl ?_
      refine b_iconst rfl ?_
      rw [h7]
      refine b_iadd rfl ?_
      rw [← nI_succ]
      refine b_putI rfl (by first | rfl | assumption) rfl rfl ⟨rfl, rfl⟩ ?_
      rw [d1]
      refine b_aload_n rfl rfl ?_
      refine b_iconst rfl ?_
      refine b_iconst rfl ?_
      refine b_iconst rfl ?_
      refine b_callV rfl rfl hk_M_takeTold rfl rfl rfl (by first | rfl | assumption) rfl (Nat.le_of_ble_eq_true rfl) (qa) (Nat.le_of_ble_eq_true rfl) (fun r_33 D_33 q_33 => ?_)
      obtain ⟨⟨zb, rfl, hzb⟩, _, I2, rfl, g2, k2⟩ := q_33
      have hzb : zb = nI a := hzb hu1
      subst hzb
      exact S36 a I2 (by omega) (hs_mf_t g1 g2) k2 (fun _ => ⟨u2, oa2⟩)
    · exact absurd c_10 ne
  · refine b_aload_n rfl rfl ?_
    refine b_getR rfl (by first | rfl | assumption) rfl (by assumption) ?_
    refine b_bipush rfl ?_
    refine b_iload_n rfl rfl ?_
    refine b_iadd rfl ?_
    rw [e60]
    refine b_iaload rfl (by first | rfl | assumption) (nI_toInt (n := 60 + mc) (by omega)) (by omega) ?_
    rw [hc]
    refine b_iload_n rfl rfl ?_
    refine b_icmp_ne rfl (fun c_10 => ?_) (fun c_10 => ?_)
    · refine b_aload_n rfl rfl ?_
      refine b_dup rfl rfl ?_
      refine b_getI rfl (by first | rfl | assumption) rfl ?_
      refine b_iconst rfl ?_
      rw [h7]
      refine b_iadd rfl ?_
      rw [← nI_succ]
      refine b_putI rfl (by first | rfl | assumption) rfl rfl ⟨rfl, rfl⟩ ?_
      rw [d1]
      refine b_aload_n rfl rfl ?_
      refine b_iconst rfl ?_
      refine b_iconst rfl ?_
      refine b_iconst rfl ?_
      refine b_callV rfl rfl hk_M_takeTold rfl rfl rfl (by first | rfl | assumption) rfl (Nat.le_of_ble_eq_true rfl) (qa) (Nat.le_of_ble_eq_true rfl) (fun r_33 D_33 q_33 => ?_)
      obtain ⟨_, hr, I2, rfl, g2, k2⟩ := q_33
      obtain rfl := hr hu1
      exact S36 0 I2 (by omega) (hs_mf_t g1 g2) k2 (fun q => absurd q hu1)
    · exact absurd c_10 ne
end HNmpairs
