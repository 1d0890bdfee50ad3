section HNmgo
variable {I : Nat → Nat → Int32} {J : Nat → Nat → Int64} {R : Nat → Nat → Option Nat}
/-- the reference's law is this one -/
def hs_ML (I : Nat → Nat → Int32) (cs : Nat → Int32) (sz : Nat) : Prop := (I 194 4 = -1 ∧ ∀ h m y o, ev_val h m y o cs sz = 1) ∨ (I 194 4 = 0 ∧ hs_mc (I 195) (I 196) cs sz)
abbrev sp_lf (cs : Nat → Int32) (sz : Nat) : Int32 → Int32 → Int32 → Int32 → Int32 := fun h m y o => ev_val h m y o cs sz
theorem q_M_kindOf {n np k : Nat} {kd hd ag : Nat → Int32} (hM : hs_M R) (hN : hs_MN I n np kd hd ag) (hk : k < n) : hn_F 1 hm_M_kindOf [.ref 188, .int (nI k)] (I, J, R) (fun r D' => D' = (I, J, R) ∧ r = some (.int (sp_kind kd (I 188 26) k))) := by
  obtain ⟨hn, hn8, hnp, hn4, hkn⟩ := hN
  have e0 := (hkn k hk).1
  refine hn_F_of _ hk_M_kindOf rfl (Nat.le_of_ble_eq_true rfl) ?_
  refine b_aload_n rfl rfl ?_
  refine b_getI rfl (by first | rfl | assumption) rfl ?_
  refine b_iload_n rfl rfl ?_
  refine b_ishr rfl ?_
  refine b_iconst rfl ?_
  refine b_iand rfl ?_
  refine b_iconst rfl ?_
  refine b_icmp_ne rfl (fun c_9 => ?_) (fun c_9 => ?_)
  · refine b_aload_n rfl rfl ?_
    refine b_iload_n rfl rfl ?_
    refine b_iconst rfl ?_
    refine b_callV rfl rfl hk_M_knotOf rfl rfl rfl (by first | rfl | assumption) rfl (Nat.le_of_ble_eq_true rfl) (q_M_knotOf (w := 0) hM (by omega) rfl (by omega)) (Nat.le_of_ble_eq_true rfl) (fun r_19 D_19 q_19 => ?_)
    obtain ⟨rfl, rfl⟩ := q_19
    exact b_ireturn rfl trivial (⟨rfl, by first | rw [sp_kind, if_pos ((hi_bit1 _).mp c_9)] | rw [sp_kind, if_neg (fun z => c_9 ((hi_bit1 _).mpr z)), Nat.add_zero, e0]⟩)
  · refine b_iconst rfl ?_
    refine b_goto rfl ?_
    exact b_ireturn rfl trivial (⟨rfl, by first | rw [sp_kind, if_pos ((hi_bit1 _).mp c_9)] | rw [sp_kind, if_neg (fun z => c_9 ((hi_bit1 _).mpr z)), Nat.add_zero, e0]⟩)
theorem sp_clampM (v : Int32) : (if v < 0 then 0 else if 9 < v then 9 else v) = sp_clamp v := rfl
theorem q_M_willBy {n np k sz : Nat} {kd hd ag cs : Nat → Int32} {mind many others : Int32} (hM : hs_M R) (hN : hs_MN I n np kd hd ag) (hL : hs_ML I cs sz) (hk : k < n) : hn_F 2 hm_M_willBy [.ref 188, .int (nI k), .int mind, .int many, .int others] (I, J, R) (fun r D' => hs_fr I J R D' (fun b => b = 202 ∨ b = 203) ∧ r = some (.int (sp_will kd hd (sp_lf cs sz) (I 188 26) k mind many others))) := by
  have hM0 := hM
  have hN0 := hN
  obtain ⟨m1, m4, m5, m6, m9, m10, m11, m12, m14, m15, m16, m17, m20, m21, m22, m23, m25, m27, m28, m29, m30, m31, m32⟩ := hM
  obtain ⟨hn, hn8, hnp, hn4, hkn⟩ := hN
  have e1 : I 194 (5 + 4 * k + 1) = hd k := by rw [← (hkn k hk).2.1]; congr 1; omega
  refine hn_F_of _ hk_M_willBy rfl (Nat.le_of_ble_eq_true rfl) ?_
  obtain ⟨P, hPd⟩ : ∃ P : Option Value → hnD → Prop, P = (fun r D' => hs_fr I J R D' (fun b => b = 202 ∨ b = 203) ∧ r = some (.int (sp_will kd hd (sp_lf cs sz) (I 188 26) k mind many others))) := ⟨_, rfl⟩
  rw [← hPd]
  have fin : ∀ (I' : Nat → Nat → Int32) (v : Int32), (∀ b, ¬ (b = 202 ∨ b = 203) → I' b = I b) → v = ev_val (hd k) mind many others cs sz → hn_B 2 hm_M_willBy P 57 [.ref 188, .int (nI k), .int mind, .int many, .int others, .null, .null, .null, .null] [.int v] (I', J, R) := by
    intro I' v hf hv
    subst hv
    have hN' : hs_MN I' n np kd hd ag := by unfold hs_MN; rw [hf 194 (by omega)]; exact hN0
    have e26 : I' 188 = I 188 := hf _ (by omega)
    have cl : ∀ w : Int32, w = sp_clamp (ev_val (hd k) mind many others cs sz) → hn_B 2 hm_M_willBy P 82 [.ref 188, .int (nI k), .int mind, .int many, .int others, .int (ev_val (hd k) mind many others cs sz), .null, .null, .null] [.int w] (I', J, R) := by
      intro w hw
      subst hw
      refine b_istore rfl (Nat.le_of_ble_eq_true rfl) ?_
      refine b_aload_n rfl rfl ?_
      refine b_iload_n rfl rfl ?_
      refine b_callV rfl rfl hk_M_kindOf rfl rfl rfl (by first | rfl | assumption) rfl (Nat.le_of_ble_eq_true rfl) (q_M_kindOf hM0 hN' hk) (Nat.le_of_ble_eq_true rfl) (fun r_86 D_86 q_86 => ?_)
      obtain ⟨rfl, hq⟩ := q_86
      rw [e26] at hq
      subst hq
      refine b_istore rfl (Nat.le_of_ble_eq_true rfl) ?_
      refine b_iload_n rfl rfl ?_
      refine b_iload rfl rfl ?_
      refine b_iconst rfl ?_
      refine b_icmp_ne rfl (fun c_95 => ?_) (fun c_95 => ?_)
      · refine b_iload rfl rfl ?_
        refine b_isub rfl ?_
        refine b_istore rfl (Nat.le_of_ble_eq_true rfl) ?_
        refine b_iload rfl rfl ?_
        refine b_iconst rfl ?_
        refine b_icmp_ne rfl (fun c_113 => ?_) (fun c_113 => ?_)
        · refine b_iconst rfl ?_
          refine b_istore rfl (Nat.le_of_ble_eq_true rfl) ?_
          refine b_iload rfl rfl ?_
          refine b_iload rfl rfl ?_
          refine b_icmp_ge rfl (fun c_127 => ?_) (fun c_127 => ?_)
          · refine b_iload rfl rfl ?_
            exact b_ireturn rfl trivial ((by rw [hPd]; exact ⟨⟨rfl, rfl, hf⟩, by simp only [sp_will, sp_lf]; (first | rw [if_neg c_95, if_pos c_113] | rw [if_neg c_95, if_neg c_113] | rw [if_pos c_95, if_pos c_113] | rw [if_pos c_95, if_neg c_113]); rw [hi_max]; first | rw [if_pos (Int32.not_le.mp c_127)] | rw [if_neg (Int32.not_lt.mpr c_127)]⟩))
          · refine b_iload rfl rfl ?_
            refine b_goto rfl ?_
            exact b_ireturn rfl trivial ((by rw [hPd]; exact ⟨⟨rfl, rfl, hf⟩, by simp only [sp_will, sp_lf]; (first | rw [if_neg c_95, if_pos c_113] | rw [if_neg c_95, if_neg c_113] | rw [if_pos c_95, if_pos c_113] | rw [if_pos c_95, if_neg c_113]); rw [hi_max]; first | rw [if_pos (Int32.not_le.mp c_127)] | rw [if_neg (Int32.not_lt.mpr c_127)]⟩))
        · refine b_iconst rfl ?_
          refine b_goto rfl ?_
          refine b_istore rfl (Nat.le_of_ble_eq_true rfl) ?_
          refine b_iload rfl rfl ?_
          refine b_iload rfl rfl ?_
          refine b_icmp_ge rfl (fun c_127 => ?_) (fun c_127 => ?_)
          · refine b_iload rfl rfl ?_
            exact b_ireturn rfl trivial ((by rw [hPd]; exact ⟨⟨rfl, rfl, hf⟩, by simp only [sp_will, sp_lf]; (first | rw [if_neg c_95, if_pos c_113] | rw [if_neg c_95, if_neg c_113] | rw [if_pos c_95, if_pos c_113] | rw [if_pos c_95, if_neg c_113]); rw [hi_max]; first | rw [if_pos (Int32.not_le.mp c_127)] | rw [if_neg (Int32.not_lt.mpr c_127)]⟩))
          · refine b_iload rfl rfl ?_
            refine b_goto rfl ?_
            exact b_ireturn rfl trivial ((by rw [hPd]; exact ⟨⟨rfl, rfl, hf⟩, by simp only [sp_will, sp_lf]; (first | rw [if_neg c_95, if_pos c_113] | rw [if_neg c_95, if_neg c_113] | rw [if_pos c_95, if_pos c_113] | rw [if_pos c_95, if_neg c_113]); rw [hi_max]; first | rw [if_pos (Int32.not_le.mp c_127)] | rw [if_neg (Int32.not_lt.mpr c_127)]⟩))
      · refine b_iconst rfl ?_
        refine b_iload rfl rfl ?_
        refine b_imul rfl ?_
        refine b_goto rfl ?_
        refine b_isub rfl ?_
        refine b_istore rfl (Nat.le_of_ble_eq_true rfl) ?_
        refine b_iload rfl rfl ?_
        refine b_iconst rfl ?_
        refine b_icmp_ne rfl (fun c_113 => ?_) (fun c_113 => ?_)
        · refine b_iconst rfl ?_
          refine b_istore rfl (Nat.le_of_ble_eq_true rfl) ?_
          refine b_iload rfl rfl ?_
          refine b_iload rfl rfl ?_
          refine b_icmp_ge rfl (fun c_127 => ?_) (fun c_127 => ?_)
          · refine b_iload rfl rfl ?_
            exact b_ireturn rfl trivial ((by rw [hPd]; exact ⟨⟨rfl, rfl, hf⟩, by simp only [sp_will, sp_lf]; (first | rw [if_neg c_95, if_pos c_113] | rw [if_neg c_95, if_neg c_113] | rw [if_pos c_95, if_pos c_113] | rw [if_pos c_95, if_neg c_113]); rw [hi_max]; first | rw [if_pos (Int32.not_le.mp c_127)] | rw [if_neg (Int32.not_lt.mpr c_127)]⟩))
          · refine b_iload rfl rfl ?_
            refine b_goto rfl ?_
            exact b_ireturn rfl trivial ((by rw [hPd]; exact ⟨⟨rfl, rfl, hf⟩, by simp only [sp_will, sp_lf]; (first | rw [if_neg c_95, if_pos c_113] | rw [if_neg c_95, if_neg c_113] | rw [if_pos c_95, if_pos c_113] | rw [if_pos c_95, if_neg c_113]); rw [hi_max]; first | rw [if_pos (Int32.not_le.mp c_127)] | rw [if_neg (Int32.not_lt.mpr c_127)]⟩))
        · refine b_iconst rfl ?_
          refine b_goto rfl ?_
          refine b_istore rfl (Nat.le_of_ble_eq_true rfl) ?_
          refine b_iload rfl rfl ?_
          refine b_iload rfl rfl ?_
          refine b_icmp_ge rfl (fun c_127 => ?_) (fun c_127 => ?_)
          · refine b_iload rfl rfl ?_
            exact b_ireturn rfl trivial ((by rw [hPd]; exact ⟨⟨rfl, rfl, hf⟩, by simp only [sp_will, sp_lf]; (first | rw [if_neg c_95, if_pos c_113] | rw [if_neg c_95, if_neg c_113] | rw [if_pos c_95, if_pos c_113] | rw [if_pos c_95, if_neg c_113]); rw [hi_max]; first | rw [if_pos (Int32.not_le.mp c_127)] | rw [if_neg (Int32.not_lt.mpr c_127)]⟩))
          · refine b_iload rfl rfl ?_
            refine b_goto rfl ?_
            exact b_ireturn rfl trivial ((by rw [hPd]; exact ⟨⟨rfl, rfl, hf⟩, by simp only [sp_will, sp_lf]; (first | rw [if_neg c_95, if_pos c_113] | rw [if_neg c_95, if_neg c_113] | rw [if_pos c_95, if_pos c_113] | rw [if_pos c_95, if_neg c_113]); rw [hi_max]; first | rw [if_pos (Int32.not_le.mp c_127)] | rw [if_neg (Int32.not_lt.mpr c_127)]⟩))
    refine b_istore rfl (Nat.le_of_ble_eq_true rfl) ?_
    refine b_iload rfl rfl ?_
    refine b_if_ge rfl (fun c_61 => ?_) (fun c_61 => ?_)
    · refine b_iload rfl rfl ?_
      refine b_bipush rfl ?_
      refine b_icmp_le rfl (fun c_72 => ?_) (fun c_72 => ?_)
      · refine b_iload rfl rfl ?_
        first | exact cl _ (by rw [← sp_clampM, if_pos (Int32.not_le.mp c_61)]) | exact cl _ (by rw [← sp_clampM, if_neg (Int32.not_lt.mpr c_61), if_neg (Int32.not_lt.mpr c_72)]) | exact cl _ (by rw [← sp_clampM, if_neg (Int32.not_lt.mpr c_61), if_pos (Int32.not_le.mp c_72)])
      · refine b_bipush rfl ?_
        refine b_goto rfl ?_
        first | exact cl _ (by rw [← sp_clampM, if_pos (Int32.not_le.mp c_61)]) | exact cl _ (by rw [← sp_clampM, if_neg (Int32.not_lt.mpr c_61), if_neg (Int32.not_lt.mpr c_72)]) | exact cl _ (by rw [← sp_clampM, if_neg (Int32.not_lt.mpr c_61), if_pos (Int32.not_le.mp c_72)])
    · refine b_iconst rfl ?_
      refine b_goto rfl ?_
      first | exact cl _ (by rw [← sp_clampM, if_pos (Int32.not_le.mp c_61)]) | exact cl _ (by rw [← sp_clampM, if_neg (Int32.not_lt.mpr c_61), if_neg (Int32.not_lt.mpr c_72)]) | exact cl _ (by rw [← sp_clampM, if_neg (Int32.not_lt.mpr c_61), if_pos (Int32.not_le.mp c_72)])
  rcases hL with ⟨hL, hv⟩ | ⟨hL, hmc⟩
  · refine b_aload_n rfl rfl ?_
    refine b_getR rfl (by first | rfl | assumption) rfl (by assumption) ?_
    refine b_iconst rfl ?_
    refine b_aload_n rfl rfl ?_
    refine b_iload_n rfl rfl ?_
    refine b_iconst rfl ?_
    refine b_callV rfl rfl hk_M_knotOf rfl rfl rfl (by first | rfl | assumption) rfl (Nat.le_of_ble_eq_true rfl) (q_M_knotOf (w := 1) hM0 (by omega) rfl (by omega)) (Nat.le_of_ble_eq_true rfl) (fun r_8 D_8 q_8 => ?_)
    obtain ⟨rfl, rfl⟩ := q_8
    refine b_iastore rfl (by first | rfl | assumption) (by first | assumption | exact nI_toInt (by omega) | exact hi_l0 | exact hi_l1 | exact hi_l2 | exact hi_l3 | exact hi_l4 | exact hi_l5 | exact hi_l6) (by omega) ?_
    refine b_aload_n rfl rfl ?_
    refine b_getR rfl (by first | rfl | assumption) rfl (by assumption) ?_
    refine b_iconst rfl ?_
    refine b_iload_n rfl rfl ?_
    refine b_iastore rfl (by first | rfl | assumption) (by first | assumption | exact nI_toInt (by omega) | exact hi_l0 | exact hi_l1 | exact hi_l2 | exact hi_l3 | exact hi_l4 | exact hi_l5 | exact hi_l6) (by omega) ?_
    refine b_aload_n rfl rfl ?_
    refine b_getR rfl (by first | rfl | assumption) rfl (by assumption) ?_
    refine b_iconst rfl ?_
    refine b_iload_n rfl rfl ?_
    refine b_iastore rfl (by first | rfl | assumption) (by first | assumption | exact nI_toInt (by omega) | exact hi_l0 | exact hi_l1 | exact hi_l2 | exact hi_l3 | exact hi_l4 | exact hi_l5 | exact hi_l6) (by omega) ?_
    refine b_aload_n rfl rfl ?_
    refine b_getR rfl (by first | rfl | assumption) rfl (by assumption) ?_
    refine b_iconst rfl ?_
    refine b_iload rfl rfl ?_
    refine b_iastore rfl (by first | rfl | assumption) (by first | assumption | exact nI_toInt (by omega) | exact hi_l0 | exact hi_l1 | exact hi_l2 | exact hi_l3 | exact hi_l4 | exact hi_l5 | exact hi_l6) (by omega) ?_
    refine b_aload_n rfl rfl ?_
    rw [e1]
    obtain ⟨I3, hI3⟩ : ∃ z, z = hn_u (hn_u (hn_u (hn_u I 202 0 (hd k)) 202 1 mind) 202 2 many) 202 3 others := ⟨_, rfl⟩
    rw [← hI3]
    have hf3 : ∀ b, ¬ (b = 202 ∨ b = 203) → I3 b = I b := fun b hb => by rw [hI3, hn_u_ne _ _ _ (fun e => hb (Or.inl e)), hn_u_ne _ _ _ (fun e => hb (Or.inl e)), hn_u_ne _ _ _ (fun e => hb (Or.inl e)), hn_u_ne _ _ _ (fun e => hb (Or.inl e))]
    have e4 : I3 194 4 = -1 := by rw [hf3 _ (by omega)]; exact hL
    refine b_getR rfl (by first | rfl | assumption) rfl (by assumption) ?_
    refine b_iconst rfl ?_
    refine b_iaload rfl (by first | rfl | assumption) (by first | assumption | exact nI_toInt (by omega) | exact hi_l0 | exact hi_l1 | exact hi_l2 | exact hi_l3 | exact hi_l4 | exact hi_l5 | exact hi_l6) (by omega) ?_
    rw [e4]
    refine b_if_ge rfl (fun c_40 => ?_) (fun c_40 => ?_)
    · exact absurd c_40 (by decide)
    · refine b_iconst rfl ?_
      refine b_goto rfl ?_
      exact fin I3 1 hf3 (hv _ _ _ _).symm
  · refine b_aload_n rfl rfl ?_
    refine b_getR rfl (by first | rfl | assumption) rfl (by assumption) ?_
    refine b_iconst rfl ?_
    refine b_aload_n rfl rfl ?_
    refine b_iload_n rfl rfl ?_
    refine b_iconst rfl ?_
    refine b_callV rfl rfl hk_M_knotOf rfl rfl rfl (by first | rfl | assumption) rfl (Nat.le_of_ble_eq_true rfl) (q_M_knotOf (w := 1) hM0 (by omega) rfl (by omega)) (Nat.le_of_ble_eq_true rfl) (fun r_8 D_8 q_8 => ?_)
    obtain ⟨rfl, rfl⟩ := q_8
    refine b_iastore rfl (by first | rfl | assumption) (by first | assumption | exact nI_toInt (by omega) | exact hi_l0 | exact hi_l1 | exact hi_l2 | exact hi_l3 | exact hi_l4 | exact hi_l5 | exact hi_l6) (by omega) ?_
    refine b_aload_n rfl rfl ?_
    refine b_getR rfl (by first | rfl | assumption) rfl (by assumption) ?_
    refine b_iconst rfl ?_
    refine b_iload_n rfl rfl ?_
    refine b_iastore rfl (by first | rfl | assumption) (by first | assumption | exact nI_toInt (by omega) | exact hi_l0 | exact hi_l1 | exact hi_l2 | exact hi_l3 | exact hi_l4 | exact hi_l5 | exact hi_l6) (by omega) ?_
    refine b_aload_n rfl rfl ?_
    refine b_getR rfl (by first | rfl | assumption) rfl (by assumption) ?_
    refine b_iconst rfl ?_
    refine b_iload_n rfl rfl ?_
    refine b_iastore rfl (by first | rfl | assumption) (by first | assumption | exact nI_toInt (by omega) | exact hi_l0 | exact hi_l1 | exact hi_l2 | exact hi_l3 | exact hi_l4 | exact hi_l5 | exact hi_l6) (by omega) ?_
    refine b_aload_n rfl rfl ?_
    refine b_getR rfl (by first | rfl | assumption) rfl (by assumption) ?_
    refine b_iconst rfl ?_
    refine b_iload rfl rfl ?_
    refine b_iastore rfl (by first | rfl | assumption) (by first | assumption | exact nI_toInt (by omega) | exact hi_l0 | exact hi_l1 | exact hi_l2 | exact hi_l3 | exact hi_l4 | exact hi_l5 | exact hi_l6) (by omega) ?_
    refine b_aload_n rfl rfl ?_
    rw [e1]
    obtain ⟨I3, hI3⟩ : ∃ z, z = hn_u (hn_u (hn_u (hn_u I 202 0 (hd k)) 202 1 mind) 202 2 many) 202 3 others := ⟨_, rfl⟩
    rw [← hI3]
    have hf3 : ∀ b, ¬ (b = 202 ∨ b = 203) → I3 b = I b := fun b hb => by rw [hI3, hn_u_ne _ _ _ (fun e => hb (Or.inl e)), hn_u_ne _ _ _ (fun e => hb (Or.inl e)), hn_u_ne _ _ _ (fun e => hb (Or.inl e)), hn_u_ne _ _ _ (fun e => hb (Or.inl e))]
    have e4 : I3 194 4 = 0 := by rw [hf3 _ (by omega)]; exact hL
    have hmc3 : hs_mc (I3 195) (I3 196) cs sz := by rw [hf3 _ (by omega), hf3 _ (by omega)]; exact hmc
    have hfa : I3 202 0 = hd k ∧ I3 202 1 = mind ∧ I3 202 2 = many ∧ I3 202 3 = others := by rw [hI3]; simp [hn_u, va_up]
    refine b_getR rfl (by first | rfl | assumption) rfl (by assumption) ?_
    refine b_iconst rfl ?_
    refine b_iaload rfl (by first | rfl | assumption) (by first | assumption | exact nI_toInt (by omega) | exact hi_l0 | exact hi_l1 | exact hi_l2 | exact hi_l3 | exact hi_l4 | exact hi_l5 | exact hi_l6) (by omega) ?_
    rw [e4]
    refine b_if_ge rfl (fun c_40 => ?_) (fun c_40 => ?_)
    · refine b_aload_n rfl rfl ?_
      refine b_aload_n rfl rfl ?_
      refine b_getR rfl (by first | rfl | assumption) rfl (by assumption) ?_
      refine b_iconst rfl ?_
      refine b_iaload rfl (by first | rfl | assumption) (by first | assumption | exact nI_toInt (by omega) | exact hi_l0 | exact hi_l1 | exact hi_l2 | exact hi_l3 | exact hi_l4 | exact hi_l5 | exact hi_l6) (by omega) ?_
      rw [e4]
      refine b_callV rfl rfl hk_M_worthAt rfl rfl rfl (by first | rfl | assumption) rfl (Nat.le_of_ble_eq_true rfl) (q_M_worthAt hM0 hmc3 hfa rfl) (Nat.le_of_ble_eq_true rfl) (fun r_54 D_54 q_54 => ?_)
      obtain ⟨hf5, rfl⟩ := q_54
      obtain ⟨I5, rfl, hI5⟩ := hf5.out
      exact fin I5 _ (fun b hb => by rw [hI5 b (fun e => hb (Or.inr e))]; exact hf3 b hb) rfl
    · exact absurd (by decide) c_40
theorem q_M_doesFall {n np k : Nat} {kd hd ag : Nat → Int32} {wl : Int32} (hM : hs_M R) (hN : hs_MN I n np kd hd ag) (hk : k < n) : hn_F 2 hm_M_doesFall [.ref 188, .int (nI k), .int wl] (I, J, R) (fun r D' => D' = (I, J, R) ∧ r = some (.int (if sp_fall kd hd (I 188 26) k wl then 1 else 0))) := by
  have hN0 := hN
  obtain ⟨hn, hn8, hnp, hn4, hkn⟩ := hN
  have e1 : I 194 (5 + 4 * k + 1) = hd k := by rw [← (hkn k hk).2.1]; congr 1; omega
  refine hn_F_of _ hk_M_doesFall rfl (Nat.le_of_ble_eq_true rfl) ?_
  refine b_aload_n rfl rfl ?_
  refine b_iload_n rfl rfl ?_
  refine b_callV rfl rfl hk_M_kindOf rfl rfl rfl (by first | rfl | assumption) rfl (Nat.le_of_ble_eq_true rfl) (q_M_kindOf hM hN0 hk) (Nat.le_of_ble_eq_true rfl) (fun r_2 D_2 q_2 => ?_)
  obtain ⟨rfl, rfl⟩ := q_2
  refine b_iconst rfl ?_
  refine b_icmp_ne rfl (fun c_6 => ?_) (fun c_6 => ?_)
  · refine b_iconst rfl ?_
    exact b_ireturn rfl (by first | exact Or.inl rfl | exact Or.inr rfl | exact trivial) (⟨rfl, by first | rw [if_neg (fun z => c_6 z.1)] | rw [if_neg (fun z => Int32.not_lt.mpr c_16 z.2)] | rw [if_pos ⟨c_6, Int32.not_le.mp c_16⟩]⟩)
  · refine b_aload_n rfl rfl ?_
    refine b_iload_n rfl rfl ?_
    refine b_iconst rfl ?_
    refine b_callV rfl rfl hk_M_knotOf rfl rfl rfl (by first | rfl | assumption) rfl (Nat.le_of_ble_eq_true rfl) (q_M_knotOf (w := 1) hM (by omega) rfl (by omega)) (Nat.le_of_ble_eq_true rfl) (fun r_12 D_12 q_12 => ?_)
    obtain ⟨rfl, rfl⟩ := q_12
    rw [e1]
    refine b_iload_n rfl rfl ?_
    refine b_icmp_ge rfl (fun c_16 => ?_) (fun c_16 => ?_)
    · refine b_iconst rfl ?_
      exact b_ireturn rfl (by first | exact Or.inl rfl | exact Or.inr rfl | exact trivial) (⟨rfl, by first | rw [if_neg (fun z => c_6 z.1)] | rw [if_neg (fun z => Int32.not_lt.mpr c_16 z.2)] | rw [if_pos ⟨c_6, Int32.not_le.mp c_16⟩]⟩)
    · refine b_iconst rfl ?_
      refine b_goto rfl ?_
      exact b_ireturn rfl (by first | exact Or.inl rfl | exact Or.inr rfl | exact trivial) (⟨rfl, by first | rw [if_neg (fun z => c_6 z.1)] | rw [if_neg (fun z => Int32.not_lt.mpr c_16 z.2)] | rw [if_pos ⟨c_6, Int32.not_le.mp c_16⟩]⟩)
theorem q_M_nextOf {n np : Nat} {kd hd ag : Nat → Int32} {s b : Int32} (least : Prop) [Decidable least] (hM : hs_M R) (hN : hs_MN I n np kd hd ag) (hb : b = if least then 1 else 0) : hn_F 1 hm_M_nextOf [.ref 188, .int s, .int b] (I, J, R) (fun r D' => D' = (I, J, R) ∧ r = some (.int (sp_enc (sp_pick hd s least n)))) := by
  have hN0 := hN
  obtain ⟨hn, hn8, hnp, hn4, hkn⟩ := hN
  have e1 : ∀ k, k < n → I 194 (5 + 4 * k + 1) = hd k := fun k hk => by rw [← (hkn k hk).2.1]; congr 1; omega
  refine hn_F_of _ hk_M_nextOf rfl (Nat.le_of_ble_eq_true rfl) ?_
  refine b_iconst rfl ?_
  refine b_istore_n rfl (Nat.le_of_ble_eq_true rfl) ?_
  refine b_iconst rfl ?_
  refine b_istore rfl (Nat.le_of_ble_eq_true rfl) ?_
  refine b_eq (sp_ind n (fun k => ∀ l, hn_B 1 hm_M_nextOf (fun r D' => D' = (I, J, R) ∧ r = some (.int (sp_enc (sp_pick hd s least n)))) 5 [.ref 188, .int s, .int b, .int (sp_enc (sp_pick hd s least k)), .int (nI k), l] [] (I, J, R)) ?_ ?_ _) (by rw [nI_0]; rfl) rfl rfl
  · intro l
    refine b_iload rfl rfl ?_
    refine b_aload_n rfl rfl ?_
    refine b_callV rfl rfl hk_M_knots rfl rfl rfl (by first | rfl | assumption) rfl (Nat.le_of_ble_eq_true rfl) (q_M_knots hM hn) (Nat.le_of_ble_eq_true rfl) (fun r_8 D_8 q_8 => ?_)
    obtain ⟨rfl, rfl⟩ := q_8
    refine b_icmp_ge rfl (fun c_11 => ?_) (fun c_11 => ?_)
    · refine b_iload_n rfl rfl ?_
      exact b_ireturn rfl trivial (⟨rfl, rfl⟩)
    · exact absurd (nI_le (Nat.le_refl _) (by omega)) c_11
  · intro k hk ih l
    have e2 : sp_pick hd s least (k + 1) = if sp_bit s k then (match sp_pick hd s least k with | none => some k | some j => if (if least then hd k < hd j else hd j < hd k) then some k else some j) else sp_pick hd s least k := rfl
    have hlt := sp_pick_lt hd s least k
    generalize sp_pick hd s least k = o at e2 hlt ih
    rw [e2] at ih
    by_cases hs : sp_bit s k
    · rw [if_pos hs] at ih
      have hs1 := (hi_bit1 _).mpr hs
      cases o with
      | none =>
        refine b_iload rfl rfl ?_
        refine b_aload_n rfl rfl ?_
        refine b_callV rfl rfl hk_M_knots rfl rfl rfl (by first | rfl | assumption) rfl (Nat.le_of_ble_eq_true rfl) (q_M_knots hM hn) (Nat.le_of_ble_eq_true rfl) (fun r_8 D_8 q_8 => ?_)
        obtain ⟨rfl, rfl⟩ := q_8
        refine b_icmp_ge rfl (fun c_11 => ?_) (fun c_11 => ?_)
        · exact absurd c_11 (nI_ge hk (by omega))
        · refine b_iload_n rfl rfl ?_
          refine b_iload rfl rfl ?_
          refine b_ishr rfl ?_
          refine b_iconst rfl ?_
          refine b_iand rfl ?_
          refine b_iconst rfl ?_
          refine b_icmp_ne rfl (fun c_21 => ?_) (fun c_21 => ?_)
          · exact absurd hs1 c_21
          · refine b_iload_n rfl rfl ?_
            refine b_if_lt rfl (fun c_25 => ?_) (fun c_25 => ?_)
            · refine b_iconst rfl ?_
              refine b_goto rfl ?_
              refine b_istore rfl (Nat.le_of_ble_eq_true rfl) ?_
              refine b_iload rfl rfl ?_
              refine b_if_eq rfl (fun c_76 => ?_) (fun c_76 => ?_)
              · exact absurd c_76 (by decide)
              · refine b_iload rfl rfl ?_
                refine b_goto rfl ?_
                refine b_istore_n rfl (Nat.le_of_ble_eq_true rfl) ?_
                refine b_iinc rfl rfl (Nat.le_of_ble_eq_true rfl) ?_
                refine b_goto rfl ?_
                exact b_eq (ih _) (by rw [nI_succ]; rfl) rfl rfl
            · exact absurd (show (-1 : Int32) < 0 by decide) c_25
      | some j =>
        have hj := hlt j rfl
        have hij : (sp_enc (some j)).toInt = (j : Int) := nI_toInt (by omega)
        have hnn : ¬ sp_enc (some j) < 0 := fun z => by have := (hi_lt hij hi_t0).mp z; omega
        have hej : sp_enc (some j) = nI j := rfl
        by_cases hl : least
        · rw [if_pos hl] at hb
          subst hb
          simp only [if_pos hl] at ih
          have J72 : ∀ v : Int32, (v = 1 ∧ (hd k < hd j) ∨ v = 0 ∧ ¬ (hd k < hd j)) → hn_B 1 hm_M_nextOf (fun r D' => D' = (I, J, R) ∧ r = some (.int (sp_enc (sp_pick hd s least n)))) 72 [.ref 188, .int s, .int 1, .int (sp_enc (some j)), .int (nI k), l] [.int v] (I, J, R) := by
            intro v hv
            rcases hv with ⟨rfl, hv⟩ | ⟨rfl, hv⟩
            · rw [if_pos hv] at ih
              refine b_istore rfl (Nat.le_of_ble_eq_true rfl) ?_
              refine b_iload rfl rfl ?_
              refine b_if_eq rfl (fun c_76 => ?_) (fun c_76 => ?_)
              · exact absurd c_76 (by decide)
              · refine b_iload rfl rfl ?_
                refine b_goto rfl ?_
                refine b_istore_n rfl (Nat.le_of_ble_eq_true rfl) ?_
                refine b_iinc rfl rfl (Nat.le_of_ble_eq_true rfl) ?_
                refine b_goto rfl ?_
                exact b_eq (ih _) (by rw [nI_succ]; rfl) rfl rfl
            · rw [if_neg hv] at ih
              refine b_istore rfl (Nat.le_of_ble_eq_true rfl) ?_
              refine b_iload rfl rfl ?_
              refine b_if_eq rfl (fun c_76 => ?_) (fun c_76 => ?_)
              · refine b_iload_n rfl rfl ?_
                refine b_istore_n rfl (Nat.le_of_ble_eq_true rfl) ?_
                refine b_iinc rfl rfl (Nat.le_of_ble_eq_true rfl) ?_
                refine b_goto rfl ?_
                exact b_eq (ih _) (by rw [nI_succ]; rfl) rfl rfl
              · exact absurd rfl c_76
          refine b_iload rfl rfl ?_
          refine b_aload_n rfl rfl ?_
          refine b_callV rfl rfl hk_M_knots rfl rfl rfl (by first | rfl | assumption) rfl (Nat.le_of_ble_eq_true rfl) (q_M_knots hM hn) (Nat.le_of_ble_eq_true rfl) (fun r_8 D_8 q_8 => ?_)
          obtain ⟨rfl, rfl⟩ := q_8
          refine b_icmp_ge rfl (fun c_11 => ?_) (fun c_11 => ?_)
          · exact absurd c_11 (nI_ge hk (by omega))
          · refine b_iload_n rfl rfl ?_
            refine b_iload rfl rfl ?_
            refine b_ishr rfl ?_
            refine b_iconst rfl ?_
            refine b_iand rfl ?_
            refine b_iconst rfl ?_
            refine b_icmp_ne rfl (fun c_21 => ?_) (fun c_21 => ?_)
            · exact absurd hs1 c_21
            · refine b_iload_n rfl rfl ?_
              refine b_if_lt rfl (fun c_25 => ?_) (fun c_25 => ?_)
              · exact absurd c_25 hnn
              · refine b_iload_n rfl rfl ?_
                refine b_if_eq rfl (fun c_29 => ?_) (fun c_29 => ?_)
                · exact absurd c_29 (by decide)
                · refine b_aload_n rfl rfl ?_
                  refine b_iload rfl rfl ?_
                  refine b_iconst rfl ?_
                  refine b_callV rfl rfl hk_M_knotOf rfl rfl rfl (by first | rfl | assumption) rfl (Nat.le_of_ble_eq_true rfl) (q_M_knotOf (w := 1) hM (by omega) rfl (by omega)) (Nat.le_of_ble_eq_true rfl) (fun r_36 D_36 q_36 => ?_)
                  obtain ⟨rfl, hq⟩ := q_36
                  rw [e1 k hk] at hq
                  subst hq
                  refine b_aload_n rfl rfl ?_
                  refine b_iload_n rfl rfl ?_
                  refine b_iconst rfl ?_
                  refine b_callV rfl rfl hk_M_knotOf rfl rfl rfl (by first | rfl | assumption) rfl (Nat.le_of_ble_eq_true rfl) (q_M_knotOf (w := 1) hM (show j < 8 by omega) rfl (by omega)) (Nat.le_of_ble_eq_true rfl) (fun r_42 D_42 q_42 => ?_)
                  obtain ⟨rfl, hq⟩ := q_42
                  rw [e1 j (by omega)] at hq
                  subst hq
                  refine b_icmp_ge rfl (fun c_45 => ?_) (fun c_45 => ?_)
                  · refine b_iconst rfl ?_
                    first | exact J72 _ (Or.inl ⟨rfl, Int32.not_le.mp c_45⟩) | exact J72 _ (Or.inr ⟨rfl, Int32.not_lt.mpr c_45⟩)
                  · refine b_goto rfl ?_
                    refine b_iconst rfl ?_
                    refine b_goto rfl ?_
                    first | exact J72 _ (Or.inl ⟨rfl, Int32.not_le.mp c_45⟩) | exact J72 _ (Or.inr ⟨rfl, Int32.not_lt.mpr c_45⟩)
        · rw [if_neg hl] at hb
          subst hb
          simp only [if_neg hl] at ih
          have J72 : ∀ v : Int32, (v = 1 ∧ (hd j < hd k) ∨ v = 0 ∧ ¬ (hd j < hd k)) → hn_B 1 hm_M_nextOf (fun r D' => D' = (I, J, R) ∧ r = some (.int (sp_enc (sp_pick hd s least n)))) 72 [.ref 188, .int s, .int 0, .int (sp_enc (some j)), .int (nI k), l] [.int v] (I, J, R) := by
            intro v hv
            rcases hv with ⟨rfl, hv⟩ | ⟨rfl, hv⟩
            · rw [if_pos hv] at ih
              refine b_istore rfl (Nat.le_of_ble_eq_true rfl) ?_
              refine b_iload rfl rfl ?_
              refine b_if_eq rfl (fun c_76 => ?_) (fun c_76 => ?_)
              · exact absurd c_76 (by decide)
              · refine b_iload rfl rfl ?_
                refine b_goto rfl ?_
                refine b_istore_n rfl (Nat.le_of_ble_eq_true rfl) ?_
                refine b_iinc rfl rfl (Nat.le_of_ble_eq_true rfl) ?_
                refine b_goto rfl ?_
                exact b_eq (ih _) (by rw [nI_succ]; rfl) rfl rfl
            · rw [if_neg hv] at ih
              refine b_istore rfl (Nat.le_of_ble_eq_true rfl) ?_
              refine b_iload rfl rfl ?_
              refine b_if_eq rfl (fun c_76 => ?_) (fun c_76 => ?_)
              · refine b_iload_n rfl rfl ?_
                refine b_istore_n rfl (Nat.le_of_ble_eq_true rfl) ?_
                refine b_iinc rfl rfl (Nat.le_of_ble_eq_true rfl) ?_
                refine b_goto rfl ?_
                exact b_eq (ih _) (by rw [nI_succ]; rfl) rfl rfl
              · exact absurd rfl c_76
          refine b_iload rfl rfl ?_
          refine b_aload_n rfl rfl ?_
          refine b_callV rfl rfl hk_M_knots rfl rfl rfl (by first | rfl | assumption) rfl (Nat.le_of_ble_eq_true rfl) (q_M_knots hM hn) (Nat.le_of_ble_eq_true rfl) (fun r_8 D_8 q_8 => ?_)
          obtain ⟨rfl, rfl⟩ := q_8
          refine b_icmp_ge rfl (fun c_11 => ?_) (fun c_11 => ?_)
          · exact absurd c_11 (nI_ge hk (by omega))
          · refine b_iload_n rfl rfl ?_
            refine b_iload rfl rfl ?_
            refine b_ishr rfl ?_
            refine b_iconst rfl ?_
            refine b_iand rfl ?_
            refine b_iconst rfl ?_
            refine b_icmp_ne rfl (fun c_21 => ?_) (fun c_21 => ?_)
            · exact absurd hs1 c_21
            · refine b_iload_n rfl rfl ?_
              refine b_if_lt rfl (fun c_25 => ?_) (fun c_25 => ?_)
              · exact absurd c_25 hnn
              · refine b_iload_n rfl rfl ?_
                refine b_if_eq rfl (fun c_29 => ?_) (fun c_29 => ?_)
                · refine b_aload_n rfl rfl ?_
                  refine b_iload rfl rfl ?_
                  refine b_iconst rfl ?_
                  refine b_callV rfl rfl hk_M_knotOf rfl rfl rfl (by first | rfl | assumption) rfl (Nat.le_of_ble_eq_true rfl) (q_M_knotOf (w := 1) hM (by omega) rfl (by omega)) (Nat.le_of_ble_eq_true rfl) (fun r_55 D_55 q_55 => ?_)
                  obtain ⟨rfl, hq⟩ := q_55
                  rw [e1 k hk] at hq
                  subst hq
                  refine b_aload_n rfl rfl ?_
                  refine b_iload_n rfl rfl ?_
                  refine b_iconst rfl ?_
                  refine b_callV rfl rfl hk_M_knotOf rfl rfl rfl (by first | rfl | assumption) rfl (Nat.le_of_ble_eq_true rfl) (q_M_knotOf (w := 1) hM (show j < 8 by omega) rfl (by omega)) (Nat.le_of_ble_eq_true rfl) (fun r_61 D_61 q_61 => ?_)
                  obtain ⟨rfl, hq⟩ := q_61
                  rw [e1 j (by omega)] at hq
                  subst hq
                  refine b_icmp_le rfl (fun c_64 => ?_) (fun c_64 => ?_)
                  · refine b_iconst rfl ?_
                    first | exact J72 _ (Or.inl ⟨rfl, Int32.not_le.mp c_64⟩) | exact J72 _ (Or.inr ⟨rfl, Int32.not_lt.mpr c_64⟩)
                  · refine b_iconst rfl ?_
                    refine b_goto rfl ?_
                    first | exact J72 _ (Or.inl ⟨rfl, Int32.not_le.mp c_64⟩) | exact J72 _ (Or.inr ⟨rfl, Int32.not_lt.mpr c_64⟩)
                · exact absurd rfl c_29
    · rw [if_neg hs] at ih
      have hs1 : ¬ _ := fun z => hs ((hi_bit1 _).mp z)
      refine b_iload rfl rfl ?_
      refine b_aload_n rfl rfl ?_
      refine b_callV rfl rfl hk_M_knots rfl rfl rfl (by first | rfl | assumption) rfl (Nat.le_of_ble_eq_true rfl) (q_M_knots hM hn) (Nat.le_of_ble_eq_true rfl) (fun r_8 D_8 q_8 => ?_)
      obtain ⟨rfl, rfl⟩ := q_8
      refine b_icmp_ge rfl (fun c_11 => ?_) (fun c_11 => ?_)
      · exact absurd c_11 (nI_ge hk (by omega))
      · refine b_iload_n rfl rfl ?_
        refine b_iload rfl rfl ?_
        refine b_ishr rfl ?_
        refine b_iconst rfl ?_
        refine b_iand rfl ?_
        refine b_iconst rfl ?_
        refine b_icmp_ne rfl (fun c_21 => ?_) (fun c_21 => ?_)
        · refine b_iconst rfl ?_
          refine b_istore rfl (Nat.le_of_ble_eq_true rfl) ?_
          refine b_iload rfl rfl ?_
          refine b_if_eq rfl (fun c_76 => ?_) (fun c_76 => ?_)
          · refine b_iload_n rfl rfl ?_
            refine b_istore_n rfl (Nat.le_of_ble_eq_true rfl) ?_
            refine b_iinc rfl rfl (Nat.le_of_ble_eq_true rfl) ?_
            refine b_goto rfl ?_
            exact b_eq (ih _) (by rw [nI_succ]; rfl) rfl rfl
          · exact absurd rfl c_76
        · exact absurd c_21 hs1
end HNmgo
