section HNadvance
variable {I I' : Nat → Nat → Int32} {J J' : Nat → Nat → Int64} {R R' : Nat → Nat → Option Nat}
theorem q_Tape_readNumber {f : Nat → Nat} {n q : Nat} (hr : R 1 0 = some 2) (hS : hs_Sg I f n) (h1 : I 1 1 = nI n) (h2 : I 1 2 = nI q) (h3 : I 1 3 = nI q) (hq : q < n) (hw0 : R 1 5 = some 5000) : hn_F 0 hm_Tape_readNumber [.ref 1] (I, J, R) (fun r D' => r = none ∧ ∃ I2 J2 R2, D' = (I2, J2, R2) ∧ hs_tf I J R I2 J2 R2 ∧ hs_Tk I2 J2 R2 n (if 4 < run isD f (n - q) q - q then 4 else 2, q, run isD f (n - q) q, num f q (run isD f (n - q) q - q))) := by
  have k2 : hn_kind 2 = (4, 1000) := rfl
  obtain ⟨hn, hSg⟩ := hS
  refine hn_F_of _ hk_Tape_readNumber rfl (Nat.le_of_ble_eq_true rfl) ?_
  obtain ⟨e, he⟩ : ∃ e, e = run isD f (n - q) q := ⟨_, rfl⟩
  obtain ⟨P, hPd⟩ : ∃ P : Option Value → hnD → Prop, P = (fun r D' => r = none ∧ ∃ I2 J2 R2, D' = (I2, J2, R2) ∧ hs_tf I J R I2 J2 R2 ∧ hs_Tk I2 J2 R2 n (if 4 < run isD f (n - q) q - q then 4 else 2, q, run isD f (n - q) q, num f q (run isD f (n - q) q - q))) := ⟨_, rfl⟩
  rw [← hPd]
  rw [← he] at hPd
  have hle := run_le isD f (n - q) q
  rw [← he] at hle
  have S81 : ∀ I', hs_tf I J R I' J R → I' 1 1 = nI n → I' 1 2 = nI q → I' 1 3 = nI e → I' 1 7 = nI (num f q (e - q)) → hn_B 0 hm_Tape_readNumber P 81 [.ref 1] [] (I', J, R) := by
    intro I' ht a1 a2 a3 a7
    by_cases h8 : 4 < e - q
    · rw [if_pos h8] at hPd
      refine b_aload_n rfl rfl ?_
      refine b_aload_n rfl rfl ?_
      refine b_getI rfl (by first | rfl | assumption) rfl ?_
      rw [a3]
      refine b_aload_n rfl rfl ?_
      refine b_getI rfl (by first | rfl | assumption) rfl ?_
      rw [a2]
      refine b_isub rfl ?_
      rw [nI_sb hle.1]
      refine b_iconst rfl ?_
      refine b_icmp_le rfl (fun c_92 => ?_) (fun c_92 => ?_)
      · exact absurd ((nI_le_c (k := 4) (by omega) (by omega)).mp c_92) (by omega)
      · refine b_iconst rfl ?_
        refine b_goto rfl ?_
        refine b_putI rfl (by first | rfl | assumption) rfl rfl ⟨rfl, rfl⟩ ?_
        exact b_return_ rfl trivial ((by rw [hPd]; exact ⟨rfl, _, _, _, rfl, ⟨fun b hb => by rw [hn_u_ne _ _ _ hb]; exact ht.1 b hb, ht.2.1, ht.2.2.1, ht.2.2.2⟩, by rw [hn_u_eq, va_up, if_neg (by omega)]; exact a1, by rw [hn_u_eq, va_up, if_neg (by omega)]; exact a2, by rw [hn_u_eq, va_up, if_neg (by omega)]; exact a3, by rw [hn_u_eq, va_up, if_pos rfl]; rfl, hw0, fun z => absurd (show (4 : Nat) = 1 from z) (by decide), fun z => absurd (show (4 : Nat) = 2 from z) (by decide), fun z => absurd (show (4 : Nat) = 3 from z) (by decide)⟩))
    · rw [if_neg h8] at hPd
      refine b_aload_n rfl rfl ?_
      refine b_aload_n rfl rfl ?_
      refine b_getI rfl (by first | rfl | assumption) rfl ?_
      rw [a3]
      refine b_aload_n rfl rfl ?_
      refine b_getI rfl (by first | rfl | assumption) rfl ?_
      rw [a2]
      refine b_isub rfl ?_
      rw [nI_sb hle.1]
      refine b_iconst rfl ?_
      refine b_icmp_le rfl (fun c_92 => ?_) (fun c_92 => ?_)
      · refine b_iconst rfl ?_
        refine b_putI rfl (by first | rfl | assumption) rfl rfl ⟨rfl, rfl⟩ ?_
        exact b_return_ rfl trivial ((by rw [hPd]; exact ⟨rfl, _, _, _, rfl, ⟨fun b hb => by rw [hn_u_ne _ _ _ hb]; exact ht.1 b hb, ht.2.1, ht.2.2.1, ht.2.2.2⟩, by rw [hn_u_eq, va_up, if_neg (by omega)]; exact a1, by rw [hn_u_eq, va_up, if_neg (by omega)]; exact a2, by rw [hn_u_eq, va_up, if_neg (by omega)]; exact a3, by rw [hn_u_eq, va_up, if_pos rfl]; rfl, hw0, fun z => absurd (show (2 : Nat) = 1 from z) (by decide), fun _ => by rw [hn_u_eq, va_up, if_neg (by omega)]; exact a7, fun z => absurd (show (2 : Nat) = 3 from z) (by decide)⟩))
      · exact absurd ((nI_le_c (k := 4) (by omega) (by omega)).mpr (by omega)) c_92
  have lr : ∀ p, q ≤ p → p ≤ n → ∀ I', run isD f (n - p) p = e → hs_tf I J R I' J R → I' 1 1 = nI n → I' 1 2 = nI q → I' 1 3 = nI p → I' 1 7 = nI (num f q (p - q)) → hn_B 0 hm_Tape_readNumber P 5 [.ref 1] [] (I', J, R) := by
    intro p hqp hpn
    refine sp_indk p n hpn (fun p => q ≤ p → ∀ I', run isD f (n - p) p = e → hs_tf I J R I' J R → I' 1 1 = nI n → I' 1 2 = nI q → I' 1 3 = nI p → I' 1 7 = nI (num f q (p - q)) → hn_B 0 hm_Tape_readNumber P 5 [.ref 1] [] (I', J, R)) ?_ ?_ hqp
    · intro _ I' hrun ht a1 a2 a3 a7
      have hen : n = e := by rw [← hrun, Nat.sub_self]; rfl
      rw [hen] at a3 a7
      refine b_aload_n rfl rfl ?_
      refine b_getI rfl (by first | rfl | assumption) rfl ?_
      rw [a3]
      refine b_aload_n rfl rfl ?_
      refine b_getI rfl (by first | rfl | assumption) rfl ?_
      rw [a1, hen]
      refine b_icmp_ge rfl (fun c_13 => ?_) (fun c_13 => ?_)
      · exact S81 I' ht a1 a2 a3 a7
      · exact absurd (nI_le (Nat.le_refl _) (by omega)) c_13
    · intro p hp0 hp ih hqp I' hrun ht a1 a2 a3 a7
      obtain ⟨ec, hc⟩ := hSg p hp
      have e2 : I' 2 p = nI (f p) := by rw [ht.1 2 (by omega)]; exact ec
      have i48 : nI (f p) < 48 ↔ f p < 48 := nI_lt_c (k := 48) (by omega) (by omega)
      have i57 : 57 < nI (f p) ↔ 57 < f p := nI_lt_c (c := 57) (by omega) (by omega)
      by_cases hlp : isD (f p)
      · rw [run_y hp hlp] at hrun
        have hw : num f q (p + 1 - q) = num f q (p - q) * 10 + (f p - 48) := by
          rw [show p + 1 - q = p - q + 1 by omega]
          show num f q (p - q) * 10 + (f (q + (p - q)) - 48) = _
          rw [show q + (p - q) = p by omega]
        refine b_aload_n rfl rfl ?_
        refine b_getI rfl (by first | rfl | assumption) rfl ?_
        rw [a3]
        refine b_aload_n rfl rfl ?_
        refine b_getI rfl (by first | rfl | assumption) rfl ?_
        rw [a1]
        refine b_icmp_ge rfl (fun c_13 => ?_) (fun c_13 => ?_)
        · exact absurd c_13 (nI_ge hp (by omega))
        · refine b_aload_n rfl rfl ?_
          refine b_getR rfl (by first | rfl | assumption) rfl (by assumption) ?_
          refine b_aload_n rfl rfl ?_
          refine b_getI rfl (by first | rfl | assumption) rfl ?_
          rw [a3]
          refine b_caload rfl (by first | rfl | assumption) (by first | assumption | exact nI_toInt (by omega) | exact hi_l0 | exact hi_l1 | exact hi_l2 | exact hi_l3 | exact hi_l4 | exact hi_l5 | exact hi_l6) (by omega) ?_
          rw [e2]
          refine b_bipush rfl ?_
          refine b_icmp_lt rfl (fun c_27 => ?_) (fun c_27 => ?_)
          · exact absurd (i48.mp c_27) (by omega)
          · refine b_aload_n rfl rfl ?_
            refine b_getR rfl (by first | rfl | assumption) rfl (by assumption) ?_
            refine b_aload_n rfl rfl ?_
            refine b_getI rfl (by first | rfl | assumption) rfl ?_
            rw [a3]
            refine b_caload rfl (by first | rfl | assumption) (by first | assumption | exact nI_toInt (by omega) | exact hi_l0 | exact hi_l1 | exact hi_l2 | exact hi_l3 | exact hi_l4 | exact hi_l5 | exact hi_l6) (by omega) ?_
            rw [e2]
            refine b_bipush rfl ?_
            refine b_icmp_gt rfl (fun c_41 => ?_) (fun c_41 => ?_)
            · exact absurd (i57.mp c_41) (by omega)
            · refine b_aload_n rfl rfl ?_
              refine b_aload_n rfl rfl ?_
              refine b_getI rfl (by first | rfl | assumption) rfl ?_
              rw [a7]
              refine b_bipush rfl ?_
              refine b_imul rfl ?_
              refine b_aload_n rfl rfl ?_
              refine b_getR rfl (by first | rfl | assumption) rfl (by assumption) ?_
              refine b_aload_n rfl rfl ?_
              refine b_getI rfl (by first | rfl | assumption) rfl ?_
              rw [a3]
              refine b_caload rfl (by first | rfl | assumption) (by first | assumption | exact nI_toInt (by omega) | exact hi_l0 | exact hi_l1 | exact hi_l2 | exact hi_l3 | exact hi_l4 | exact hi_l5 | exact hi_l6) (by omega) ?_
              rw [e2]
              refine b_bipush rfl ?_
              refine b_isub rfl ?_
              rw [ch_d hlp]
              refine b_iadd rfl ?_
              rw [← nI_sd, ← hw]
              refine b_putI rfl (by first | rfl | assumption) rfl rfl ⟨rfl, rfl⟩ ?_
              refine b_aload_n rfl rfl ?_
              refine b_dup rfl rfl ?_
              refine b_getI rfl (by first | rfl | assumption) rfl ?_
              rw [hn_u_eq, va_up, if_neg (show ¬ (3 : Nat) = 7 by omega), a3]
              refine b_iconst rfl ?_
              refine b_iadd rfl ?_
              rw [← nI_succ]
              refine b_putI rfl (by first | rfl | assumption) rfl rfl ⟨rfl, rfl⟩ ?_
              refine b_goto rfl ?_
              exact ih (by omega) _ hrun ⟨fun b hb => by rw [hn_u_ne _ _ _ hb, hn_u_ne _ _ _ hb]; exact ht.1 b hb, ht.2.1, ht.2.2.1, ht.2.2.2⟩ (by rw [hn_u_eq, va_up, if_neg (by omega), hn_u_eq, va_up, if_neg (by omega)]; exact a1) (by rw [hn_u_eq, va_up, if_neg (by omega), hn_u_eq, va_up, if_neg (by omega)]; exact a2) (by rw [hn_u_eq, va_up, if_pos rfl]) (by rw [hn_u_eq, va_up, if_neg (by omega), hn_u_eq, va_up, if_pos rfl])
      · have hen : p = e := by rw [← hrun, run_n (fun _ => hlp)]
        by_cases h97 : f p < 48
        · refine b_aload_n rfl rfl ?_
          refine b_getI rfl (by first | rfl | assumption) rfl ?_
          rw [a3]
          refine b_aload_n rfl rfl ?_
          refine b_getI rfl (by first | rfl | assumption) rfl ?_
          rw [a1]
          refine b_icmp_ge rfl (fun c_13 => ?_) (fun c_13 => ?_)
          · exact absurd c_13 (nI_ge hp (by omega))
          · refine b_aload_n rfl rfl ?_
            refine b_getR rfl (by first | rfl | assumption) rfl (by assumption) ?_
            refine b_aload_n rfl rfl ?_
            refine b_getI rfl (by first | rfl | assumption) rfl ?_
            rw [a3]
            refine b_caload rfl (by first | rfl | assumption) (by first | assumption | exact nI_toInt (by omega) | exact hi_l0 | exact hi_l1 | exact hi_l2 | exact hi_l3 | exact hi_l4 | exact hi_l5 | exact hi_l6) (by omega) ?_
            rw [e2]
            refine b_bipush rfl ?_
            refine b_icmp_lt rfl (fun c_27 => ?_) (fun c_27 => ?_)
            · exact S81 I' ht a1 a2 (by rw [← hen]; exact a3) (by rw [← hen]; exact a7)
            · exact absurd (i48.mpr h97) c_27
        · refine b_aload_n rfl rfl ?_
          refine b_getI rfl (by first | rfl | assumption) rfl ?_
          rw [a3]
          refine b_aload_n rfl rfl ?_
          refine b_getI rfl (by first | rfl | assumption) rfl ?_
          rw [a1]
          refine b_icmp_ge rfl (fun c_13 => ?_) (fun c_13 => ?_)
          · exact absurd c_13 (nI_ge hp (by omega))
          · refine b_aload_n rfl rfl ?_
            refine b_getR rfl (by first | rfl | assumption) rfl (by assumption) ?_
            refine b_aload_n rfl rfl ?_
            refine b_getI rfl (by first | rfl | assumption) rfl ?_
            rw [a3]
            refine b_caload rfl (by first | rfl | assumption) (by first | assumption | exact nI_toInt (by omega) | exact hi_l0 | exact hi_l1 | exact hi_l2 | exact hi_l3 | exact hi_l4 | exact hi_l5 | exact hi_l6) (by omega) ?_
            rw [e2]
            refine b_bipush rfl ?_
            refine b_icmp_lt rfl (fun c_27 => ?_) (fun c_27 => ?_)
            · exact absurd (i48.mp c_27) h97
            · refine b_aload_n rfl rfl ?_
              refine b_getR rfl (by first | rfl | assumption) rfl (by assumption) ?_
              refine b_aload_n rfl rfl ?_
              refine b_getI rfl (by first | rfl | assumption) rfl ?_
              rw [a3]
              refine b_caload rfl (by first | rfl | assumption) (by first | assumption | exact nI_toInt (by omega) | exact hi_l0 | exact hi_l1 | exact hi_l2 | exact hi_l3 | exact hi_l4 | exact hi_l5 | exact hi_l6) (by omega) ?_
              rw [e2]
              refine b_bipush rfl ?_
              refine b_icmp_gt rfl (fun c_41 => ?_) (fun c_41 => ?_)
              · exact S81 I' ht a1 a2 (by rw [← hen]; exact a3) (by rw [← hen]; exact a7)
              · exact absurd (i57.mpr (by omega)) c_41
  refine b_aload_n rfl rfl ?_
  refine b_iconst rfl ?_
  refine b_putI rfl (by first | rfl | assumption) rfl rfl ⟨rfl, rfl⟩ ?_
  exact lr q (Nat.le_refl _) (by omega) _ he.symm ⟨fun b hb => hn_u_ne _ _ _ hb, fun _ _ => rfl, fun _ _ => rfl, fun _ _ => rfl⟩ (by rw [hn_u_eq, va_up, if_neg (by omega)]; exact h1) (by rw [hn_u_eq, va_up, if_neg (by omega)]; exact h2) (by rw [hn_u_eq, va_up, if_neg (by omega)]; exact h3) (by rw [hn_u_eq, va_up, if_pos rfl, Nat.sub_self]; rfl)
theorem isS_iff {c : Nat} (h : c < 128) : isS c ↔ (nI c = 40 ∨ nI c = 41 ∨ nI c = 60 ∨ nI c = 61 ∨ nI c = 43 ∨ nI c = 45 ∨ nI c = 42 ∨ nI c = 59) := by
  have key : ∀ c : Fin 128, isS c.val ↔ (nI c.val = 40 ∨ nI c.val = 41 ∨ nI c.val = 60 ∨ nI c.val = 61 ∨ nI c.val = 43 ∨ nI c.val = 45 ∨ nI c.val = 42 ∨ nI c.val = 59) := by decide +kernel
  exact key ⟨c, h⟩
theorem ft_ch {c : Nat} (h : c < 128) : narrow (hn_ft 1 8) (.int (nI c)) = .int (nI c) ∧ fits (hn_ft 1 8) (.int (nI c)) = true := by
  have key : ∀ c : Fin 128, narrow (hn_ft 1 8) (.int (nI c.val)) = .int (nI c.val) ∧ fits (hn_ft 1 8) (.int (nI c.val)) = true := by decide +kernel
  exact key ⟨c, h⟩
theorem q_Tape_readSign {c n q : Nat} (h1 : I 1 1 = nI n) (h2 : I 1 2 = nI q) (hc : c < 128) (hw0 : R 1 5 = some 5000) : hn_F 0 hm_Tape_readSign [.ref 1, .int (nI c)] (I, J, R) (fun r D' => r = none ∧ ∃ I2 J2 R2, D' = (I2, J2, R2) ∧ hs_tf I J R I2 J2 R2 ∧ hs_Tk I2 J2 R2 n (if isS c then 3 else 4, q, q + 1, c)) := by
  refine hn_F_of _ hk_Tape_readSign rfl (Nat.le_of_ble_eq_true rfl) ?_
  obtain ⟨I1, hI1⟩ : ∃ z, z = hn_u (hn_u I 1 8 (nI c)) 1 3 (nI q + 1) := ⟨_, rfl⟩
  have a1 : I1 1 1 = nI n := by rw [hI1, hn_u_eq, va_up, if_neg (by omega), hn_u_eq, va_up, if_neg (by omega)]; exact h1
  have a2 : I1 1 2 = nI q := by rw [hI1, hn_u_eq, va_up, if_neg (by omega), hn_u_eq, va_up, if_neg (by omega)]; exact h2
  have a3 : I1 1 3 = nI (q + 1) := by rw [hI1, hn_u_eq, va_up, if_pos rfl, nI_succ]
  have a8 : I1 1 8 = nI c := by rw [hI1, hn_u_eq, va_up, if_neg (by omega), hn_u_eq, va_up, if_pos rfl]
  have af : ∀ b, b ≠ 1 → I1 b = I b := fun b hb => by rw [hI1, hn_u_ne _ _ _ hb, hn_u_ne _ _ _ hb]
  have hS := isS_iff hc
  obtain ⟨P, hPd⟩ : ∃ P : Option Value → hnD → Prop, P = (fun r D' => r = none ∧ ∃ I2 J2 R2, D' = (I2, J2, R2) ∧ hs_tf I J R I2 J2 R2 ∧ hs_Tk I2 J2 R2 n (if isS c then 3 else 4, q, q + 1, c)) := ⟨_, rfl⟩
  rw [← hPd]
  have S68 : ∀ b : Int32, fg (isS c) b → hn_B 0 hm_Tape_readSign P 68 [.ref 1, .int (nI c), .null] [.int b] (I1, J, R) := by
    intro b hb
    rcases hb with ⟨hy, rfl⟩ | ⟨hy, rfl⟩
    · rw [if_pos hy] at hPd
      refine b_istore_n rfl (Nat.le_of_ble_eq_true rfl) ?_
      refine b_aload_n rfl rfl ?_
      refine b_iload_n rfl rfl ?_
      refine b_if_eq rfl (fun c_71 => ?_) (fun c_71 => ?_)
      · exact absurd c_71 (by decide)
      · refine b_iconst rfl ?_
        refine b_goto rfl ?_
        refine b_putI rfl (by first | rfl | assumption) rfl rfl ⟨rfl, rfl⟩ ?_
        exact b_return_ rfl trivial ((by rw [hPd]; exact ⟨rfl, _, _, _, rfl, ⟨fun b hb => by rw [hn_u_ne _ _ _ hb]; exact af b hb, fun _ _ => rfl, fun _ _ => rfl, fun _ _ => rfl⟩, by rw [hn_u_eq, va_up, if_neg (by omega)]; exact a1, by rw [hn_u_eq, va_up, if_neg (by omega)]; exact a2, by rw [hn_u_eq, va_up, if_neg (by omega)]; exact a3, by rw [hn_u_eq, va_up, if_pos rfl]; rfl, hw0, fun z => absurd (show (3 : Nat) = 1 from z) (by decide), fun z => absurd (show (3 : Nat) = 2 from z) (by decide), fun _ => by rw [hn_u_eq, va_up, if_neg (by omega)]; exact a8⟩))
    · rw [if_neg hy] at hPd
      refine b_istore_n rfl (Nat.le_of_ble_eq_true rfl) ?_
      refine b_aload_n rfl rfl ?_
      refine b_iload_n rfl rfl ?_
      refine b_if_eq rfl (fun c_71 => ?_) (fun c_71 => ?_)
      · refine b_iconst rfl ?_
        refine b_putI rfl (by first | rfl | assumption) rfl rfl ⟨rfl, rfl⟩ ?_
        exact b_return_ rfl trivial ((by rw [hPd]; exact ⟨rfl, _, _, _, rfl, ⟨fun b hb => by rw [hn_u_ne _ _ _ hb]; exact af b hb, fun _ _ => rfl, fun _ _ => rfl, fun _ _ => rfl⟩, by rw [hn_u_eq, va_up, if_neg (by omega)]; exact a1, by rw [hn_u_eq, va_up, if_neg (by omega)]; exact a2, by rw [hn_u_eq, va_up, if_neg (by omega)]; exact a3, by rw [hn_u_eq, va_up, if_pos rfl]; rfl, hw0, fun z => absurd (show (4 : Nat) = 1 from z) (by decide), fun z => absurd (show (4 : Nat) = 2 from z) (by decide), fun z => absurd (show (4 : Nat) = 3 from z) (by decide)⟩))
      · exact absurd rfl c_71
  refine b_aload_n rfl rfl ?_
  refine b_iload_n rfl rfl ?_
  refine b_putI rfl (by first | rfl | assumption) rfl rfl (ft_ch hc) ?_
  refine b_aload_n rfl rfl ?_
  refine b_aload_n rfl rfl ?_
  refine b_getI rfl (by first | rfl | assumption) rfl ?_
  rw [hn_u_eq, va_up, if_neg (show ¬ (2 : Nat) = 8 by omega), h2]
  refine b_iconst rfl ?_
  refine b_iadd rfl ?_
  refine b_putI rfl (by first | rfl | assumption) rfl rfl ⟨rfl, rfl⟩ ?_
  rw [← hI1]
  refine b_iload_n rfl rfl ?_
  refine b_bipush rfl ?_
  refine b_icmp_eq rfl (fun c_18 => ?_) (fun c_18 => ?_)
  · refine b_iconst rfl ?_
    refine b_goto rfl ?_
    first | exact S68 1 (Or.inl ⟨hS.mpr (Or.inl c_18), rfl⟩) | exact S68 1 (Or.inl ⟨hS.mpr (Or.inr (Or.inl c_24)), rfl⟩) | exact S68 1 (Or.inl ⟨hS.mpr (Or.inr (Or.inr (Or.inl c_30))), rfl⟩) | exact S68 1 (Or.inl ⟨hS.mpr (Or.inr (Or.inr (Or.inr (Or.inl c_36)))), rfl⟩) | exact S68 1 (Or.inl ⟨hS.mpr (Or.inr (Or.inr (Or.inr (Or.inr (Or.inl c_42))))), rfl⟩) | exact S68 1 (Or.inl ⟨hS.mpr (Or.inr (Or.inr (Or.inr (Or.inr (Or.inr (Or.inl c_48)))))), rfl⟩) | exact S68 1 (Or.inl ⟨hS.mpr (Or.inr (Or.inr (Or.inr (Or.inr (Or.inr (Or.inr (Or.inl c_54))))))), rfl⟩) | exact S68 1 (Or.inl ⟨hS.mpr (Or.inr (Or.inr (Or.inr (Or.inr (Or.inr (Or.inr (Or.inr c_60))))))), rfl⟩) | exact S68 0 (Or.inr ⟨fun z => by rcases hS.mp z with h | h | h | h | h | h | h | h; exact c_18 h; exact c_24 h; exact c_30 h; exact c_36 h; exact c_42 h; exact c_48 h; exact c_54 h; exact c_60 h, rfl⟩)
  · refine b_iload_n rfl rfl ?_
    refine b_bipush rfl ?_
    refine b_icmp_eq rfl (fun c_24 => ?_) (fun c_24 => ?_)
    · refine b_iconst rfl ?_
      refine b_goto rfl ?_
      first | exact S68 1 (Or.inl ⟨hS.mpr (Or.inl c_18), rfl⟩) | exact S68 1 (Or.inl ⟨hS.mpr (Or.inr (Or.inl c_24)), rfl⟩) | exact S68 1 (Or.inl ⟨hS.mpr (Or.inr (Or.inr (Or.inl c_30))), rfl⟩) | exact S68 1 (Or.inl ⟨hS.mpr (Or.inr (Or.inr (Or.inr (Or.inl c_36)))), rfl⟩) | exact S68 1 (Or.inl ⟨hS.mpr (Or.inr (Or.inr (Or.inr (Or.inr (Or.inl c_42))))), rfl⟩) | exact S68 1 (Or.inl ⟨hS.mpr (Or.inr (Or.inr (Or.inr (Or.inr (Or.inr (Or.inl c_48)))))), rfl⟩) | exact S68 1 (Or.inl ⟨hS.mpr (Or.inr (Or.inr (Or.inr (Or.inr (Or.inr (Or.inr (Or.inl c_54))))))), rfl⟩) | exact S68 1 (Or.inl ⟨hS.mpr (Or.inr (Or.inr (Or.inr (Or.inr (Or.inr (Or.inr (Or.inr c_60))))))), rfl⟩) | exact S68 0 (Or.inr ⟨fun z => by rcases hS.mp z with h | h | h | h | h | h | h | h; exact c_18 h; exact c_24 h; exact c_30 h; exact c_36 h; exact c_42 h; exact c_48 h; exact c_54 h; exact c_60 h, rfl⟩)
    · refine b_iload_n rfl rfl ?_
      refine b_bipush rfl ?_
      refine b_icmp_eq rfl (fun c_30 => ?_) (fun c_30 => ?_)
      · refine b_iconst rfl ?_
        refine b_goto rfl ?_
        first | exact S68 1 (Or.inl ⟨hS.mpr (Or.inl c_18), rfl⟩) | exact S68 1 (Or.inl ⟨hS.mpr (Or.inr (Or.inl c_24)), rfl⟩) | exact S68 1 (Or.inl ⟨hS.mpr (Or.inr (Or.inr (Or.inl c_30))), rfl⟩) | exact S68 1 (Or.inl ⟨hS.mpr (Or.inr (Or.inr (Or.inr (Or.inl c_36)))), rfl⟩) | exact S68 1 (Or.inl ⟨hS.mpr (Or.inr (Or.inr (Or.inr (Or.inr (Or.inl c_42))))), rfl⟩) | exact S68 1 (Or.inl ⟨hS.mpr (Or.inr (Or.inr (Or.inr (Or.inr (Or.inr (Or.inl c_48)))))), rfl⟩) | exact S68 1 (Or.inl ⟨hS.mpr (Or.inr (Or.inr (Or.inr (Or.inr (Or.inr (Or.inr (Or.inl c_54))))))), rfl⟩) | exact S68 1 (Or.inl ⟨hS.mpr (Or.inr (Or.inr (Or.inr (Or.inr (Or.inr (Or.inr (Or.inr c_60))))))), rfl⟩) | exact S68 0 (Or.inr ⟨fun z => by rcases hS.mp z with h | h | h | h | h | h | h | h; exact c_18 h; exact c_24 h; exact c_30 h; exact c_36 h; exact c_42 h; exact c_48 h; exact c_54 h; exact c_60 h, rfl⟩)
      · refine b_iload_n rfl rfl ?_
        refine b_bipush rfl ?_
        refine b_icmp_eq rfl (fun c_36 => ?_) (fun c_36 => ?_)
        · refine b_iconst rfl ?_
          refine b_goto rfl ?_
          first | exact S68 1 (Or.inl ⟨hS.mpr (Or.inl c_18), rfl⟩) | exact S68 1 (Or.inl ⟨hS.mpr (Or.inr (Or.inl c_24)), rfl⟩) | exact S68 1 (Or.inl ⟨hS.mpr (Or.inr (Or.inr (Or.inl c_30))), rfl⟩) | exact S68 1 (Or.inl ⟨hS.mpr (Or.inr (Or.inr (Or.inr (Or.inl c_36)))), rfl⟩) | exact S68 1 (Or.inl ⟨hS.mpr (Or.inr (Or.inr (Or.inr (Or.inr (Or.inl c_42))))), rfl⟩) | exact S68 1 (Or.inl ⟨hS.mpr (Or.inr (Or.inr (Or.inr (Or.inr (Or.inr (Or.inl c_48)))))), rfl⟩) | exact S68 1 (Or.inl ⟨hS.mpr (Or.inr (Or.inr (Or.inr (Or.inr (Or.inr (Or.inr (Or.inl c_54))))))), rfl⟩) | exact S68 1 (Or.inl ⟨hS.mpr (Or.inr (Or.inr (Or.inr (Or.inr (Or.inr (Or.inr (Or.inr c_60))))))), rfl⟩) | exact S68 0 (Or.inr ⟨fun z => by rcases hS.mp z with h | h | h | h | h | h | h | h; exact c_18 h; exact c_24 h; exact c_30 h; exact c_36 h; exact c_42 h; exact c_48 h; exact c_54 h; exact c_60 h, rfl⟩)
        · refine b_iload_n rfl rfl ?_
          refine b_bipush rfl ?_
          refine b_icmp_eq rfl (fun c_42 => ?_) (fun c_42 => ?_)
          · refine b_iconst rfl ?_
            refine b_goto rfl ?_
            first | exact S68 1 (Or.inl ⟨hS.mpr (Or.inl c_18), rfl⟩) | exact S68 1 (Or.inl ⟨hS.mpr (Or.inr (Or.inl c_24)), rfl⟩) | exact S68 1 (Or.inl ⟨hS.mpr (Or.inr (Or.inr (Or.inl c_30))), rfl⟩) | exact S68 1 (Or.inl ⟨hS.mpr (Or.inr (Or.inr (Or.inr (Or.inl c_36)))), rfl⟩) | exact S68 1 (Or.inl ⟨hS.mpr (Or.inr (Or.inr (Or.inr (Or.inr (Or.inl c_42))))), rfl⟩) | exact S68 1 (Or.inl ⟨hS.mpr (Or.inr (Or.inr (Or.inr (Or.inr (Or.inr (Or.inl c_48)))))), rfl⟩) | exact S68 1 (Or.inl ⟨hS.mpr (Or.inr (Or.inr (Or.inr (Or.inr (Or.inr (Or.inr (Or.inl c_54))))))), rfl⟩) | exact S68 1 (Or.inl ⟨hS.mpr (Or.inr (Or.inr (Or.inr (Or.inr (Or.inr (Or.inr (Or.inr c_60))))))), rfl⟩) | exact S68 0 (Or.inr ⟨fun z => by rcases hS.mp z with h | h | h | h | h | h | h | h; exact c_18 h; exact c_24 h; exact c_30 h; exact c_36 h; exact c_42 h; exact c_48 h; exact c_54 h; exact c_60 h, rfl⟩)
          · refine b_iload_n rfl rfl ?_
            refine b_bipush rfl ?_
            refine b_icmp_eq rfl (fun c_48 => ?_) (fun c_48 => ?_)
            · refine b_iconst rfl ?_
              refine b_goto rfl ?_
              first | exact S68 1 (Or.inl ⟨hS.mpr (Or.inl c_18), rfl⟩) | exact S68 1 (Or.inl ⟨hS.mpr (Or.inr (Or.inl c_24)), rfl⟩) | exact S68 1 (Or.inl ⟨hS.mpr (Or.inr (Or.inr (Or.inl c_30))), rfl⟩) | exact S68 1 (Or.inl ⟨hS.mpr (Or.inr (Or.inr (Or.inr (Or.inl c_36)))), rfl⟩) | exact S68 1 (Or.inl ⟨hS.mpr (Or.inr (Or.inr (Or.inr (Or.inr (Or.inl c_42))))), rfl⟩) | exact S68 1 (Or.inl ⟨hS.mpr (Or.inr (Or.inr (Or.inr (Or.inr (Or.inr (Or.inl c_48)))))), rfl⟩) | exact S68 1 (Or.inl ⟨hS.mpr (Or.inr (Or.inr (Or.inr (Or.inr (Or.inr (Or.inr (Or.inl c_54))))))), rfl⟩) | exact S68 1 (Or.inl ⟨hS.mpr (Or.inr (Or.inr (Or.inr (Or.inr (Or.inr (Or.inr (Or.inr c_60))))))), rfl⟩) | exact S68 0 (Or.inr ⟨fun z => by rcases hS.mp z with h | h | h | h | h | h | h | h; exact c_18 h; exact c_24 h; exact c_30 h; exact c_36 h; exact c_42 h; exact c_48 h; exact c_54 h; exact c_60 h, rfl⟩)
            · refine b_iload_n rfl rfl ?_
              refine b_bipush rfl ?_
              refine b_icmp_eq rfl (fun c_54 => ?_) (fun c_54 => ?_)
              · refine b_iconst rfl ?_
                refine b_goto rfl ?_
                first | exact S68 1 (Or.inl ⟨hS.mpr (Or.inl c_18), rfl⟩) | exact S68 1 (Or.inl ⟨hS.mpr (Or.inr (Or.inl c_24)), rfl⟩) | exact S68 1 (Or.inl ⟨hS.mpr (Or.inr (Or.inr (Or.inl c_30))), rfl⟩) | exact S68 1 (Or.inl ⟨hS.mpr (Or.inr (Or.inr (Or.inr (Or.inl c_36)))), rfl⟩) | exact S68 1 (Or.inl ⟨hS.mpr (Or.inr (Or.inr (Or.inr (Or.inr (Or.inl c_42))))), rfl⟩) | exact S68 1 (Or.inl ⟨hS.mpr (Or.inr (Or.inr (Or.inr (Or.inr (Or.inr (Or.inl c_48)))))), rfl⟩) | exact S68 1 (Or.inl ⟨hS.mpr (Or.inr (Or.inr (Or.inr (Or.inr (Or.inr (Or.inr (Or.inl c_54))))))), rfl⟩) | exact S68 1 (Or.inl ⟨hS.mpr (Or.inr (Or.inr (Or.inr (Or.inr (Or.inr (Or.inr (Or.inr c_60))))))), rfl⟩) | exact S68 0 (Or.inr ⟨fun z => by rcases hS.mp z with h | h | h | h | h | h | h | h; exact c_18 h; exact c_24 h; exact c_30 h; exact c_36 h; exact c_42 h; exact c_48 h; exact c_54 h; exact c_60 h, rfl⟩)
              · refine b_iload_n rfl rfl ?_
                refine b_bipush rfl ?_
                refine b_icmp_ne rfl (fun c_60 => ?_) (fun c_60 => ?_)
                · refine b_iconst rfl ?_
                  first | exact S68 1 (Or.inl ⟨hS.mpr (Or.inl c_18), rfl⟩) | exact S68 1 (Or.inl ⟨hS.mpr (Or.inr (Or.inl c_24)), rfl⟩) | exact S68 1 (Or.inl ⟨hS.mpr (Or.inr (Or.inr (Or.inl c_30))), rfl⟩) | exact S68 1 (Or.inl ⟨hS.mpr (Or.inr (Or.inr (Or.inr (Or.inl c_36)))), rfl⟩) | exact S68 1 (Or.inl ⟨hS.mpr (Or.inr (Or.inr (Or.inr (Or.inr (Or.inl c_42))))), rfl⟩) | exact S68 1 (Or.inl ⟨hS.mpr (Or.inr (Or.inr (Or.inr (Or.inr (Or.inr (Or.inl c_48)))))), rfl⟩) | exact S68 1 (Or.inl ⟨hS.mpr (Or.inr (Or.inr (Or.inr (Or.inr (Or.inr (Or.inr (Or.inl c_54))))))), rfl⟩) | exact S68 1 (Or.inl ⟨hS.mpr (Or.inr (Or.inr (Or.inr (Or.inr (Or.inr (Or.inr (Or.inr c_60))))))), rfl⟩) | exact S68 0 (Or.inr ⟨fun z => by rcases hS.mp z with h | h | h | h | h | h | h | h; exact c_18 h; exact c_24 h; exact c_30 h; exact c_36 h; exact c_42 h; exact c_48 h; exact c_54 h; exact c_60 h, rfl⟩)
                · refine b_iconst rfl ?_
                  refine b_goto rfl ?_
                  first | exact S68 1 (Or.inl ⟨hS.mpr (Or.inl c_18), rfl⟩) | exact S68 1 (Or.inl ⟨hS.mpr (Or.inr (Or.inl c_24)), rfl⟩) | exact S68 1 (Or.inl ⟨hS.mpr (Or.inr (Or.inr (Or.inl c_30))), rfl⟩) | exact S68 1 (Or.inl ⟨hS.mpr (Or.inr (Or.inr (Or.inr (Or.inl c_36)))), rfl⟩) | exact S68 1 (Or.inl ⟨hS.mpr (Or.inr (Or.inr (Or.inr (Or.inr (Or.inl c_42))))), rfl⟩) | exact S68 1 (Or.inl ⟨hS.mpr (Or.inr (Or.inr (Or.inr (Or.inr (Or.inr (Or.inl c_48)))))), rfl⟩) | exact S68 1 (Or.inl ⟨hS.mpr (Or.inr (Or.inr (Or.inr (Or.inr (Or.inr (Or.inr (Or.inl c_54))))))), rfl⟩) | exact S68 1 (Or.inl ⟨hS.mpr (Or.inr (Or.inr (Or.inr (Or.inr (Or.inr (Or.inr (Or.inr c_60))))))), rfl⟩) | exact S68 0 (Or.inr ⟨fun z => by rcases hS.mp z with h | h | h | h | h | h | h | h; exact c_18 h; exact c_24 h; exact c_30 h; exact c_36 h; exact c_42 h; exact c_48 h; exact c_54 h; exact c_60 h, rfl⟩)
theorem q_Tape_advance {f : Nat → Nat} {n p : Nat} (hr : R 1 0 = some 2) (hS : hs_Sg I f n) (h1 : I 1 1 = nI n) (h3 : I 1 3 = nI p) (hp : p ≤ n) : hn_F 1 hm_Tape_advance [.ref 1] (I, J, R) (fun r D' => r = none ∧ ∃ I2 J2 R2, D' = (I2, J2, R2) ∧ hs_tf I J R I2 J2 R2 ∧ hs_Tk I2 J2 R2 n (tok f n p)) := by
  have k2 : hn_kind 2 = (4, 1000) := rfl
  have hS0 := hS
  obtain ⟨hn, hSg⟩ := hS
  refine hn_F_of _ hk_Tape_advance rfl (Nat.le_of_ble_eq_true rfl) ?_
  obtain ⟨q, hqd⟩ : ∃ q, q = run isB f (n - p) p := ⟨_, rfl⟩
  have hle := run_le isB f (n - p) p
  rw [← hqd] at hle
  have htok : tok f n p = if n ≤ q then (0, q, q, 0)
    else if isL (f q) then (if 8 < run isL f (n - q) q - q then 4 else 1, q, run isL f (n - q) q, w27 f q (run isL f (n - q) q - q))
    else if isD (f q) then (if 4 < run isD f (n - q) q - q then 4 else 2, q, run isD f (n - q) q, num f q (run isD f (n - q) q - q))
    else (if isS (f q) then 3 else 4, q, q + 1, f q) := by unfold tok; rw [← hqd]
  obtain ⟨P, hPd⟩ : ∃ P : Option Value → hnD → Prop, P = (fun r D' => r = none ∧ ∃ I2 J2 R2, D' = (I2, J2, R2) ∧ hs_tf I J R I2 J2 R2 ∧ hs_Tk I2 J2 R2 n (tok f n p)) := ⟨_, rfl⟩
  rw [← hPd]
  rw [htok] at hPd
  obtain ⟨R1, hR1⟩ : ∃ z, z = hn_u R 1 5 (some 5000) := ⟨_, rfl⟩
  have tf1 : ∀ I', (∀ b, b ≠ 1 → I' b = I b) → hs_tf I J R I' J R1 := fun I' h => ⟨h, fun _ _ => rfl, fun b hb => by rw [hR1, hn_u_ne _ _ _ hb], fun i hi => by rw [hR1, hn_u_eq, va_up, if_neg hi]⟩
  have w15 : R1 1 5 = some 5000 := by rw [hR1, hn_u_eq, va_up, if_pos rfl]
  have hr1 : R1 1 0 = some 2 := by rw [hR1, hn_u_eq, va_up, if_neg (by omega)]; exact hr
  have S48 : hn_B 1 hm_Tape_advance P 48 [.ref 1, .int (nI q), .null] [] (I, J, R1) := by
    obtain ⟨I1, hI1⟩ : ∃ z, z = hn_u (hn_u I 1 2 (nI q)) 1 3 (nI q) := ⟨_, rfl⟩
    have a1 : I1 1 1 = nI n := by rw [hI1, hn_u_eq, va_up, if_neg (by omega), hn_u_eq, va_up, if_neg (by omega)]; exact h1
    have a2 : I1 1 2 = nI q := by rw [hI1, hn_u_eq, va_up, if_neg (by omega), hn_u_eq, va_up, if_pos rfl]
    have a3 : I1 1 3 = nI q := by rw [hI1, hn_u_eq, va_up, if_pos rfl]
    have af : ∀ b, b ≠ 1 → I1 b = I b := fun b hb => by rw [hI1, hn_u_ne _ _ _ hb, hn_u_ne _ _ _ hb]
    have hS1 : hs_Sg I1 f n := ⟨hn, fun i hi => by rw [af 2 (by omega)]; exact hSg i hi⟩
    by_cases hend : n ≤ q
    · rw [if_pos hend] at hPd
      refine b_aload_n rfl rfl ?_
      refine b_iload_n rfl rfl ?_
      refine b_putI rfl (by first | rfl | assumption) rfl rfl ⟨rfl, rfl⟩ ?_
      refine b_aload_n rfl rfl ?_
      refine b_iload_n rfl rfl ?_
      refine b_putI rfl (by first | rfl | assumption) rfl rfl ⟨rfl, rfl⟩ ?_
      rw [← hI1]
      refine b_iload_n rfl rfl ?_
      refine b_aload_n rfl rfl ?_
      refine b_getI rfl (by first | rfl | assumption) rfl ?_
      rw [a1]
      refine b_icmp_lt rfl (fun c_63 => ?_) (fun c_63 => ?_)
      · exact absurd ((nI_lt_c (by omega) (by omega)).mp c_63) (by omega)
      · refine b_aload_n rfl rfl ?_
        refine b_iconst rfl ?_
        refine b_putI rfl (by first | rfl | assumption) rfl rfl ⟨rfl, rfl⟩ ?_
        exact b_return_ rfl trivial ((by rw [hPd]; exact ⟨rfl, _, _, _, rfl, tf1 _ (fun b hb => by rw [hn_u_ne _ _ _ hb]; exact af b hb), by rw [hn_u_eq, va_up, if_neg (by omega)]; exact a1, by rw [hn_u_eq, va_up, if_neg (by omega)]; exact a2, by rw [hn_u_eq, va_up, if_neg (by omega)]; exact a3, by rw [hn_u_eq, va_up, if_pos rfl]; rfl, w15, fun z => absurd (show (0 : Nat) = 1 from z) (by decide), fun z => absurd (show (0 : Nat) = 2 from z) (by decide), fun z => absurd (show (0 : Nat) = 3 from z) (by decide)⟩))
    · rw [if_neg hend] at hPd
      have hqn : q < n := by omega
      obtain ⟨ec, hc⟩ := hSg q hqn
      have e2 : I1 2 q = nI (f q) := by rw [af 2 (by omega)]; exact ec
      have i97 : nI (f q) < 97 ↔ f q < 97 := nI_lt_c (k := 97) (by omega) (by omega)
      have i122 : 122 < nI (f q) ↔ 122 < f q := nI_lt_c (c := 122) (by omega) (by omega)
      have i48 : nI (f q) < 48 ↔ f q < 48 := nI_lt_c (k := 48) (by omega) (by omega)
      have i57 : 57 < nI (f q) ↔ 57 < f q := nI_lt_c (c := 57) (by omega) (by omega)
      by_cases hl : isL (f q)
      · rw [if_pos hl] at hPd
        refine b_aload_n rfl rfl ?_
        refine b_iload_n rfl rfl ?_
        refine b_putI rfl (by first | rfl | assumption) rfl rfl ⟨rfl, rfl⟩ ?_
        refine b_aload_n rfl rfl ?_
        refine b_iload_n rfl rfl ?_
        refine b_putI rfl (by first | rfl | assumption) rfl rfl ⟨rfl, rfl⟩ ?_
        rw [← hI1]
        refine b_iload_n rfl rfl ?_
        refine b_aload_n rfl rfl ?_
        refine b_getI rfl (by first | rfl | assumption) rfl ?_
        rw [a1]
        refine b_icmp_lt rfl (fun c_63 => ?_) (fun c_63 => ?_)
        · refine b_aload_n rfl rfl ?_
          refine b_getR rfl (by first | rfl | assumption) rfl (by assumption) ?_
          refine b_iload_n rfl rfl ?_
          refine b_caload rfl (by first | rfl | assumption) (by first | assumption | exact nI_toInt (by omega) | exact hi_l0 | exact hi_l1 | exact hi_l2 | exact hi_l3 | exact hi_l4 | exact hi_l5 | exact hi_l6) (by omega) ?_
          rw [e2]
          refine b_istore_n rfl (Nat.le_of_ble_eq_true rfl) ?_
          refine b_iload_n rfl rfl ?_
          refine b_bipush rfl ?_
          refine b_icmp_lt rfl (fun c_82 => ?_) (fun c_82 => ?_)
          · exact absurd (i97.mp c_82) (by omega)
          · refine b_iload_n rfl rfl ?_
            refine b_bipush rfl ?_
            refine b_icmp_gt rfl (fun c_88 => ?_) (fun c_88 => ?_)
            · exact absurd (i122.mp c_88) (by omega)
            · refine b_aload_n rfl rfl ?_
              refine b_callV rfl rfl hk_Tape_readWord rfl rfl rfl (by first | rfl | assumption) rfl (Nat.le_of_ble_eq_true rfl) (q_Tape_readWord hr1 hS1 a1 a2 a3 hqn hl w15) (Nat.le_of_ble_eq_true rfl) (fun r_92 D_92 q_92 => ?_)
              obtain ⟨rfl, I2, J2, R2, rfl, ht, hk⟩ := q_92
              refine b_goto rfl ?_
              exact b_return_ rfl trivial ((by rw [hPd]; exact ⟨rfl, _, _, _, rfl, hs_tf_t (tf1 I1 af) ht, hk⟩))
        · exact absurd (hi_nlt hqn (by omega)) c_63
      · rw [if_neg hl] at hPd
        by_cases hd : isD (f q)
        · rw [if_pos hd] at hPd
          refine b_aload_n rfl rfl ?_
          refine b_iload_n rfl rfl ?_
          refine b_putI rfl (by first | rfl | assumption) rfl rfl ⟨rfl, rfl⟩ ?_
          refine b_aload_n rfl rfl ?_
          refine b_iload_n rfl rfl ?_
          refine b_putI rfl (by first | rfl | assumption) rfl rfl ⟨rfl, rfl⟩ ?_
          rw [← hI1]
          refine b_iload_n rfl rfl ?_
          refine b_aload_n rfl rfl ?_
          refine b_getI rfl (by first | rfl | assumption) rfl ?_
          rw [a1]
          refine b_icmp_lt rfl (fun c_63 => ?_) (fun c_63 => ?_)
          · refine b_aload_n rfl rfl ?_
            refine b_getR rfl (by first | rfl | assumption) rfl (by assumption) ?_
            refine b_iload_n rfl rfl ?_
            refine b_caload rfl (by first | rfl | assumption) (by first | assumption | exact nI_toInt (by omega) | exact hi_l0 | exact hi_l1 | exact hi_l2 | exact hi_l3 | exact hi_l4 | exact hi_l5 | exact hi_l6) (by omega) ?_
            rw [e2]
            refine b_istore_n rfl (Nat.le_of_ble_eq_true rfl) ?_
            refine b_iload_n rfl rfl ?_
            refine b_bipush rfl ?_
            refine b_icmp_lt rfl (fun c_82 => ?_) (fun c_82 => ?_)
            · refine b_iload_n rfl rfl ?_
              refine b_bipush rfl ?_
              refine b_icmp_lt rfl (fun c_101 => ?_) (fun c_101 => ?_)
              · exact absurd (i48.mp c_101) (by omega)
              · refine b_iload_n rfl rfl ?_
                refine b_bipush rfl ?_
                refine b_icmp_gt rfl (fun c_107 => ?_) (fun c_107 => ?_)
                · exact absurd (i57.mp c_107) (by omega)
                · refine b_aload_n rfl rfl ?_
                  refine b_callV rfl rfl hk_Tape_readNumber rfl rfl rfl (by first | rfl | assumption) rfl (Nat.le_of_ble_eq_true rfl) (q_Tape_readNumber hr1 hS1 a1 a2 a3 hqn w15) (Nat.le_of_ble_eq_true rfl) (fun r_111 D_111 q_111 => ?_)
                  obtain ⟨rfl, I2, J2, R2, rfl, ht, hk⟩ := q_111
                  refine b_goto rfl ?_
                  exact b_return_ rfl trivial ((by rw [hPd]; exact ⟨rfl, _, _, _, rfl, hs_tf_t (tf1 I1 af) ht, hk⟩))
            · exact absurd (i97.mpr (by omega)) c_82
          · exact absurd (hi_nlt hqn (by omega)) c_63
        · rw [if_neg hd] at hPd
          have S117 : hn_B 1 hm_Tape_advance P 117 [.ref 1, .int (nI q), .int (nI (f q))] [] (I1, J, R1) := by
            refine b_aload_n rfl rfl ?_
            refine b_iload_n rfl rfl ?_
            refine b_callV rfl rfl hk_Tape_readSign rfl rfl rfl (by first | rfl | assumption) rfl (Nat.le_of_ble_eq_true rfl) (q_Tape_readSign a1 a2 hc w15) (Nat.le_of_ble_eq_true rfl) (fun r_119 D_119 q_119 => ?_)
            obtain ⟨rfl, I2, J2, R2, rfl, ht, hk⟩ := q_119
            exact b_return_ rfl trivial ((by rw [hPd]; exact ⟨rfl, _, _, _, rfl, hs_tf_t (tf1 I1 af) ht, hk⟩))
          have S98 : hn_B 1 hm_Tape_advance P 98 [.ref 1, .int (nI q), .int (nI (f q))] [] (I1, J, R1) := by
            by_cases h48 : f q < 48
            · refine b_iload_n rfl rfl ?_
              refine b_bipush rfl ?_
              refine b_icmp_lt rfl (fun c_101 => ?_) (fun c_101 => ?_)
              · exact S117
              · exact absurd (i48.mpr h48) c_101
            · refine b_iload_n rfl rfl ?_
              refine b_bipush rfl ?_
              refine b_icmp_lt rfl (fun c_101 => ?_) (fun c_101 => ?_)
              · exact absurd (i48.mp c_101) h48
              · refine b_iload_n rfl rfl ?_
                refine b_bipush rfl ?_
                refine b_icmp_gt rfl (fun c_107 => ?_) (fun c_107 => ?_)
                · exact S117
                · exact absurd (i57.mpr (by omega)) c_107
          by_cases h97 : f q < 97
          · refine b_aload_n rfl rfl ?_
            refine b_iload_n rfl rfl ?_
            refine b_putI rfl (by first | rfl | assumption) rfl rfl ⟨rfl, rfl⟩ ?_
            refine b_aload_n rfl rfl ?_
            refine b_iload_n rfl rfl ?_
            refine b_putI rfl (by first | rfl | assumption) rfl rfl ⟨rfl, rfl⟩ ?_
            rw [← hI1]
            refine b_iload_n rfl rfl ?_
            refine b_aload_n rfl rfl ?_
            refine b_getI rfl (by first | rfl | assumption) rfl ?_
            rw [a1]
            refine b_icmp_lt rfl (fun c_63 => ?_) (fun c_63 => ?_)
            · refine b_aload_n rfl rfl ?_
              refine b_getR rfl (by first | rfl | assumption) rfl (by assumption) ?_
              refine b_iload_n rfl rfl ?_
              refine b_caload rfl (by first | rfl | assumption) (by first | assumption | exact nI_toInt (by omega) | exact hi_l0 | exact hi_l1 | exact hi_l2 | exact hi_l3 | exact hi_l4 | exact hi_l5 | exact hi_l6) (by omega) ?_
              rw [e2]
              refine b_istore_n rfl (Nat.le_of_ble_eq_true rfl) ?_
              refine b_iload_n rfl rfl ?_
              refine b_bipush rfl ?_
              refine b_icmp_lt rfl (fun c_82 => ?_) (fun c_82 => ?_)
              · exact S98
              · exact absurd (i97.mpr h97) c_82
            · exact absurd (hi_nlt hqn (by omega)) c_63
          · refine b_aload_n rfl rfl ?_
            refine b_iload_n rfl rfl ?_
            refine b_putI rfl (by first | rfl | assumption) rfl rfl ⟨rfl, rfl⟩ ?_
            refine b_aload_n rfl rfl ?_
            refine b_iload_n rfl rfl ?_
            refine b_putI rfl (by first | rfl | assumption) rfl rfl ⟨rfl, rfl⟩ ?_
            rw [← hI1]
            refine b_iload_n rfl rfl ?_
            refine b_aload_n rfl rfl ?_
            refine b_getI rfl (by first | rfl | assumption) rfl ?_
            rw [a1]
            refine b_icmp_lt rfl (fun c_63 => ?_) (fun c_63 => ?_)
            · refine b_aload_n rfl rfl ?_
              refine b_getR rfl (by first | rfl | assumption) rfl (by assumption) ?_
              refine b_iload_n rfl rfl ?_
              refine b_caload rfl (by first | rfl | assumption) (by first | assumption | exact nI_toInt (by omega) | exact hi_l0 | exact hi_l1 | exact hi_l2 | exact hi_l3 | exact hi_l4 | exact hi_l5 | exact hi_l6) (by omega) ?_
              rw [e2]
              refine b_istore_n rfl (Nat.le_of_ble_eq_true rfl) ?_
              refine b_iload_n rfl rfl ?_
              refine b_bipush rfl ?_
              refine b_icmp_lt rfl (fun c_82 => ?_) (fun c_82 => ?_)
              · exact absurd (i97.mp c_82) h97
              · refine b_iload_n rfl rfl ?_
                refine b_bipush rfl ?_
                refine b_icmp_gt rfl (fun c_88 => ?_) (fun c_88 => ?_)
                · exact S98
                · exact absurd (i122.mpr (by omega)) c_88
            · exact absurd (hi_nlt hqn (by omega)) c_63
  have lb : ∀ m, p ≤ m → m ≤ n → run isB f (n - m) m = q → hn_B 1 hm_Tape_advance P 12 [.ref 1, .int (nI m), .null] [] (I, J, R1) := by
    intro m hpm hmn
    refine sp_indk m n hmn (fun m => run isB f (n - m) m = q → hn_B 1 hm_Tape_advance P 12 [.ref 1, .int (nI m), .null] [] (I, J, R1)) ?_ ?_
    · intro hrun
      have hnq : n = q := by rw [← hrun, Nat.sub_self]; rfl
      rw [← hnq] at S48
      refine b_iload_n rfl rfl ?_
      refine b_aload_n rfl rfl ?_
      refine b_getI rfl (by first | rfl | assumption) rfl ?_
      rw [h1]
      refine b_icmp_ge rfl (fun c_17 => ?_) (fun c_17 => ?_)
      · exact S48
      · exact absurd (nI_le (Nat.le_refl _) (by omega)) c_17
    · intro m _ hm ih hrun
      obtain ⟨ec, hc⟩ := hSg m hm
      have i32 : nI (f m) = 32 ↔ f m = 32 := hi_nIe (k := 32) (by omega) (by omega)
      have i10 : nI (f m) = 10 ↔ f m = 10 := hi_nIe (k := 10) (by omega) (by omega)
      by_cases hb : isB (f m)
      · rw [run_y hm hb] at hrun
        refine b_iload_n rfl rfl ?_
        refine b_aload_n rfl rfl ?_
        refine b_getI rfl (by first | rfl | assumption) rfl ?_
        rw [h1]
        refine b_icmp_ge rfl (fun c_17 => ?_) (fun c_17 => ?_)
        · exact absurd c_17 (nI_ge hm (by omega))
        · refine b_aload_n rfl rfl ?_
          refine b_getR rfl (by first | rfl | assumption) rfl (by assumption) ?_
          refine b_iload_n rfl rfl ?_
          refine b_caload rfl (by first | rfl | assumption) (by first | assumption | exact nI_toInt (by omega) | exact hi_l0 | exact hi_l1 | exact hi_l2 | exact hi_l3 | exact hi_l4 | exact hi_l5 | exact hi_l6) (by omega) ?_
          rw [ec]
          refine b_bipush rfl ?_
          refine b_icmp_eq rfl (fun c_28 => ?_) (fun c_28 => ?_)
          · refine b_iinc rfl rfl (Nat.le_of_ble_eq_true rfl) ?_
            refine b_goto rfl ?_
            exact b_lp (ih hrun) (le_e (le_q (by rw [nI_succ]) (le_n le_0))) rfl rfl
          · refine b_aload_n rfl rfl ?_
            refine b_getR rfl (by first | rfl | assumption) rfl (by assumption) ?_
            refine b_iload_n rfl rfl ?_
            refine b_caload rfl (by first | rfl | assumption) (by first | assumption | exact nI_toInt (by omega) | exact hi_l0 | exact hi_l1 | exact hi_l2 | exact hi_l3 | exact hi_l4 | exact hi_l5 | exact hi_l6) (by omega) ?_
            rw [ec]
            refine b_bipush rfl ?_
            refine b_icmp_ne rfl (fun c_39 => ?_) (fun c_39 => ?_)
            · exact absurd (i10.mpr (hb.resolve_left (fun z => c_28 (i32.mpr z)))) c_39
            · refine b_iinc rfl rfl (Nat.le_of_ble_eq_true rfl) ?_
              refine b_goto rfl ?_
              exact b_lp (ih hrun) (le_e (le_q (by rw [nI_succ]) (le_n le_0))) rfl rfl
      · have hmq : m = q := by rw [← hrun, run_n (fun _ => hb)]
        refine b_iload_n rfl rfl ?_
        refine b_aload_n rfl rfl ?_
        refine b_getI rfl (by first | rfl | assumption) rfl ?_
        rw [h1]
        refine b_icmp_ge rfl (fun c_17 => ?_) (fun c_17 => ?_)
        · exact absurd c_17 (nI_ge hm (by omega))
        · refine b_aload_n rfl rfl ?_
          refine b_getR rfl (by first | rfl | assumption) rfl (by assumption) ?_
          refine b_iload_n rfl rfl ?_
          refine b_caload rfl (by first | rfl | assumption) (by first | assumption | exact nI_toInt (by omega) | exact hi_l0 | exact hi_l1 | exact hi_l2 | exact hi_l3 | exact hi_l4 | exact hi_l5 | exact hi_l6) (by omega) ?_
          rw [ec]
          refine b_bipush rfl ?_
          refine b_icmp_eq rfl (fun c_28 => ?_) (fun c_28 => ?_)
          · exact absurd (Or.inl (i32.mp c_28)) hb
          · refine b_aload_n rfl rfl ?_
            refine b_getR rfl (by first | rfl | assumption) rfl (by assumption) ?_
            refine b_iload_n rfl rfl ?_
            refine b_caload rfl (by first | rfl | assumption) (by first | assumption | exact nI_toInt (by omega) | exact hi_l0 | exact hi_l1 | exact hi_l2 | exact hi_l3 | exact hi_l4 | exact hi_l5 | exact hi_l6) (by omega) ?_
            rw [ec]
            refine b_bipush rfl ?_
            refine b_icmp_ne rfl (fun c_39 => ?_) (fun c_39 => ?_)
            · exact b_lp S48 (le_e (le_q (by rw [hmq]) (le_n le_0))) rfl rfl
            · exact absurd (Or.inr (i10.mp c_39)) hb
  refine b_aload_n rfl rfl ?_
  refine b_getsW rfl ?_
  refine b_putR rfl (by first | rfl | assumption) rfl rfl (fun _ => ⟨rfl, rfl⟩) ?_
  rw [← hR1]
  refine b_aload_n rfl rfl ?_
  refine b_getI rfl (by first | rfl | assumption) rfl ?_
  rw [h3]
  refine b_istore_n rfl (Nat.le_of_ble_eq_true rfl) ?_
  exact lb p (Nat.le_refl _) hp hqd.symm
theorem tok_le (f : Nat → Nat) {n p : Nat} (hp : p ≤ n) : p ≤ (tok f n p).2.1 ∧ (tok f n p).2.2.1 ≤ n ∧ (tok f n p).2.1 ≤ n ∧ (tok f n p).1 ≤ 4 ∧ ((tok f n p).1 ≠ 0 → p < (tok f n p).2.2.1) ∧ p ≤ (tok f n p).2.2.1 := by
  have hle := run_le isB f (n - p) p
  unfold tok
  simp only
  generalize run isB f (n - p) p = q at hle
  by_cases h1 : n ≤ q
  · rw [if_pos h1]; refine ⟨?_, ?_, ?_, ?_, ?_, ?_⟩ <;> (try intro _) <;> simp <;> omega
  · rw [if_neg h1]
    by_cases hl : isL (f q)
    · rw [if_pos hl]
      have h2 := run_le isL f (n - q) q
      have h3 := run_first (c := isL) (f := f) (n := n) (p := q) (by omega) hl
      generalize run isL f (n - q) q = e at h2 h3
      refine ⟨by simp only; omega, by simp only; omega, by simp only; omega, by simp only; split <;> omega, fun _ => by simp only; omega, by simp only; omega⟩
    · rw [if_neg hl]
      by_cases hd : isD (f q)
      · rw [if_pos hd]
        have h2 := run_le isD f (n - q) q
        have h3 := run_first (c := isD) (f := f) (n := n) (p := q) (by omega) hd
        generalize run isD f (n - q) q = e at h2 h3
        refine ⟨by simp only; omega, by simp only; omega, by simp only; omega, by simp only; split <;> omega, fun _ => by simp only; omega, by simp only; omega⟩
      · rw [if_neg hd]
        refine ⟨by simp only; omega, by simp only; omega, by simp only; omega, by simp only; split <;> omega, fun _ => by simp only; omega, by simp only; omega⟩
end HNadvance
