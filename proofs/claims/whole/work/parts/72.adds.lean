section HNadds
variable {I I' : Nat → Nat → Int32} {J J' : Nat → Nat → Int64} {R R' : Nat → Nat → Option Nat}
theorem q_Net_addKnot {t kn : Nat} {x : Int64} {kd hd : Int32} (hN : hs_Net R t) (hk : I t 0 = nI kn) (h8 : kn < 8) : hn_F 0 hm_Net_addKnot [.ref t, .long x, .int kd, .int hd] (I, J, R) (fun r D' => r = none ∧ D' = (hn_u (hn_u (hn_u I (t + 2) kn kd) (t + 3) kn hd) t 0 (nI (kn + 1)), hn_u J (t + 1) kn x, R)) := by
  refine hn_F_of _ hk_Net_addKnot rfl (Nat.le_of_ble_eq_true rfl) ?_
  obtain ⟨tt5, tn0, tn1, tn2, tn3, tn4, tn5, tn6, tn7, tn8, tn9, tn10, ts1, ts2, ts3, ts4, ts5, ts7, ts8, tl0, tl2, tl6, tl7⟩ := hN
  have k1 : hn_u I (t + 2) kn kd t 0 = nI kn := by rw [hn_u_ne _ _ _ (show t ≠ t + 2 by omega)]; exact hk
  have k2 : hn_u (hn_u I (t + 2) kn kd) (t + 3) kn hd t 0 = nI kn := by rw [hn_u_ne _ _ _ (show t ≠ t + 3 by omega)]; exact k1
  refine b_aload_n rfl rfl ?_
  refine b_getI rfl (by first | rfl | assumption) rfl ?_
  rw [hk]
  refine b_bipush rfl ?_
  refine b_icmp_ge rfl (fun c_6 => ?_) (fun c_6 => ?_)
  · exact absurd c_6 (nI_ge (b := 8) h8 (by omega))
  · refine b_aload_n rfl rfl ?_
    refine b_getR rfl (by first | rfl | assumption) rfl (by assumption) ?_
    refine b_aload_n rfl rfl ?_
    refine b_getI rfl (by first | rfl | assumption) rfl ?_
    rw [hk]
    refine b_lload_n rfl rfl ?_
    refine b_lastore rfl (by first | rfl | assumption) (by decide) (nI_toInt (n := kn) (by omega)) (by omega) ?_
    refine b_aload_n rfl rfl ?_
    refine b_getR rfl (by first | rfl | assumption) rfl (by assumption) ?_
    refine b_aload_n rfl rfl ?_
    refine b_getI rfl (by first | rfl | assumption) rfl ?_
    rw [hk]
    refine b_iload_n rfl rfl ?_
    refine b_iastore rfl (by first | rfl | assumption) (nI_toInt (n := kn) (by omega)) (by omega) ?_
    refine b_aload_n rfl rfl ?_
    refine b_getR rfl (by first | rfl | assumption) rfl (by assumption) ?_
    refine b_aload_n rfl rfl ?_
    refine b_getI rfl (by first | rfl | assumption) rfl ?_
    rw [k1]
    refine b_iload rfl rfl ?_
    refine b_iastore rfl (by first | rfl | assumption) (nI_toInt (n := kn) (by omega)) (by omega) ?_
    refine b_aload_n rfl rfl ?_
    refine b_dup rfl rfl ?_
    refine b_getI rfl (by first | rfl | assumption) rfl ?_
    rw [k2]
    refine b_iconst rfl ?_
    refine b_iadd rfl ?_
    rw [← nI_succ]
    refine b_putI rfl (by first | rfl | assumption) rfl rfl ⟨rfl, rfl⟩ ?_
    exact b_return_ rfl trivial (⟨rfl, rfl⟩)
theorem q_Net_addPerson {t pn : Nat} {x : Int64} {wl pl : Int32} (hN : hs_Net R t) (hSt : hs_St R (t + 11)) (hk : I (t + 11) 4 = nI pn) (h8 : pn < 4) : hn_F 0 hm_Net_addPerson [.ref t, .long x, .int wl, .int pl] (I, J, R) (fun r D' => r = none ∧ D' = (hn_u (hn_u (hn_u I (t + 11 + 2) pn wl) (t + 11 + 3) pn pl) (t + 11) 4 (nI (pn + 1)), hn_u J (t + 5) pn x, R)) := by
  refine hn_F_of _ hk_Net_addPerson rfl (Nat.le_of_ble_eq_true rfl) ?_
  obtain ⟨tt5, tn0, tn1, tn2, tn3, tn4, tn5, tn6, tn7, tn8, tn9, tn10, ts1, ts2, ts3, ts4, ts5, ts7, ts8, tl0, tl2, tl6, tl7⟩ := hN
  obtain ⟨_, sk0, sk1, sk2, sk3, sk4, g0, g1, g2, g3⟩ := hSt
  have k2 : hn_u (hn_u I (t + 11 + 2) pn wl) (t + 11 + 3) pn pl (t + 11) 4 = nI pn := by rw [hn_u_ne _ _ _ (show t + 11 ≠ t + 11 + 3 by omega), hn_u_ne _ _ _ (show t + 11 ≠ t + 11 + 2 by omega)]; exact hk
  refine b_aload_n rfl rfl ?_
  refine b_getR rfl (by first | rfl | assumption) rfl (by assumption) ?_
  refine b_getI rfl (by first | rfl | assumption) rfl ?_
  rw [hk]
  refine b_istore rfl (Nat.le_of_ble_eq_true rfl) ?_
  refine b_iload rfl rfl ?_
  refine b_iconst rfl ?_
  refine b_icmp_ge rfl (fun c_12 => ?_) (fun c_12 => ?_)
  · exact absurd c_12 (nI_ge (b := 4) h8 (by omega))
  · refine b_aload_n rfl rfl ?_
    refine b_getR rfl (by first | rfl | assumption) rfl (by assumption) ?_
    refine b_iload rfl rfl ?_
    refine b_lload_n rfl rfl ?_
    refine b_lastore rfl (by first | rfl | assumption) (by decide) (nI_toInt (n := pn) (by omega)) (by omega) ?_
    refine b_aload_n rfl rfl ?_
    refine b_getR rfl (by first | rfl | assumption) rfl (by assumption) ?_
    refine b_getR rfl (by first | rfl | assumption) rfl (by assumption) ?_
    refine b_iload rfl rfl ?_
    refine b_iload_n rfl rfl ?_
    refine b_iastore rfl (by first | rfl | assumption) (nI_toInt (n := pn) (by omega)) (by omega) ?_
    refine b_aload_n rfl rfl ?_
    refine b_getR rfl (by first | rfl | assumption) rfl (by assumption) ?_
    refine b_getR rfl (by first | rfl | assumption) rfl (by assumption) ?_
    refine b_iload rfl rfl ?_
    refine b_iload rfl rfl ?_
    refine b_iastore rfl (by first | rfl | assumption) (nI_toInt (n := pn) (by omega)) (by omega) ?_
    refine b_aload_n rfl rfl ?_
    refine b_getR rfl (by first | rfl | assumption) rfl (by assumption) ?_
    refine b_dup rfl rfl ?_
    refine b_getI rfl (by first | rfl | assumption) rfl ?_
    rw [k2]
    refine b_iconst rfl ?_
    refine b_iadd rfl ?_
    rw [← nI_succ]
    refine b_putI rfl (by first | rfl | assumption) rfl rfl ⟨rfl, rfl⟩ ?_
    exact b_return_ rfl trivial (⟨rfl, rfl⟩)
end HNadds
