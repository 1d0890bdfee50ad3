section HNfewest
variable {I I' : Nat → Nat → Int32} {J J' : Nat → Nat → Int64} {R : Nat → Nat → Option Nat} {t : Nat} {N : sp_N} {Q Q' S : sp_Q} {U : sp_U} {V : sp_V}
abbrev hs_J (J J' : Nat → Nat → Int64) : Prop := ∀ b, b ≠ 184 → b ≠ 185 → J' b = J b
theorem up_jb {f : Nat → Int64} {k j w : Nat} {v : Int64} {W : Nat → Prop} (h1 : jb v w ↔ W k) (h2 : j ≠ k → (jb (f j) w ↔ W j)) : jb (va_up f k v j) w ↔ W j := by
  unfold va_up
  by_cases e : j = k
  · rw [if_pos e, e]; exact h1
  · rw [if_neg e]; exact h2 e
theorem sf_next {s : Nat → Int32} {sh v : Int32} {pl w0 n : Nat} (h : fg ((∃ m, m < n ∧ sfl N s sh pl w0 m) ∨ sfl N s sh pl w0 n) v) : fg (∃ m, m < n + 1 ∧ sfl N s sh pl w0 m) v := by
  have e : ((∃ m, m < n ∧ sfl N s sh pl w0 m) ∨ sfl N s sh pl w0 n) ↔ ∃ m, m < n + 1 ∧ sfl N s sh pl w0 m := by
    constructor
    · rintro (⟨m, h1, h2⟩ | h)
      · exact ⟨m, by omega, h2⟩
      · exact ⟨n, by omega, h⟩
    · rintro ⟨m, h1, h2⟩
      by_cases e : m = n
      · subst e; exact Or.inr h2
      · exact Or.inl ⟨m, by omega, h2⟩
  rw [← e]; exact h
theorem q_Search_step {n : Nat} {s : Nat → Int32} {sh : Int32} {pl w0 : Nat} {F : Prop} (hR : hs_refs R) (ht : t = 4 ∨ t = 20) (hN : hs_Nx I t N) (hs : I (44 + 1) = s) (hpl : pl < N.1) (hw0 : w0 ≤ 40) (hbn : ∀ f k, N.1 ≤ k → k < 8 → ¬ sp_bit (s f) k) (hW : hs_W J 184 (sw N s sh pl w0 n)) (hF : fg F (I 183 2)) : hn_F 5 hm_Search_step [.ref 183, .ref t, .ref (44 + 1), .int (sh + nI n)] (I, J, R) (fun r D' => r = none ∧ ∃ I2 J2, D' = (I2, J2, R) ∧ (∀ b, ¬ hs_q t b → I2 b = I b) ∧ hs_J J J2 ∧ hs_W J2 184 (sw N s sh pl w0 (n + 1)) ∧ fg (F ∨ sfl N s sh pl w0 n) (I2 183 2)) := by
  have hNt := hs_Net_of hR ht
  obtain ⟨s0, s1, s2⟩ := hs_Se1 hR
  have k45 : hn_kind (44 + 1) = (1, 8) := rfl
  have n8 := hN.2.1
  obtain ⟨tt5, tn0, tn1, tn2, tn3, tn4, tn5, tn6, tn7, tn8, tn9, tn10, ts1, ts2, ts3, ts4, ts5, ts7, ts8, tl0, tl2, tl6, tl7⟩ := id hNt
  have hlt := sw_lt (N := N) (s := s) (sh := sh) (pl := pl) (w0 := w0) hpl hw0
  refine hn_F_of _ hk_Search_step rfl (Nat.le_of_ble_eq_true rfl) ?_
  obtain ⟨P, hPd⟩ : ∃ P : Option Value → hnD → Prop, P = (fun r D' => r = none ∧ ∃ I2 J2, D' = (I2, J2, R) ∧ (∀ b, ¬ hs_q t b → I2 b = I b) ∧ hs_J J J2 ∧ hs_W J2 184 (sw N s sh pl w0 (n + 1)) ∧ fg (F ∨ sfl N s sh pl w0 n) (I2 183 2)) := ⟨_, rfl⟩
  rw [← hPd]
  have lk : ∀ I2 J2, (∀ b, ¬ hs_q t b → I2 b = I b) → (∀ b, b ≠ 185 → J2 b = J b) → (∀ j, j < 0 → ∀ w, w < 64 → (jb (J2 185 j) w ↔ sw N s sh pl w0 (n + 1) j w)) → fg (F ∨ ∃ k f u, k < 0 ∧ f < 8 ∧ 1 ≤ u ∧ u ≤ 40 ∧ sw N s sh pl w0 n f u ∧ sp_bit (s f) k ∧ sr_f N sh n k u) (I2 183 2) → hn_B 5 hm_Search_step P 3 [.ref 183, .ref t, .ref (44 + 1), .int (sh + nI n), .int (nI 0), .null, .null, .null] [] (I2, J2, R) := by
    refine sp_ind N.1 (fun k0 => ∀ I2 J2, (∀ b, ¬ hs_q t b → I2 b = I b) → (∀ b, b ≠ 185 → J2 b = J b) → (∀ j, j < k0 → ∀ w, w < 64 → (jb (J2 185 j) w ↔ sw N s sh pl w0 (n + 1) j w)) → fg (F ∨ ∃ k f u, k < k0 ∧ f < 8 ∧ 1 ≤ u ∧ u ≤ 40 ∧ sw N s sh pl w0 n f u ∧ sp_bit (s f) k ∧ sr_f N sh n k u) (I2 183 2) → hn_B 5 hm_Search_step P 3 [.ref 183, .ref t, .ref (44 + 1), .int (sh + nI n), .int (nI k0), .null, .null, .null] [] (I2, J2, R)) ?_ ?_
    · intro I2 J2 hf hj hw hfl
      have e0 : I2 t 0 = nI N.1 := (hs_Nx_q hN ht hf).1
      have hW2 : hs_W (hn_ur J2 184 (va_cpy (J2 185) (J2 184) 0 0 N.1)) 184 (sw N s sh pl w0 (n + 1)) := by
        intro k hk w hw9
        rw [hn_ur_eq]
        unfold va_cpy
        by_cases hkn : k < N.1
        · rw [if_pos ⟨Nat.zero_le _, by omega⟩, show 0 + (k - 0) = k by omega]
          exact hw k hkn w hw9
        · rw [if_neg (by omega), hj 184 (by omega)]
          constructor
          · intro h; exact absurd ((hlt n k w ((hW k hk w hw9).mp h)).1) hkn
          · intro h; exact absurd h.1 hkn
      have hfl2 : fg (F ∨ sfl N s sh pl w0 n) (I2 183 2) := by
        have e : (F ∨ ∃ k f u, k < N.1 ∧ f < 8 ∧ 1 ≤ u ∧ u ≤ 40 ∧ sw N s sh pl w0 n f u ∧ sp_bit (s f) k ∧ sr_f N sh n k u) ↔ (F ∨ sfl N s sh pl w0 n) := Iff.rfl
        rw [← e]; exact hfl
      refine b_iload rfl rfl ?_
      refine b_aload_n rfl rfl ?_
      refine b_getI rfl (by first | rfl | assumption) rfl ?_
      rw [e0]
      refine b_icmp_ge rfl (fun c_9 => ?_) (fun c_9 => ?_)
      · refine b_aload_n rfl rfl ?_
        refine b_getR rfl (by first | rfl | assumption) rfl (by assumption) ?_
        refine b_iconst rfl ?_
        refine b_aload_n rfl rfl ?_
        refine b_getR rfl (by first | rfl | assumption) rfl (by assumption) ?_
        refine b_iconst rfl ?_
        refine b_aload_n rfl rfl ?_
        refine b_getI rfl (by first | rfl | assumption) rfl ?_
        rw [e0]
        refine b_copyL rfl rfl (by first | rfl | assumption) (by decide) (by first | rfl | assumption) (by decide) (by first | assumption | exact nI_toInt (by omega) | exact hi_l0 | exact hi_l1 | exact hi_l2 | exact hi_l3 | exact hi_l4 | exact hi_l5 | exact hi_l6) (by omega) (by omega) (by decide) (Nat.le_of_ble_eq_true rfl) ?_
        exact b_return_ rfl trivial ((by rw [hPd]; exact ⟨rfl, I2, _, rfl, hf, fun b h1 h2 => by rw [hn_ur_ne _ _ h1]; exact hj b h2, hW2, hfl2⟩))
      · exact absurd (nI_le (Nat.le_refl _) (by omega)) c_9
    · intro k hk ih I2 J2 hf hj hw hfl
      have e0 : I2 t 0 = nI N.1 := (hs_Nx_q hN ht hf).1
      have e45 : I2 (44 + 1) = s := by rw [hf _ (fun e => by unfold hs_q at e; omega)]; exact hs
      have lf : ∀ x : Int64, (∀ w, w < 64 → (jb x w ↔ ∃ f, f < 0 ∧ sp_bit (s f) k ∧ sw N s sh pl w0 n f w)) → hn_B 5 hm_Search_step P 18 [.ref 183, .ref t, .ref (44 + 1), .int (sh + nI n), .int (nI k), .long x, .null, .int (nI 0)] [] (I2, J2, R) := by
        refine sp_ind 8 (fun f0 => ∀ x : Int64, (∀ w, w < 64 → (jb x w ↔ ∃ f, f < f0 ∧ sp_bit (s f) k ∧ sw N s sh pl w0 n f w)) → hn_B 5 hm_Search_step P 18 [.ref 183, .ref t, .ref (44 + 1), .int (sh + nI n), .int (nI k), .long x, .null, .int (nI f0)] [] (I2, J2, R)) ?_ ?_
        · intro x hx
          have hx4 : ∀ w, 40 < w → w < 64 → ¬ jb x w := fun w h1 h2 hb => by
            obtain ⟨f, _, _, h⟩ := (hx w h2).mp hb
            have := (hlt n f w h).2
            omega
          have hx63 : ¬ jb x 63 := hx4 63 (by omega) (by omega)
          have ya : ∀ y : Int64, (∀ w, w < 64 → (jb y w ↔ ∃ u, 1 ≤ u ∧ u ≤ 40 ∧ jb x u ∧ w = wn N sh n k u ∧ ¬ sr_f N sh n k u)) → ∀ w, w < 64 → (jb y w ↔ sw N s sh pl w0 (n + 1) k w) := by
            intro y hy w hw9
            rw [hy w hw9]
            constructor
            · rintro ⟨u, h1, h2, h3, h4, h5⟩
              obtain ⟨f, hf9, hb, hs9⟩ := (hx u (by omega)).mp h3
              exact ⟨hk, f, u, hf9, h1, h2, hs9, hb, h4, h5⟩
            · rintro ⟨_, f, u, hf9, h1, h2, hs9, hb, h4, h5⟩
              exact ⟨u, h1, h2, (hx u (by omega)).mpr ⟨f, hf9, hb, hs9⟩, h4, h5⟩
          have fa : ∀ v : Int32, fg ((F ∨ ∃ k' f u, k' < k ∧ f < 8 ∧ 1 ≤ u ∧ u ≤ 40 ∧ sw N s sh pl w0 n f u ∧ sp_bit (s f) k' ∧ sr_f N sh n k' u) ∨ ∃ u, 1 ≤ u ∧ u ≤ 40 ∧ jb x u ∧ sr_f N sh n k u) v → fg (F ∨ ∃ k' f u, k' < k + 1 ∧ f < 8 ∧ 1 ≤ u ∧ u ≤ 40 ∧ sw N s sh pl w0 n f u ∧ sp_bit (s f) k' ∧ sr_f N sh n k' u) v := by
            intro v h
            have e : ((F ∨ ∃ k' f u, k' < k ∧ f < 8 ∧ 1 ≤ u ∧ u ≤ 40 ∧ sw N s sh pl w0 n f u ∧ sp_bit (s f) k' ∧ sr_f N sh n k' u) ∨ ∃ u, 1 ≤ u ∧ u ≤ 40 ∧ jb x u ∧ sr_f N sh n k u) ↔ (F ∨ ∃ k' f u, k' < k + 1 ∧ f < 8 ∧ 1 ≤ u ∧ u ≤ 40 ∧ sw N s sh pl w0 n f u ∧ sp_bit (s f) k' ∧ sr_f N sh n k' u) := by
              constructor
              · rintro ((h | ⟨k', f, u, h1, h2⟩) | ⟨u, h1, h2, h3, h4⟩)
                · exact Or.inl h
                · exact Or.inr ⟨k', f, u, by omega, h2⟩
                · obtain ⟨f, hf9, hb, hs9⟩ := (hx u (by omega)).mp h3
                  exact Or.inr ⟨k, f, u, by omega, hf9, h1, h2, hs9, hb, h4⟩
              · rintro (h | ⟨k', f, u, h1, h2, h3, h4, h5, h6, h7⟩)
                · exact Or.inl (Or.inl h)
                · by_cases ek : k' = k
                  · subst ek; exact Or.inr ⟨u, h3, h4, (hx u (by omega)).mpr ⟨f, h2, h6, h5⟩, h7⟩
                  · exact Or.inl (Or.inr ⟨k', f, u, by omega, h2, h3, h4, h5, h6, h7⟩)
            rw [← e]; exact h
          refine b_iload rfl rfl ?_
          refine b_bipush rfl ?_
          refine b_icmp_ge rfl (fun c_22 => ?_) (fun c_22 => ?_)
          · refine b_aload_n rfl rfl ?_
            refine b_getR rfl (by first | rfl | assumption) rfl (by assumption) ?_
            refine b_iload rfl rfl ?_
            refine b_aload_n rfl rfl ?_
            refine b_aload_n rfl rfl ?_
            refine b_iload rfl rfl ?_
            refine b_lload rfl rfl ?_
            refine b_iload_n rfl rfl ?_
            refine b_callV rfl rfl hk_Search_arrive rfl rfl rfl (by first | rfl | assumption) rfl (Nat.le_of_ble_eq_true rfl) (q_Search_arrive (J := J2) hR ht (hs_Nx_q hN ht hf) (show k < 8 by omega) hx63 hx4 hfl) (Nat.le_of_ble_eq_true rfl) (fun r_68 D_68 q_68 => ?_)
            obtain ⟨I3, y, rfl, rfl, hf3, hfl3, hy⟩ := q_68
            refine b_lastore rfl (by first | rfl | assumption) (by decide) (by first | assumption | exact nI_toInt (by omega) | exact hi_l0 | exact hi_l1 | exact hi_l2 | exact hi_l3 | exact hi_l4 | exact hi_l5 | exact hi_l6) (by omega) ?_
            refine b_iinc rfl rfl (Nat.le_of_ble_eq_true rfl) ?_
            refine b_goto rfl ?_
            exact b_lp (ih I3 (hn_u J2 185 k y) (fun b hb => by rw [hf3 b hb]; exact hf b hb) (fun b hb => by rw [hn_u_ne _ _ _ hb]; exact hj b hb) (fun j hj9 w hw9 => by rw [hn_u_eq]; exact up_jb (W := fun j => sw N s sh pl w0 (n + 1) j w) (ya y hy w hw9) (fun e => hw j (by omega) w hw9)) (fa _ hfl3)) (le_e (le_e (le_e (le_e (le_q (by rw [nI_succ]) (le_n (le_n (le_n le_0)))))))) rfl rfl
          · exact absurd hi_88 c_22
        · intro f hf8 ih2 x hx
          have e184 : J2 184 = J 184 := hj 184 (by omega)
          have stp : sp_bit (s f) k → ∀ w, w < 64 → (jb (x ||| J2 184 f) w ↔ ∃ g, g < f + 1 ∧ sp_bit (s g) k ∧ sw N s sh pl w0 n g w) := by
            intro hb w hw9
            rw [jb_or, hx w hw9, e184, hW f hf8 w hw9]
            constructor
            · rintro (⟨g, h1, h2⟩ | h)
              · exact ⟨g, by omega, h2⟩
              · exact ⟨f, by omega, hb, h⟩
            · rintro ⟨g, h1, h2, h3⟩
              by_cases e : g = f
              · subst e; exact Or.inr h3
              · exact Or.inl ⟨g, by omega, h2, h3⟩
          have stn : ¬ sp_bit (s f) k → ∀ w, w < 64 → (jb x w ↔ ∃ g, g < f + 1 ∧ sp_bit (s g) k ∧ sw N s sh pl w0 n g w) := by
            intro hb w hw9
            rw [hx w hw9]
            constructor
            · rintro ⟨g, h1, h2⟩; exact ⟨g, by omega, h2⟩
            · rintro ⟨g, h1, h2, h3⟩
              exact ⟨g, by have : g ≠ f := fun e => hb (e ▸ h2); omega, h2, h3⟩
          by_cases hb : sp_bit (s f) k
          · refine b_iload rfl rfl ?_
            refine b_bipush rfl ?_
            refine b_icmp_ge rfl (fun c_22 => ?_) (fun c_22 => ?_)
            · exact absurd c_22 (hi_ge8 hf8)
            · refine b_aload_n rfl rfl ?_
              refine b_iload rfl rfl ?_
              refine b_iaload rfl (by first | rfl | assumption) (by first | assumption | exact nI_toInt (by omega) | exact hi_l0 | exact hi_l1 | exact hi_l2 | exact hi_l3 | exact hi_l4 | exact hi_l5 | exact hi_l6) (by omega) ?_
              rw [e45]
              refine b_iload rfl rfl ?_
              refine b_ishr rfl ?_
              refine b_iconst rfl ?_
              refine b_iand rfl ?_
              refine b_if_eq rfl (fun c_34 => ?_) (fun c_34 => ?_)
              · exact absurd c_34 hb
              · refine b_lload rfl rfl ?_
                refine b_aload_n rfl rfl ?_
                refine b_getR rfl (by first | rfl | assumption) rfl (by assumption) ?_
                refine b_iload rfl rfl ?_
                refine b_laload rfl (by first | rfl | assumption) (by decide) (by first | assumption | exact nI_toInt (by omega) | exact hi_l0 | exact hi_l1 | exact hi_l2 | exact hi_l3 | exact hi_l4 | exact hi_l5 | exact hi_l6) (by omega) ?_
                refine b_lor rfl ?_
                refine b_lstore rfl (Nat.le_of_ble_eq_true rfl) ?_
                refine b_iinc rfl rfl (Nat.le_of_ble_eq_true rfl) ?_
                refine b_goto rfl ?_
                exact b_lp (ih2 _ (stp hb)) (le_e (le_e (le_e (le_e (le_e (le_e (le_n (le_q (by rw [nI_succ]) le_0)))))))) rfl rfl
          · refine b_iload rfl rfl ?_
            refine b_bipush rfl ?_
            refine b_icmp_ge rfl (fun c_22 => ?_) (fun c_22 => ?_)
            · exact absurd c_22 (hi_ge8 hf8)
            · refine b_aload_n rfl rfl ?_
              refine b_iload rfl rfl ?_
              refine b_iaload rfl (by first | rfl | assumption) (by first | assumption | exact nI_toInt (by omega) | exact hi_l0 | exact hi_l1 | exact hi_l2 | exact hi_l3 | exact hi_l4 | exact hi_l5 | exact hi_l6) (by omega) ?_
              rw [e45]
              refine b_iload rfl rfl ?_
              refine b_ishr rfl ?_
              refine b_iconst rfl ?_
              refine b_iand rfl ?_
              refine b_if_eq rfl (fun c_34 => ?_) (fun c_34 => ?_)
              · refine b_iinc rfl rfl (Nat.le_of_ble_eq_true rfl) ?_
                refine b_goto rfl ?_
                exact b_lp (ih2 _ (stn hb)) (le_e (le_e (le_e (le_e (le_e (le_e (le_n (le_q (by rw [nI_succ]) le_0)))))))) rfl rfl
              · exact absurd c_34 hb
      refine b_iload rfl rfl ?_
      refine b_aload_n rfl rfl ?_
      refine b_getI rfl (by first | rfl | assumption) rfl ?_
      rw [e0]
      refine b_icmp_ge rfl (fun c_9 => ?_) (fun c_9 => ?_)
      · exact absurd c_9 (nI_ge hk (by omega))
      · refine b_lconst rfl ?_
        refine b_lstore rfl (Nat.le_of_ble_eq_true rfl) ?_
        refine b_iconst rfl ?_
        refine b_istore rfl (Nat.le_of_ble_eq_true rfl) ?_
        exact b_lp (lf 0 (fun w hw9 => ⟨fun z => absurd z jb_0, fun ⟨f, h, _⟩ => absurd h (by omega)⟩)) (le_e (le_e (le_e (le_e (le_e (le_q (by rfl) (le_n (le_q (by rw [nI_0]) le_0)))))))) rfl rfl
  refine b_iconst rfl ?_
  refine b_istore rfl (Nat.le_of_ble_eq_true rfl) ?_
  exact b_lp (lk I J (fun _ _ => rfl) (fun _ _ => rfl) (fun j h => absurd h (by omega)) (by rcases hF with ⟨h, e⟩ | ⟨h, e⟩; exact Or.inl ⟨Or.inl h, e⟩; exact Or.inr ⟨fun z => z.elim h (fun ⟨k, _, _, h0, _⟩ => absurd h0 (by omega)), e⟩)) (le_e (le_e (le_e (le_e (le_q (by rw [nI_0]) (le_n (le_n (le_n le_0)))))))) rfl rfl
/-! whether it is reached -/
theorem q_Search_isReached {n aim : Nat} {W : Nat → Nat → Prop} {F : Prop} (hR : hs_refs R) (ha : aim < 10) (hW : hs_W J 184 W) (hF : fg F (I 183 2)) (hlt : ∀ k w, W k w → w < 64) : hn_F 1 hm_Search_isReached [.ref 183, .int (nI aim)] (I, J, R) (fun r D' => D' = (I, J, R) ∧ (((if aim = 9 then F else if aim = 8 then ∃ k, k < 8 ∧ W k 0 else ∃ w, W aim w) ∧ r = some (.int 1)) ∨ (¬ (if aim = 9 then F else if aim = 8 then ∃ k, k < 8 ∧ W k 0 else ∃ w, W aim w) ∧ r = some (.int 0)))) := by
  obtain ⟨s0, s1, s2⟩ := hs_Se1 hR
  refine hn_F_of _ hk_Search_isReached rfl (Nat.le_of_ble_eq_true rfl) ?_
  by_cases h9 : aim = 9
  · subst h9
    rw [if_pos rfl]
    rcases hF with ⟨h, e⟩ | ⟨h, e⟩
    · refine b_iload_n rfl rfl ?_
      refine b_bipush rfl ?_
      refine b_icmp_ne rfl (fun c_3 => ?_) (fun c_3 => ?_)
      · exact absurd rfl c_3
      · refine b_aload_n rfl rfl ?_
        refine b_getI rfl (by first | rfl | assumption) rfl ?_
        rw [e]
        exact b_ireturn rfl (by first | exact Or.inl rfl | exact Or.inr rfl | exact trivial) (⟨rfl, Or.inl ⟨h, rfl⟩⟩)
    · refine b_iload_n rfl rfl ?_
      refine b_bipush rfl ?_
      refine b_icmp_ne rfl (fun c_3 => ?_) (fun c_3 => ?_)
      · exact absurd rfl c_3
      · refine b_aload_n rfl rfl ?_
        refine b_getI rfl (by first | rfl | assumption) rfl ?_
        rw [e]
        exact b_ireturn rfl (by first | exact Or.inl rfl | exact Or.inr rfl | exact trivial) (⟨rfl, Or.inr ⟨h, rfl⟩⟩)
  · rw [if_neg h9]
    have hn9 : ¬ nI aim = 9 := fun z => h9 ((hi_nIe (k := 9) (by omega) (by omega)).mp z)
    obtain ⟨G, hG⟩ : ∃ G : Prop, G = (if aim = 8 then ∃ k, k < 8 ∧ W k 0 else ∃ w, W aim w) := ⟨_, rfl⟩
    rw [← hG]
    have lp : ∀ x : Int64, (∀ w, w < 64 → (jb x w ↔ w = 0 ∧ ∃ k, k < 0 ∧ W k 0)) → (∀ k, k < 0 → k = aim → ¬ ∃ w, W k w) → hn_B 1 hm_Search_isReached (fun r D' => D' = (I, J, R) ∧ ((G ∧ r = some (.int 1)) ∨ (¬ G ∧ r = some (.int 0)))) 16 [.ref 183, .int (nI aim), .long x, .null, .int (nI 0)] [] (I, J, R) := by
      refine sp_ind 8 (fun m => ∀ x : Int64, (∀ w, w < 64 → (jb x w ↔ w = 0 ∧ ∃ k, k < m ∧ W k 0)) → (∀ k, k < m → k = aim → ¬ ∃ w, W k w) → hn_B 1 hm_Search_isReached (fun r D' => D' = (I, J, R) ∧ ((G ∧ r = some (.int 1)) ∨ (¬ G ∧ r = some (.int 0)))) 16 [.ref 183, .int (nI aim), .long x, .null, .int (nI m)] [] (I, J, R)) ?_ ?_
      · intro x hx hno
        have hx0 : x = 0 ↔ ¬ ∃ k, k < 8 ∧ W k 0 := by
          rw [jb_zero]
          constructor
          · intro h z; exact h 0 (by omega) ((hx 0 (by omega)).mpr ⟨rfl, z⟩)
          · intro h w hw z; exact h ((hx w hw).mp z).2
        by_cases h8 : aim = 8
        · rw [if_pos h8] at hG
          by_cases hz : x = 0
          · refine b_iload rfl rfl ?_
            refine b_bipush rfl ?_
            refine b_icmp_ge rfl (fun c_20 => ?_) (fun c_20 => ?_)
            · refine b_iload_n rfl rfl ?_
              refine b_bipush rfl ?_
              refine b_icmp_ne rfl (fun c_64 => ?_) (fun c_64 => ?_)
              · exact absurd (by rw [h8]; rfl) c_64
              · refine b_lload_n rfl rfl ?_
                refine b_lconst rfl ?_
                refine b_lcmp rfl ?_
                refine b_if_eq rfl (fun c_70 => ?_) (fun c_70 => ?_)
                · refine b_iconst rfl ?_
                  exact b_ireturn rfl (by first | exact Or.inl rfl | exact Or.inr rfl | exact trivial) (⟨rfl, Or.inr ⟨by rw [hG]; exact hx0.mp hz, rfl⟩⟩)
                · exact absurd ((lg_cmp_eq _ _).mpr hz) c_70
            · exact absurd hi_88 c_20
          · refine b_iload rfl rfl ?_
            refine b_bipush rfl ?_
            refine b_icmp_ge rfl (fun c_20 => ?_) (fun c_20 => ?_)
            · refine b_iload_n rfl rfl ?_
              refine b_bipush rfl ?_
              refine b_icmp_ne rfl (fun c_64 => ?_) (fun c_64 => ?_)
              · exact absurd (by rw [h8]; rfl) c_64
              · refine b_lload_n rfl rfl ?_
                refine b_lconst rfl ?_
                refine b_lcmp rfl ?_
                refine b_if_eq rfl (fun c_70 => ?_) (fun c_70 => ?_)
                · exact absurd ((lg_cmp_eq _ _).mp c_70) hz
                · refine b_iconst rfl ?_
                  refine b_goto rfl ?_
                  exact b_ireturn rfl (by first | exact Or.inl rfl | exact Or.inr rfl | exact trivial) (⟨rfl, Or.inl ⟨by rw [hG]; exact Classical.byContradiction (fun z => hz (hx0.mpr z)), rfl⟩⟩)
            · exact absurd hi_88 c_20
        · rw [if_neg h8] at hG
          have hn8 : ¬ nI aim = 8 := fun z => h8 ((hi_nIe (k := 8) (by omega) (by omega)).mp z)
          refine b_iload rfl rfl ?_
          refine b_bipush rfl ?_
          refine b_icmp_ge rfl (fun c_20 => ?_) (fun c_20 => ?_)
          · refine b_iload_n rfl rfl ?_
            refine b_bipush rfl ?_
            refine b_icmp_ne rfl (fun c_64 => ?_) (fun c_64 => ?_)
            · refine b_iconst rfl ?_
              exact b_ireturn rfl (by first | exact Or.inl rfl | exact Or.inr rfl | exact trivial) (⟨rfl, Or.inr ⟨by rw [hG]; exact hno aim (by omega) rfl, rfl⟩⟩)
            · exact absurd c_64 hn8
          · exact absurd hi_88 c_20
      · intro m hm ih x hx hno
        have hnx : ∀ w, w < 64 → (jb (x ||| (J 184 m &&& 1)) w ↔ w = 0 ∧ ∃ k, k < m + 1 ∧ W k 0) := by
          intro w hw
          rw [jb_or, hx w hw, jb_and1, hW m hm 0 (by omega)]
          constructor
          · rintro (⟨h1, k, h2, h3⟩ | ⟨h1, h2⟩)
            · exact ⟨h1, k, by omega, h3⟩
            · exact ⟨h1, m, by omega, h2⟩
          · rintro ⟨h1, k, h2, h3⟩
            by_cases e : k = m
            · subst e; exact Or.inr ⟨h1, h3⟩
            · exact Or.inl ⟨h1, k, by omega, h3⟩
        have hz : J 184 m = 0 ↔ ¬ ∃ w, W m w := by
          rw [jb_zero]
          constructor
          · rintro h ⟨w, hw⟩; exact h w (hlt m w hw) ((hW m hm w (hlt m w hw)).mpr hw)
          · intro h w hw z; exact h ⟨w, (hW m hm w hw).mp z⟩
        by_cases hma : m = aim
        · rw [if_neg (show ¬ aim = 8 by omega)] at hG
          by_cases hj : J 184 m = 0
          · refine b_iload rfl rfl ?_
            refine b_bipush rfl ?_
            refine b_icmp_ge rfl (fun c_20 => ?_) (fun c_20 => ?_)
            · exact absurd c_20 (hi_ge8 hm)
            · refine b_iload rfl rfl ?_
              refine b_iload_n rfl rfl ?_
              refine b_icmp_ne rfl (fun c_26 => ?_) (fun c_26 => ?_)
              · exact absurd (by rw [hma]) c_26
              · refine b_aload_n rfl rfl ?_
                refine b_getR rfl (by first | rfl | assumption) rfl (by assumption) ?_
                refine b_iload rfl rfl ?_
                refine b_laload rfl (by first | rfl | assumption) (by decide) (by first | assumption | exact nI_toInt (by omega) | exact hi_l0 | exact hi_l1 | exact hi_l2 | exact hi_l3 | exact hi_l4 | exact hi_l5 | exact hi_l6) (by omega) ?_
                refine b_lconst rfl ?_
                refine b_lcmp rfl ?_
                refine b_if_eq rfl (fun c_38 => ?_) (fun c_38 => ?_)
                · refine b_lload_n rfl rfl ?_
                  refine b_aload_n rfl rfl ?_
                  refine b_getR rfl (by first | rfl | assumption) rfl (by assumption) ?_
                  refine b_iload rfl rfl ?_
                  refine b_laload rfl (by first | rfl | assumption) (by decide) (by first | assumption | exact nI_toInt (by omega) | exact hi_l0 | exact hi_l1 | exact hi_l2 | exact hi_l3 | exact hi_l4 | exact hi_l5 | exact hi_l6) (by omega) ?_
                  refine b_lconst rfl ?_
                  refine b_land rfl ?_
                  refine b_lor rfl ?_
                  refine b_lstore_n rfl (Nat.le_of_ble_eq_true rfl) ?_
                  refine b_iinc rfl rfl (Nat.le_of_ble_eq_true rfl) ?_
                  refine b_goto rfl ?_
                  exact b_lp (ih _ hnx (fun k hk e => by by_cases h : k = m; exact h ▸ hz.mp hj; exact hno k (by omega) e)) (le_e (le_e (le_e (le_n (le_q (by rw [nI_succ]) le_0))))) rfl rfl
                · exact absurd ((lg_cmp_eq _ _).mpr hj) c_38
          · refine b_iload rfl rfl ?_
            refine b_bipush rfl ?_
            refine b_icmp_ge rfl (fun c_20 => ?_) (fun c_20 => ?_)
            · exact absurd c_20 (hi_ge8 hm)
            · refine b_iload rfl rfl ?_
              refine b_iload_n rfl rfl ?_
              refine b_icmp_ne rfl (fun c_26 => ?_) (fun c_26 => ?_)
              · exact absurd (by rw [hma]) c_26
              · refine b_aload_n rfl rfl ?_
                refine b_getR rfl (by first | rfl | assumption) rfl (by assumption) ?_
                refine b_iload rfl rfl ?_
                refine b_laload rfl (by first | rfl | assumption) (by decide) (by first | assumption | exact nI_toInt (by omega) | exact hi_l0 | exact hi_l1 | exact hi_l2 | exact hi_l3 | exact hi_l4 | exact hi_l5 | exact hi_l6) (by omega) ?_
                refine b_lconst rfl ?_
                refine b_lcmp rfl ?_
                refine b_if_eq rfl (fun c_38 => ?_) (fun c_38 => ?_)
                · exact absurd ((lg_cmp_eq _ _).mp c_38) hj
                · refine b_iconst rfl ?_
                  exact b_ireturn rfl (by first | exact Or.inl rfl | exact Or.inr rfl | exact trivial) (⟨rfl, Or.inl ⟨by rw [hG, ← hma]; exact Classical.byContradiction (fun z => hj (hz.mpr z)), rfl⟩⟩)
        · refine b_iload rfl rfl ?_
          refine b_bipush rfl ?_
          refine b_icmp_ge rfl (fun c_20 => ?_) (fun c_20 => ?_)
          · exact absurd c_20 (hi_ge8 hm)
          · refine b_iload rfl rfl ?_
            refine b_iload_n rfl rfl ?_
            refine b_icmp_ne rfl (fun c_26 => ?_) (fun c_26 => ?_)
            · refine b_lload_n rfl rfl ?_
              refine b_aload_n rfl rfl ?_
              refine b_getR rfl (by first | rfl | assumption) rfl (by assumption) ?_
              refine b_iload rfl rfl ?_
              refine b_laload rfl (by first | rfl | assumption) (by decide) (by first | assumption | exact nI_toInt (by omega) | exact hi_l0 | exact hi_l1 | exact hi_l2 | exact hi_l3 | exact hi_l4 | exact hi_l5 | exact hi_l6) (by omega) ?_
              refine b_lconst rfl ?_
              refine b_land rfl ?_
              refine b_lor rfl ?_
              refine b_lstore_n rfl (Nat.le_of_ble_eq_true rfl) ?_
              refine b_iinc rfl rfl (Nat.le_of_ble_eq_true rfl) ?_
              refine b_goto rfl ?_
              exact b_lp (ih _ hnx (fun k hk e => by by_cases h : k = m; exact absurd (h.symm.trans e) hma; exact hno k (by omega) e)) (le_e (le_e (le_e (le_n (le_q (by rw [nI_succ]) le_0))))) rfl rfl
            · exact absurd ((hi_nIe (by omega) (by omega)).mp c_26) hma
    refine b_iload_n rfl rfl ?_
    refine b_bipush rfl ?_
    refine b_icmp_ne rfl (fun c_3 => ?_) (fun c_3 => ?_)
    · refine b_lconst rfl ?_
      refine b_lstore_n rfl (Nat.le_of_ble_eq_true rfl) ?_
      refine b_iconst rfl ?_
      refine b_istore rfl (Nat.le_of_ble_eq_true rfl) ?_
      exact b_lp (lp 0 (fun w _ => ⟨fun z => absurd z jb_0, fun ⟨_, k, h, _⟩ => absurd h (by omega)⟩) (fun k h => absurd h (by omega))) (le_e (le_e (le_e (le_n (le_q (by rw [nI_0]) le_0))))) rfl rfl
    · exact absurd c_3 hn9
/-! the fewest -/
noncomputable def few (N : sp_N) (Q : sp_Q) (aim p : Nat) : Int32 := if sp_awk (qW Q) (qP Q) p then v_few N (qS Q) (qH Q p) (qP Q p).toNatClampNeg (qW Q p).toNatClampNeg aim else -1
theorem q_Search_fewest {p aim : Nat} (hA : hs_A I R t N Q) (hp : p < N.2.1) (ha : aim < 10) : hn_F 6 hm_Search_fewest [.ref 183, .ref t, .ref 44, .int (nI p), .int (nI aim)] (I, J, R) (fun r D' => hs_sx t I J R D' ∧ r = some (.int (few N Q aim p))) := by
  have hA0 := hA
  obtain ⟨hR, r2, ht, hN, hX, hw, hz, hAw⟩ := hA
  have hN0 := hN
  have hX0 := hX
  have hw0 := hw
  obtain ⟨n0, n8, n4, nk, nh, na, hc, ncd⟩ := hN
  obtain ⟨x1, x2, x3, x4, x5, x6, x7⟩ := hX
  obtain ⟨r6, r7, r8, r11, r12, r13, r14, r15, r16, r17, r18⟩ := hs_x0 hR
  have hSt := hs_St_of hR (show 44 ∈ hs_sc by decide)
  have hNt := hs_Net_of hR ht
  obtain ⟨_, sk0, sk1, sk2, sk3, sk4, g0, g1, g2, g3⟩ := id hSt
  obtain ⟨tt5, tn0, tn1, tn2, tn3, tn4, tn5, tn6, tn7, tn8, tn9, tn10, ts1, ts2, ts3, ts4, ts5, ts7, ts8, tl0, tl2, tl6, tl7⟩ := id hNt
  obtain ⟨y0, y1, y2⟩ := hs_Se1 hR
  refine hn_F_of _ hk_Search_fewest rfl (Nat.le_of_ble_eq_true rfl) ?_
  by_cases haw : sp_awk (qW Q) (qP Q) p
  · obtain ⟨pl, hpl, epl⟩ : ∃ q, q < N.1 ∧ qP Q p = nI q := (hw0.1 p (by omega)).resolve_left haw.1
    obtain ⟨w0, hw40, ew⟩ := hw0.2.2.2.2.1 p hp
    have hfew : few N Q aim p = v_few N (qS Q) (qH Q p) pl w0 aim := by rw [few, if_pos haw, epl, ew, nI_clamp (by omega), nI_clamp (by omega)]
    rw [hfew]
    have hbn : ∀ f k, N.1 ≤ k → k < 8 → ¬ sp_bit (qS Q f) k := fun f k h1 h2 => sp_bit_lt (sp_qs_lt hw0 n8 f) (by omega) (by omega)
    have hlt := sw_lt (N := N) (s := qS Q) (sh := qH Q p) (pl := pl) (w0 := w0) hpl hw40
    have hq45 : ¬ hs_q t (44 + 1) := by unfold hs_q; omega
    have hq48 : ¬ hs_q t (44 + 4) := by unfold hs_q; omega
    have hsx : ∀ I2 J2, (∀ b, ¬ hs_q t b → I2 b = I b) → hs_J J J2 → hs_sx t I J R (I2, J2, R) := fun I2 J2 hf hj => ⟨rfl, fun b hb => hf b (fun e => hb (by unfold hs_q at e; unfold hs_xs; omega)), fun b _ h1 h2 => hj b h1 h2, hs_z_fr hz (fun b h1 h2 => hf b (fun e => by unfold hs_q at e; omega))⟩
    have lp : ∀ I2 J2, (∀ b, ¬ hs_q t b → I2 b = I b) → hs_J J J2 → hs_W J2 184 (sw N (qS Q) (qH Q p) pl w0 0) → fg (∃ m, m < 0 ∧ sfl N (qS Q) (qH Q p) pl w0 m) (I2 183 2) → hn_B 6 hm_Search_fewest (fun r D' => hs_sx t I J R D' ∧ r = some (.int (@sp_first (sg N (qS Q) (qH Q p) pl w0 aim) (fun _ => Classical.propDecidable _) (31 - 0) 0))) 68 [.ref 183, .ref t, .ref 44, .int (nI p), .int (nI aim), .int (nI pl), .int (nI 0)] [] (I2, J2, R) := by
      refine sp_ind 31 (fun n => ∀ I2 J2, (∀ b, ¬ hs_q t b → I2 b = I b) → hs_J J J2 → hs_W J2 184 (sw N (qS Q) (qH Q p) pl w0 n) → fg (∃ m, m < n ∧ sfl N (qS Q) (qH Q p) pl w0 m) (I2 183 2) → hn_B 6 hm_Search_fewest (fun r D' => hs_sx t I J R D' ∧ r = some (.int (@sp_first (sg N (qS Q) (qH Q p) pl w0 aim) (fun _ => Classical.propDecidable _) (31 - n) n))) 68 [.ref 183, .ref t, .ref 44, .int (nI p), .int (nI aim), .int (nI pl), .int (nI n)] [] (I2, J2, R)) ?_ ?_
      · intro I2 J2 hf hj hW hfl
        refine b_iload rfl rfl ?_
        refine b_bipush rfl ?_
        refine b_icmp_gt rfl (fun c_72 => ?_) (fun c_72 => ?_)
        · refine b_iconst rfl ?_
          exact b_ireturn rfl trivial (⟨hsx I2 J2 hf hj, rfl⟩)
        · exact absurd (show (30 : Int32) < nI 31 by decide) c_72
      · intro n hn ih I2 J2 hf hj hW hfl
        rw [@sp_first_s (sg N (qS Q) (qH Q p) pl w0 aim) (fun _ => Classical.propDecidable _) 31 n hn]
        have c72 : ¬ (30 : Int32) < nI n := fun z => by
          have := (hi_lt (show (30 : Int32).toInt = 30 from rfl) (nI_toInt (n := n) (by omega))).mp z
          omega
        have hcall := q_Search_isReached (n := n) (aim := aim) hR ha hW hfl (fun k w h => by have := (hlt n k w h).2; omega)
        have hN2 := hs_Nx_q hN0 ht hf
        have e45 : I2 (44 + 1) = qS Q := (hf (44 + 1) hq45).trans x1
        have e48 : I2 (44 + 4) p = qH Q p := congrFun ((hf (44 + 4) hq48).trans x4) p
        by_cases hg : sg N (qS Q) (qH Q p) pl w0 aim n
        · rw [if_pos hg]
          refine b_iload rfl rfl ?_
          refine b_bipush rfl ?_
          refine b_icmp_gt rfl (fun c_72 => ?_) (fun c_72 => ?_)
          · exact absurd c_72 c72
          · refine b_aload_n rfl rfl ?_
            refine b_iload rfl rfl ?_
            refine b_callV rfl rfl hk_Search_isReached rfl rfl rfl (by first | rfl | assumption) rfl (Nat.le_of_ble_eq_true rfl) (hcall) (Nat.le_of_ble_eq_true rfl) (fun r_78 D_78 q_78 => ?_)
            obtain ⟨rfl, hq9⟩ := q_78
            have hq9 := (hq9.resolve_right (fun z => z.1 hg)).2
            subst hq9
            refine b_if_eq rfl (fun c_81 => ?_) (fun c_81 => ?_)
            · exact absurd c_81 (by decide)
            · refine b_iload rfl rfl ?_
              exact b_ireturn rfl trivial (⟨hsx I2 J2 hf hj, rfl⟩)
        · rw [if_neg hg]
          refine b_iload rfl rfl ?_
          refine b_bipush rfl ?_
          refine b_icmp_gt rfl (fun c_72 => ?_) (fun c_72 => ?_)
          · exact absurd c_72 c72
          · refine b_aload_n rfl rfl ?_
            refine b_iload rfl rfl ?_
            refine b_callV rfl rfl hk_Search_isReached rfl rfl rfl (by first | rfl | assumption) rfl (Nat.le_of_ble_eq_true rfl) (hcall) (Nat.le_of_ble_eq_true rfl) (fun r_78 D_78 q_78 => ?_)
            obtain ⟨rfl, hq9⟩ := q_78
            have hq9 := (hq9.resolve_left (fun z => hg z.1)).2
            subst hq9
            refine b_if_eq rfl (fun c_81 => ?_) (fun c_81 => ?_)
            · refine b_aload_n rfl rfl ?_
              refine b_aload_n rfl rfl ?_
              refine b_aload_n rfl rfl ?_
              refine b_getR rfl (by first | rfl | assumption) rfl (by assumption) ?_
              refine b_aload_n rfl rfl ?_
              refine b_getR rfl (by first | rfl | assumption) rfl (by assumption) ?_
              refine b_iload_n rfl rfl ?_
              refine b_iaload rfl (by first | rfl | assumption) (by first | assumption | exact nI_toInt (by omega) | exact hi_l0 | exact hi_l1 | exact hi_l2 | exact hi_l3 | exact hi_l4 | exact hi_l5 | exact hi_l6) (by omega) ?_
              refine b_iload rfl rfl ?_
              rw [e48]
              refine b_iadd rfl ?_
              refine b_callV rfl rfl hk_Search_step rfl rfl rfl (by first | rfl | assumption) rfl (Nat.le_of_ble_eq_true rfl) (q_Search_step hR ht hN2 e45 hpl hw40 hbn hW hfl) (Nat.le_of_ble_eq_true rfl) (fun r_102 D_102 q_102 => ?_)
              obtain ⟨rfl, I3, J3, rfl, hf3, hj3, hW3, hfl3⟩ := q_102
              refine b_iinc rfl rfl (Nat.le_of_ble_eq_true rfl) ?_
              refine b_goto rfl ?_
              exact b_lp (ih I3 J3 (fun b hb => (hf3 b hb).trans (hf b hb)) (fun b h1 h2 => (hj3 b h1 h2).trans (hj b h1 h2)) hW3 (sf_next hfl3)) (le_e (le_e (le_e (le_e (le_e (le_e (le_q (by rw [nI_succ]) le_0))))))) rfl rfl
            · exact absurd rfl c_81
    have l0 : ∀ J2, hs_J J J2 → (∀ k, k < 0 → ∀ w, w < 64 → (jb (J2 184 k) w ↔ k = pl ∧ w = w0)) → hn_B 6 hm_Search_fewest (fun r D' => hs_sx t I J R D' ∧ r = some (.int (v_few N (qS Q) (qH Q p) pl w0 aim))) 21 [.ref 183, .ref t, .ref 44, .int (nI p), .int (nI aim), .int (nI pl), .int (nI 0)] [] (I, J2, R) := by
      refine sp_ind 8 (fun m => ∀ J2, hs_J J J2 → (∀ k, k < m → ∀ w, w < 64 → (jb (J2 184 k) w ↔ k = pl ∧ w = w0)) → hn_B 6 hm_Search_fewest (fun r D' => hs_sx t I J R D' ∧ r = some (.int (v_few N (qS Q) (qH Q p) pl w0 aim))) 21 [.ref 183, .ref t, .ref 44, .int (nI p), .int (nI aim), .int (nI pl), .int (nI m)] [] (I, J2, R)) ?_ ?_
      · intro J2 hj hW
        refine b_iload rfl rfl ?_
        refine b_bipush rfl ?_
        refine b_icmp_ge rfl (fun c_25 => ?_) (fun c_25 => ?_)
        · refine b_aload_n rfl rfl ?_
          refine b_iconst rfl ?_
          refine b_putI rfl (by first | rfl | assumption) rfl rfl ⟨rfl, rfl⟩ ?_
          refine b_iconst rfl ?_
          refine b_istore rfl (Nat.le_of_ble_eq_true rfl) ?_
          exact b_lp (lp (hn_u I 183 2 0) J2 (fun b hb => hn_u_ne _ _ _ (fun e => hb (Or.inl e))) hj (fun k hk w hw => hW k hk w hw) (Or.inr ⟨fun ⟨m, h, _⟩ => absurd h (by omega), by rw [hn_u_eq, va_up, if_pos rfl]⟩)) (le_e (le_e (le_e (le_e (le_e (le_e (le_q (by rw [nI_0]) le_0))))))) rfl rfl
        · exact absurd hi_88 c_25
      · intro m hm ih J2 hj hW
        have stp : ∀ v : Int64, (∀ w, w < 64 → (jb v w ↔ m = pl ∧ w = w0)) → hn_B 6 hm_Search_fewest (fun r D' => hs_sx t I J R D' ∧ r = some (.int (v_few N (qS Q) (qH Q p) pl w0 aim))) 21 [.ref 183, .ref t, .ref 44, .int (nI p), .int (nI aim), .int (nI pl), .int (nI m + 1)] [] (I, hn_u J2 184 m v, R) := fun v hv => b_lp (ih (hn_u J2 184 m v) (fun b h1 h2 => by rw [hn_u_ne _ _ _ h1]; exact hj b h1 h2) (fun k hk w hw => by rw [hn_u_eq]; exact up_jb (W := fun k => k = pl ∧ w = w0) (hv w hw) (fun e => hW k (by omega) w hw))) (le_e (le_e (le_e (le_e (le_e (le_e (le_q (by rw [nI_succ]) le_0))))))) rfl rfl
        by_cases e : m = pl
        · refine b_iload rfl rfl ?_
          refine b_bipush rfl ?_
          refine b_icmp_ge rfl (fun c_25 => ?_) (fun c_25 => ?_)
          · exact absurd c_25 (hi_ge8 hm)
          · refine b_aload_n rfl rfl ?_
            refine b_getR rfl (by first | rfl | assumption) rfl (by assumption) ?_
            refine b_iload rfl rfl ?_
            refine b_iload rfl rfl ?_
            refine b_iload rfl rfl ?_
            refine b_icmp_ne rfl (fun c_38 => ?_) (fun c_38 => ?_)
            · exact absurd (by rw [e]) c_38
            · refine b_lconst rfl ?_
              refine b_aload_n rfl rfl ?_
              refine b_getR rfl (by first | rfl | assumption) rfl (by assumption) ?_
              refine b_iload_n rfl rfl ?_
              refine b_iaload rfl (by first | rfl | assumption) (by first | assumption | exact nI_toInt (by omega) | exact hi_l0 | exact hi_l1 | exact hi_l2 | exact hi_l3 | exact hi_l4 | exact hi_l5 | exact hi_l6) (by omega) ?_
              rw [x2, ew]
              refine b_lshl rfl ?_
              refine b_goto rfl ?_
              refine b_lastore rfl (by first | rfl | assumption) (by decide) (by first | assumption | exact nI_toInt (by omega) | exact hi_l0 | exact hi_l1 | exact hi_l2 | exact hi_l3 | exact hi_l4 | exact hi_l5 | exact hi_l6) (by omega) ?_
              refine b_iinc rfl rfl (Nat.le_of_ble_eq_true rfl) ?_
              refine b_goto rfl ?_
              exact b_lp (stp _ (fun w hw => by rw [jb_1 (by omega) hw]; exact ⟨fun h => ⟨e, h⟩, fun h => h.2⟩)) (le_e (le_e (le_e (le_e (le_e (le_e (le_e le_0))))))) rfl rfl
        · refine b_iload rfl rfl ?_
          refine b_bipush rfl ?_
          refine b_icmp_ge rfl (fun c_25 => ?_) (fun c_25 => ?_)
          · exact absurd c_25 (hi_ge8 hm)
          · refine b_aload_n rfl rfl ?_
            refine b_getR rfl (by first | rfl | assumption) rfl (by assumption) ?_
            refine b_iload rfl rfl ?_
            refine b_iload rfl rfl ?_
            refine b_iload rfl rfl ?_
            refine b_icmp_ne rfl (fun c_38 => ?_) (fun c_38 => ?_)
            · refine b_lconst rfl ?_
              refine b_lastore rfl (by first | rfl | assumption) (by decide) (by first | assumption | exact nI_toInt (by omega) | exact hi_l0 | exact hi_l1 | exact hi_l2 | exact hi_l3 | exact hi_l4 | exact hi_l5 | exact hi_l6) (by omega) ?_
              refine b_iinc rfl rfl (Nat.le_of_ble_eq_true rfl) ?_
              refine b_goto rfl ?_
              exact b_lp (stp 0 (fun w hw => ⟨fun z => absurd z jb_0, fun h => absurd h.1 e⟩)) (le_e (le_e (le_e (le_e (le_e (le_e (le_e le_0))))))) rfl rfl
            · exact absurd ((hi_nIe (by omega) (by omega)).mp c_38) e
    refine b_aload_n rfl rfl ?_
    refine b_iload_n rfl rfl ?_
    refine b_callV rfl rfl hk_State_isAwake rfl rfl rfl (by first | rfl | assumption) rfl (Nat.le_of_ble_eq_true rfl) (q_State_isAwake hSt (show p < 4 by omega)) (Nat.le_of_ble_eq_true rfl) (fun r_2 D_2 q_2 => ?_)
    obtain ⟨rfl, hq⟩ := q_2
    rw [x2, P3_p x3 (by omega), if_pos haw] at hq
    subst hq
    refine b_if_ne rfl (fun c_5 => ?_) (fun c_5 => ?_)
    · refine b_aload_n rfl rfl ?_
      refine b_getR rfl (by first | rfl | assumption) rfl (by assumption) ?_
      refine b_iload_n rfl rfl ?_
      refine b_iaload rfl (by first | rfl | assumption) (by first | assumption | exact nI_toInt (by omega) | exact hi_l0 | exact hi_l1 | exact hi_l2 | exact hi_l3 | exact hi_l4 | exact hi_l5 | exact hi_l6) (by omega) ?_
      rw [P3_p x3 (by omega), epl]
      refine b_istore rfl (Nat.le_of_ble_eq_true rfl) ?_
      refine b_iconst rfl ?_
      refine b_istore rfl (Nat.le_of_ble_eq_true rfl) ?_
      exact b_lp (l0 J (fun _ _ _ => rfl) (fun k h => absurd h (by omega))) (le_e (le_e (le_e (le_e (le_e (le_e (le_q (by rw [nI_0]) le_0))))))) rfl rfl
    · exact absurd c_5 (by decide)
  · rw [few, if_neg haw]
    refine b_aload_n rfl rfl ?_
    refine b_iload_n rfl rfl ?_
    refine b_callV rfl rfl hk_State_isAwake rfl rfl rfl (by first | rfl | assumption) rfl (Nat.le_of_ble_eq_true rfl) (q_State_isAwake hSt (show p < 4 by omega)) (Nat.le_of_ble_eq_true rfl) (fun r_2 D_2 q_2 => ?_)
    obtain ⟨rfl, hq⟩ := q_2
    rw [x2, P3_p x3 (by omega), if_neg haw] at hq
    subst hq
    refine b_if_ne rfl (fun c_5 => ?_) (fun c_5 => ?_)
    · exact absurd rfl c_5
    · refine b_iconst rfl ?_
      exact b_ireturn rfl trivial (⟨hs_sx_r hz, rfl⟩)
noncomputable def v_goal (N : sp_N) (Q : sp_Q) (x y : Int32) : Int32 := sp_at x N.2.1 (fun p => sp_at y N.1 (fun k => few N Q k p) (-1)) (-1)
noncomputable def v_to (N : sp_N) (Q : sp_Q) (aim : Nat) (x : Int32) : Int32 := sp_at x N.2.1 (few N Q aim) (-1)
theorem q_X_goal {x y : Int32} (hA : hs_A I R t N Q) : hn_F 7 hm_X_goal [.ref 0, .int x, .int y] (I, J, R) (fun r D' => hs_sx t I J R D' ∧ r = some (.int (v_goal N Q x y))) := by
  have hA0 := hA
  obtain ⟨hR, r2, ht, hN, hX, hw, hz, hAw⟩ := hA
  have hN0 := hN
  have hX0 := hX
  have hw0 := hw
  obtain ⟨n0, n8, n4, nk, nh, na, hc, ncd⟩ := hN
  obtain ⟨x1, x2, x3, x4, x5, x6, x7⟩ := hX
  obtain ⟨r6, r7, r8, r11, r12, r13, r14, r15, r16, r17, r18⟩ := hs_x0 hR
  have hSt := hs_St_of hR (show 44 ∈ hs_sc by decide)
  have hNt := hs_Net_of hR ht
  obtain ⟨_, sk0, sk1, sk2, sk3, sk4, g0, g1, g2, g3⟩ := id hSt
  obtain ⟨tt5, tn0, tn1, tn2, tn3, tn4, tn5, tn6, tn7, tn8, tn9, tn10, ts1, ts2, ts3, ts4, ts5, ts7, ts8, tl0, tl2, tl6, tl7⟩ := id hNt
  obtain ⟨y0, y1, y2⟩ := hs_Se1 hR
  refine hn_F_of _ hk_X_goal rfl (Nat.le_of_ble_eq_true rfl) ?_
  by_cases hx : sp_in x N.2.1
  · obtain ⟨p, hp, rfl⟩ := sp_in_nat hx
    rw [v_goal, sp_at_in hp (by omega)]
    by_cases hy : sp_in y N.1
    · obtain ⟨k, hk, rfl⟩ := sp_in_nat hy
      rw [sp_at_in hk n8]
      refine b_aload_n rfl rfl ?_
      refine b_iload_n rfl rfl ?_
      refine b_callV rfl rfl hk_X_isPerson rfl rfl rfl (by first | rfl | assumption) rfl (Nat.le_of_ble_eq_true rfl) (q_X_isPerson hA0) (Nat.le_of_ble_eq_true rfl) (fun r_2 D_2 q_2 => ?_)
      obtain ⟨rfl, hq⟩ := q_2
      rw [if_pos hx] at hq
      subst hq
      refine b_if_eq rfl (fun c_5 => ?_) (fun c_5 => ?_)
      · exact absurd c_5 (by decide)
      · refine b_aload_n rfl rfl ?_
        refine b_iload_n rfl rfl ?_
        refine b_callV rfl rfl hk_X_isKnot rfl rfl rfl (by first | rfl | assumption) rfl (Nat.le_of_ble_eq_true rfl) (q_X_isKnot hA0) (Nat.le_of_ble_eq_true rfl) (fun r_10 D_10 q_10 => ?_)
        obtain ⟨rfl, hq⟩ := q_10
        rw [if_pos hy] at hq
        subst hq
        refine b_if_eq rfl (fun c_13 => ?_) (fun c_13 => ?_)
        · exact absurd c_13 (by decide)
        · refine b_aload_n rfl rfl ?_
          refine b_getR rfl (by first | rfl | assumption) rfl (by assumption) ?_
          refine b_aload_n rfl rfl ?_
          refine b_getR rfl (by first | rfl | assumption) rfl (by assumption) ?_
          refine b_aload_n rfl rfl ?_
          refine b_getR rfl (by first | rfl | assumption) rfl (by assumption) ?_
          refine b_iload_n rfl rfl ?_
          refine b_iload_n rfl rfl ?_
          refine b_callV rfl rfl hk_Search_fewest rfl rfl rfl (by first | rfl | assumption) rfl (Nat.le_of_ble_eq_true rfl) (q_Search_fewest hA0 hp (show k < 10 by omega)) (Nat.le_of_ble_eq_true rfl) (fun r_30 D_30 q_30 => ?_)
          obtain ⟨hsx, rfl⟩ := q_30
          refine b_goto rfl ?_
          exact b_ireturn rfl trivial (⟨hsx, rfl⟩)
    · rw [sp_at_out hy]
      refine b_aload_n rfl rfl ?_
      refine b_iload_n rfl rfl ?_
      refine b_callV rfl rfl hk_X_isPerson rfl rfl rfl (by first | rfl | assumption) rfl (Nat.le_of_ble_eq_true rfl) (q_X_isPerson hA0) (Nat.le_of_ble_eq_true rfl) (fun r_2 D_2 q_2 => ?_)
      obtain ⟨rfl, hq⟩ := q_2
      rw [if_pos hx] at hq
      subst hq
      refine b_if_eq rfl (fun c_5 => ?_) (fun c_5 => ?_)
      · exact absurd c_5 (by decide)
      · refine b_aload_n rfl rfl ?_
        refine b_iload_n rfl rfl ?_
        refine b_callV rfl rfl hk_X_isKnot rfl rfl rfl (by first | rfl | assumption) rfl (Nat.le_of_ble_eq_true rfl) (q_X_isKnot hA0) (Nat.le_of_ble_eq_true rfl) (fun r_10 D_10 q_10 => ?_)
        obtain ⟨rfl, hq⟩ := q_10
        rw [if_neg hy] at hq
        subst hq
        refine b_if_eq rfl (fun c_13 => ?_) (fun c_13 => ?_)
        · refine b_iconst rfl ?_
          exact b_ireturn rfl trivial (⟨hs_sx_r hz, rfl⟩)
        · exact absurd rfl c_13
  · rw [v_goal, sp_at_out hx]
    refine b_aload_n rfl rfl ?_
    refine b_iload_n rfl rfl ?_
    refine b_callV rfl rfl hk_X_isPerson rfl rfl rfl (by first | rfl | assumption) rfl (Nat.le_of_ble_eq_true rfl) (q_X_isPerson hA0) (Nat.le_of_ble_eq_true rfl) (fun r_2 D_2 q_2 => ?_)
    obtain ⟨rfl, hq⟩ := q_2
    rw [if_neg hx] at hq
    subst hq
    refine b_if_eq rfl (fun c_5 => ?_) (fun c_5 => ?_)
    · refine b_iconst rfl ?_
      exact b_ireturn rfl trivial (⟨hs_sx_r hz, rfl⟩)
    · exact absurd rfl c_5
theorem q_X_doze {x : Int32} (hA : hs_A I R t N Q) : hn_F 7 hm_X_doze [.ref 0, .int x] (I, J, R) (fun r D' => hs_sx t I J R D' ∧ r = some (.int (v_to N Q 8 x))) := by
  have hA0 := hA
  obtain ⟨hR, r2, ht, hN, hX, hw, hz, hAw⟩ := hA
  have hN0 := hN
  have hX0 := hX
  have hw0 := hw
  obtain ⟨n0, n8, n4, nk, nh, na, hc, ncd⟩ := hN
  obtain ⟨x1, x2, x3, x4, x5, x6, x7⟩ := hX
  obtain ⟨r6, r7, r8, r11, r12, r13, r14, r15, r16, r17, r18⟩ := hs_x0 hR
  have hSt := hs_St_of hR (show 44 ∈ hs_sc by decide)
  have hNt := hs_Net_of hR ht
  obtain ⟨_, sk0, sk1, sk2, sk3, sk4, g0, g1, g2, g3⟩ := id hSt
  obtain ⟨tt5, tn0, tn1, tn2, tn3, tn4, tn5, tn6, tn7, tn8, tn9, tn10, ts1, ts2, ts3, ts4, ts5, ts7, ts8, tl0, tl2, tl6, tl7⟩ := id hNt
  obtain ⟨y0, y1, y2⟩ := hs_Se1 hR
  refine hn_F_of _ hk_X_doze rfl (Nat.le_of_ble_eq_true rfl) ?_
  by_cases hx : sp_in x N.2.1
  · obtain ⟨p, hp, rfl⟩ := sp_in_nat hx
    rw [v_to, sp_at_in hp (by omega)]
    refine b_aload_n rfl rfl ?_
    refine b_iload_n rfl rfl ?_
    refine b_callV rfl rfl hk_X_isPerson rfl rfl rfl (by first | rfl | assumption) rfl (Nat.le_of_ble_eq_true rfl) (q_X_isPerson hA0) (Nat.le_of_ble_eq_true rfl) (fun r_2 D_2 q_2 => ?_)
    obtain ⟨rfl, hq⟩ := q_2
    rw [if_pos hx] at hq
    subst hq
    refine b_if_eq rfl (fun c_5 => ?_) (fun c_5 => ?_)
    · exact absurd c_5 (by decide)
    · refine b_aload_n rfl rfl ?_
      refine b_getR rfl (by first | rfl | assumption) rfl (by assumption) ?_
      refine b_aload_n rfl rfl ?_
      refine b_getR rfl (by first | rfl | assumption) rfl (by assumption) ?_
      refine b_aload_n rfl rfl ?_
      refine b_getR rfl (by first | rfl | assumption) rfl (by assumption) ?_
      refine b_iload_n rfl rfl ?_
      refine b_bipush rfl ?_
      refine b_callV rfl rfl hk_Search_fewest rfl rfl rfl (by first | rfl | assumption) rfl (Nat.le_of_ble_eq_true rfl) (q_Search_fewest (aim := 8) hA0 hp (by omega)) (Nat.le_of_ble_eq_true rfl) (fun r_23 D_23 q_23 => ?_)
      obtain ⟨hsx, rfl⟩ := q_23
      refine b_goto rfl ?_
      exact b_ireturn rfl trivial (⟨hsx, rfl⟩)
  · rw [v_to, sp_at_out hx]
    refine b_aload_n rfl rfl ?_
    refine b_iload_n rfl rfl ?_
    refine b_callV rfl rfl hk_X_isPerson rfl rfl rfl (by first | rfl | assumption) rfl (Nat.le_of_ble_eq_true rfl) (q_X_isPerson hA0) (Nat.le_of_ble_eq_true rfl) (fun r_2 D_2 q_2 => ?_)
    obtain ⟨rfl, hq⟩ := q_2
    rw [if_neg hx] at hq
    subst hq
    refine b_if_eq rfl (fun c_5 => ?_) (fun c_5 => ?_)
    · refine b_iconst rfl ?_
      exact b_ireturn rfl trivial (⟨hs_sx_r hz, rfl⟩)
    · exact absurd rfl c_5
theorem q_X_tiles {x : Int32} (hA : hs_A I R t N Q) : hn_F 7 hm_X_tiles [.ref 0, .int x] (I, J, R) (fun r D' => hs_sx t I J R D' ∧ r = some (.int (v_to N Q 9 x))) := by
  have hA0 := hA
  obtain ⟨hR, r2, ht, hN, hX, hw, hz, hAw⟩ := hA
  have hN0 := hN
  have hX0 := hX
  have hw0 := hw
  obtain ⟨n0, n8, n4, nk, nh, na, hc, ncd⟩ := hN
  obtain ⟨x1, x2, x3, x4, x5, x6, x7⟩ := hX
  obtain ⟨r6, r7, r8, r11, r12, r13, r14, r15, r16, r17, r18⟩ := hs_x0 hR
  have hSt := hs_St_of hR (show 44 ∈ hs_sc by decide)
  have hNt := hs_Net_of hR ht
  obtain ⟨_, sk0, sk1, sk2, sk3, sk4, g0, g1, g2, g3⟩ := id hSt
  obtain ⟨tt5, tn0, tn1, tn2, tn3, tn4, tn5, tn6, tn7, tn8, tn9, tn10, ts1, ts2, ts3, ts4, ts5, ts7, ts8, tl0, tl2, tl6, tl7⟩ := id hNt
  obtain ⟨y0, y1, y2⟩ := hs_Se1 hR
  refine hn_F_of _ hk_X_tiles rfl (Nat.le_of_ble_eq_true rfl) ?_
  by_cases hx : sp_in x N.2.1
  · obtain ⟨p, hp, rfl⟩ := sp_in_nat hx
    rw [v_to, sp_at_in hp (by omega)]
    refine b_aload_n rfl rfl ?_
    refine b_iload_n rfl rfl ?_
    refine b_callV rfl rfl hk_X_isPerson rfl rfl rfl (by first | rfl | assumption) rfl (Nat.le_of_ble_eq_true rfl) (q_X_isPerson hA0) (Nat.le_of_ble_eq_true rfl) (fun r_2 D_2 q_2 => ?_)
    obtain ⟨rfl, hq⟩ := q_2
    rw [if_pos hx] at hq
    subst hq
    refine b_if_eq rfl (fun c_5 => ?_) (fun c_5 => ?_)
    · exact absurd c_5 (by decide)
    · refine b_aload_n rfl rfl ?_
      refine b_getR rfl (by first | rfl | assumption) rfl (by assumption) ?_
      refine b_aload_n rfl rfl ?_
      refine b_getR rfl (by first | rfl | assumption) rfl (by assumption) ?_
      refine b_aload_n rfl rfl ?_
      refine b_getR rfl (by first | rfl | assumption) rfl (by assumption) ?_
      refine b_iload_n rfl rfl ?_
      refine b_bipush rfl ?_
      refine b_callV rfl rfl hk_Search_fewest rfl rfl rfl (by first | rfl | assumption) rfl (Nat.le_of_ble_eq_true rfl) (q_Search_fewest (aim := 9) hA0 hp (by omega)) (Nat.le_of_ble_eq_true rfl) (fun r_23 D_23 q_23 => ?_)
      obtain ⟨hsx, rfl⟩ := q_23
      refine b_goto rfl ?_
      exact b_ireturn rfl trivial (⟨hsx, rfl⟩)
  · rw [v_to, sp_at_out hx]
    refine b_aload_n rfl rfl ?_
    refine b_iload_n rfl rfl ?_
    refine b_callV rfl rfl hk_X_isPerson rfl rfl rfl (by first | rfl | assumption) rfl (Nat.le_of_ble_eq_true rfl) (q_X_isPerson hA0) (Nat.le_of_ble_eq_true rfl) (fun r_2 D_2 q_2 => ?_)
    obtain ⟨rfl, hq⟩ := q_2
    rw [if_neg hx] at hq
    subst hq
    refine b_if_eq rfl (fun c_5 => ?_) (fun c_5 => ?_)
    · refine b_iconst rfl ?_
      exact b_ireturn rfl trivial (⟨hs_sx_r hz, rfl⟩)
    · exact absurd rfl c_5
end HNfewest
