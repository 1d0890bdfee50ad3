section HNmfewest
variable {I I' : Nat → Nat → Int32} {J J' : Nat → Nat → Int64} {R : Nat → Nat → Option Nat} {t : Nat} {N : sp_N} {Q Q' S : sp_Q} {U : sp_U} {V : sp_V}
/-- pairs that are through -/
abbrev dn (n i k i' k' : Nat) : Prop := (i' < i ∧ k' < n) ∨ (i' = i ∧ k' < k)
theorem dn_k {n i k : Nat} {X : Nat → Nat → Prop} : (∃ i' k', dn n i (k + 1) i' k' ∧ X i' k') ↔ (∃ i' k', dn n i k i' k' ∧ X i' k') ∨ X i k := by
  constructor
  · rintro ⟨i', k', h, hx⟩
    rcases h with h | ⟨h1, h2⟩
    · exact Or.inl ⟨i', k', Or.inl h, hx⟩
    · by_cases e : k' = k
      · subst h1; subst e; exact Or.inr hx
      · exact Or.inl ⟨i', k', Or.inr ⟨h1, by omega⟩, hx⟩
  · rintro (⟨i', k', h, hx⟩ | hx)
    · rcases h with h | ⟨h1, h2⟩
      · exact ⟨i', k', Or.inl h, hx⟩
      · exact ⟨i', k', Or.inr ⟨h1, by omega⟩, hx⟩
    · exact ⟨i, k, Or.inr ⟨rfl, by omega⟩, hx⟩
theorem dn_i {n i : Nat} {X : Nat → Nat → Prop} : (∃ i' k', dn n i n i' k' ∧ X i' k') ↔ ∃ i' k', dn n (i + 1) 0 i' k' ∧ X i' k' := by
  constructor
  · rintro ⟨i', k', h, hx⟩
    exact ⟨i', k', Or.inl (by omega), hx⟩
  · rintro ⟨i', k', h, hx⟩
    exact ⟨i', k', (by unfold dn at h ⊢; omega), hx⟩
theorem dn_no {n i : Nat} {X : Nat → Nat → Prop} (h : ∀ k, ¬ X i k) : (∃ i' k', dn n i 0 i' k' ∧ X i' k') ↔ ∃ i' k', dn n (i + 1) 0 i' k' ∧ X i' k' := by
  constructor
  · rintro ⟨i', k', h1, hx⟩
    exact ⟨i', k', (by unfold dn at h1 ⊢; omega), hx⟩
  · rintro ⟨i', k', h1, hx⟩
    have hne : i' ≠ i := fun e => h k' (e ▸ hx)
    exact ⟨i', k', (by unfold dn at h1 ⊢; omega), hx⟩
theorem fg_c {p q : Prop} {a : Int32} (h : fg p a) (e : p ↔ q) : fg q a := by
  rcases h with ⟨h, e1⟩ | ⟨h, e1⟩
  · exact Or.inl ⟨e.mp h, e1⟩
  · exact Or.inr ⟨fun z => h (e.mpr z), e1⟩
theorem fg_or {p q : Prop} {a : Int32} (h : fg p a) (hq : ¬ q) : fg (p ∨ q) a := fg_c h ⟨Or.inl, fun z => z.elim id (fun y => absurd y hq)⟩
theorem id41 {i : Nat} (h : i < 328) : nI i / 41 = nI (i / 41) ∧ nI i - nI i / 41 * 41 = nI (i % 41) := by
  have key : ∀ i : Fin 328, nI i.val / 41 = nI (i.val / 41) ∧ nI i.val - nI i.val / 41 * 41 = nI (i.val % 41) := by decide +kernel
  exact key ⟨i, h⟩
theorem many_n (x : Int32) (m : Nat) : x + nI (m + 1) - 1 = x + nI m := by rw [nI_succ, ← Int32.add_assoc, Int32.add_sub_cancel]
/-- a shift that arrives, what counts of it -/
abbrev fr (N : sp_N) (s : Nat → Int32) (sh : Int32) (pl w0 m i k : Nat) : Prop := sw N s sh pl w0 m (i / 41) (i % 41) ∧ 0 < i % 41 ∧ sp_bit (s (i / 41)) k
abbrev fa (N : sp_N) (sh : Int32) (a k0 m i k : Nat) : Prop := if a = 2 then sr_f N sh m k (i % 41) else ¬ sr_f N sh m k (i % 41) ∧ (if a = 0 then k = k0 else wn N sh m k (i % 41) = 0)
abbrev fx (N : sp_N) (s : Nat → Int32) (sh : Int32) (pl w0 a k0 m i k : Nat) : Prop := fr N s sh pl w0 m i k ∧ fa N sh a k0 m i k
abbrev fy (N : sp_N) (s : Nat → Int32) (sh : Int32) (pl w0 m x i k : Nat) : Prop := fr N s sh pl w0 m i k ∧ ¬ sr_f N sh m k (i % 41) ∧ 0 < wn N sh m k (i % 41) ∧ x = 41 * k + wn N sh m k (i % 41)
abbrev aimN (a k0 : Nat) : Nat := if a = 0 then k0 else if a = 1 then 8 else 9
theorem fx_end {s : Nat → Int32} {sh : Int32} {pl w0 a k0 m : Nat} (hpl : pl < N.1) (hw : w0 ≤ 40) (h8 : N.1 ≤ 8) (ha : a < 3) (hk0 : a = 0 → k0 < N.1) (hno : ¬ sg N s sh pl w0 (aimN a k0) m) : (∃ i k, dn N.1 (41 * N.1) 0 i k ∧ fx N s sh pl w0 a k0 m i k) ↔ sg N s sh pl w0 (aimN a k0) (m + 1) := by
  have hlt := sw_lt (N := N) (s := s) (sh := sh) hpl hw
  have hij : ∀ f u, u ≤ 40 → (41 * f + u) / 41 = f ∧ (41 * f + u) % 41 = u := fun f u h => by omega
  rcases (show a = 0 ∨ a = 1 ∨ a = 2 by omega) with rfl | rfl | rfl
  · have hk := hk0 rfl
    have e : sg N s sh pl w0 (aimN 0 k0) (m + 1) ↔ ∃ w, sw N s sh pl w0 (m + 1) k0 w := by
      unfold sg aimN; rw [if_pos rfl, if_neg (by omega), if_neg (by omega)]
    rw [e]
    constructor
    · rintro ⟨i, k, hd, ⟨h1, h2, h3⟩, h4⟩
      rw [fa, if_neg (by omega), if_pos rfl] at h4
      obtain ⟨h5, h6⟩ := h4
      have hl := hlt m _ _ h1
      exact ⟨wn N sh m k0 (i % 41), hk, i / 41, i % 41, by omega, by omega, by omega, h1, h6 ▸ h3, rfl, h6 ▸ h5⟩
    · rintro ⟨w, h1, f, u, h2, h3, h4, h5, h6, h7, h8'⟩
      have hl := hlt m f u h5
      obtain ⟨d1, d2⟩ := hij f u (by omega)
      refine ⟨41 * f + u, k0, Or.inl ⟨by omega, hk⟩, ?_⟩
      unfold fx fr fa
      rw [d1, d2, if_neg (by omega), if_pos rfl]
      exact ⟨⟨h5, by omega, h6⟩, h8', rfl⟩
  · have e : sg N s sh pl w0 (aimN 1 k0) (m + 1) ↔ ∃ k, k < 8 ∧ sw N s sh pl w0 (m + 1) k 0 := by
      unfold sg aimN; rw [if_neg (by omega : ¬ (1 : Nat) = 0), if_pos rfl, if_neg (by omega : ¬ (8 : Nat) = 9), if_pos rfl]
    rw [e]
    constructor
    · rintro ⟨i, k, hd, ⟨h1, h2, h3⟩, h4⟩
      rw [fa, if_neg (by omega), if_neg (by omega)] at h4
      obtain ⟨h5, h6⟩ := h4
      have hl := hlt m _ _ h1
      have hkn : k < N.1 := by unfold dn at hd; omega
      exact ⟨k, by omega, hkn, i / 41, i % 41, by omega, by omega, by omega, h1, h3, h6.symm, h5⟩
    · rintro ⟨k, _, h1, f, u, h2, h3, h4, h5, h6, h7, h8'⟩
      have hl := hlt m f u h5
      obtain ⟨d1, d2⟩ := hij f u (by omega)
      refine ⟨41 * f + u, k, Or.inl ⟨by omega, h1⟩, ?_⟩
      unfold fx fr fa
      rw [d1, d2, if_neg (by omega), if_neg (by omega)]
      exact ⟨⟨h5, by omega, h6⟩, h8', h7.symm⟩
  · have e : ∀ m, sg N s sh pl w0 (aimN 2 k0) m ↔ ∃ j, j < m ∧ sfl N s sh pl w0 j := fun m => by
      unfold sg aimN; rw [if_neg (by omega : ¬ (2 : Nat) = 0), if_neg (by omega : ¬ (2 : Nat) = 1), if_pos rfl]
    rw [e] at hno ⊢
    constructor
    · rintro ⟨i, k, hd, ⟨h1, h2, h3⟩, h4⟩
      rw [fa, if_pos rfl] at h4
      have hl := hlt m _ _ h1
      have hkn : k < N.1 := by unfold dn at hd; omega
      exact ⟨m, by omega, k, i / 41, i % 41, hkn, by omega, by omega, by omega, h1, h3, h4⟩
    · rintro ⟨j, hj, hs⟩
      have hjm : j = m := by
        by_cases e : j = m
        · exact e
        · exact absurd ⟨j, by omega, hs⟩ hno
      subst hjm
      obtain ⟨k, f, u, h1, h2, h3, h4, h5, h6, h7⟩ := hs
      have hl := hlt j f u h5
      obtain ⟨d1, d2⟩ := hij f u (by omega)
      refine ⟨41 * f + u, k, Or.inl ⟨by omega, h1⟩, ?_⟩
      unfold fx fr fa
      rw [d1, d2, if_pos rfl]
      exact ⟨⟨h5, by omega, h6⟩, h7⟩
theorem fy_end {s : Nat → Int32} {sh : Int32} {pl w0 m x : Nat} (hpl : pl < N.1) (hw : w0 ≤ 40) (h8 : N.1 ≤ 8) (hx : x < 328) : (∃ i k, dn N.1 (41 * N.1) 0 i k ∧ fy N s sh pl w0 m x i k) ↔ sw N s sh pl w0 (m + 1) (x / 41) (x % 41) ∧ 0 < x % 41 := by
  have hlt := sw_lt (N := N) (s := s) (sh := sh) hpl hw
  constructor
  · rintro ⟨i, k, hd, ⟨h1, h2, h3⟩, h4, h5, h6⟩
    have hl := hlt m _ _ h1
    have hkn : k < N.1 := by unfold dn at hd; omega
    have hwn := (wn_of (N := N) (sh := sh) (n := m) (k := k) hl.2).2
    have e1 : x / 41 = k := by omega
    have e2 : x % 41 = wn N sh m k (i % 41) := by omega
    rw [e1, e2]
    exact ⟨⟨hkn, i / 41, i % 41, by omega, by omega, by omega, h1, h3, rfl, h4⟩, h5⟩
  · rintro ⟨⟨h1, f, u, h2, h3, h4, h5, h6, h7, h8'⟩, h9⟩
    have hl := hlt m f u h5
    have d1 : (41 * f + u) / 41 = f := by omega
    have d2 : (41 * f + u) % 41 = u := by omega
    refine ⟨41 * f + u, x / 41, Or.inl ⟨by omega, h1⟩, ?_⟩
    unfold fy fr
    rw [d1, d2]
    exact ⟨⟨h5, by omega, h6⟩, h8', by omega, by omega⟩
/-- the reference's row of it -/
def hs_C (I : Nat → Nat → Int32) (o : Nat) (W : Nat → Prop) : Prop := ∀ x, x < 328 → fg (W x) (I 207 (o + x))
theorem q_M_fewest {p a k0 : Nat} {kx : Int32} (hB : hs_B I R N Q) (hs0 : hs_sm I J R (I', J, R)) (hp : p < N.2.1) (ha : a < 3) (hk0 : a = 0 → k0 < N.1 ∧ kx = nI k0) : hn_F 3 hm_M_fewest [.ref 188, .int (nI p), .int (nI a), .int kx] (I', J, R) (fun r D' => hs_sm I J R D' ∧ r = some (.int (few N Q (aimN a k0) p))) := by
  have hM9 := hs_M_of hB.1
  have n8 : N.1 ≤ 8 := hB.2.1.1.2.1
  have n4 : N.2.1 ≤ 4 := hB.2.1.1.2.2.2.1
  have hw9 := hB.2.2.2.2.1
  have hB1 := hs_B_sm hB hs0
  obtain ⟨m1, m4, m5, m6, m9, m10, m11, m12, m14, m15, m16, m17, m20, m21, m22, m23, m25, m27, m28, m29, m30, m31, m32⟩ := id hM9
  have hxp : sp_in (nI p) N.2.1 := sp_in_of hp (by omega)
  have k207 : hn_kind 207 = (3, 656) := rfl
  refine hn_F_of _ hk_M_fewest rfl (Nat.le_of_ble_eq_true rfl) ?_
  by_cases haw : sp_awk (qW Q) (qP Q) p
  · obtain ⟨pl, hpl, epl⟩ : ∃ q, q < N.1 ∧ qP Q p = nI q := (hw9.1 p (by omega)).resolve_left haw.1
    obtain ⟨w0, hw40, ew⟩ := hw9.2.2.2.2.1 p hp
    have hw00 : 0 < w0 := by
      have h1 := haw.2
      rw [ew] at h1
      have := (hi_lt hi_t0 (nI_toInt (n := w0) (by omega))).mp h1
      omega
    have hfew : few N Q (aimN a k0) p = v_few N (qS Q) (qH Q p) pl w0 (aimN a k0) := by rw [few, if_pos haw, epl, ew, nI_clamp (by omega), nI_clamp (by omega)]
    rw [hfew]
    obtain ⟨sh, hsh⟩ : ∃ sh, sh = qH Q p := ⟨_, rfl⟩
    obtain ⟨s, hss⟩ : ∃ s, s = qS Q := ⟨_, rfl⟩
    rw [← hsh, ← hss]
    have hlt := sw_lt (N := N) (s := s) (sh := sh) (pl := pl) (w0 := w0) hpl hw40
    -- the hour's two loops over places and knots
    have S94 : ∀ I2, hs_sm I J R (I2, J, R) → hs_C I2 0 (fun x => sw N s sh pl w0 0 (x / 41) (x % 41) ∧ 0 < x % 41) → ¬ sg N s sh pl w0 (aimN a k0) 0 → hn_B 3 hm_M_fewest (fun r D' => hs_sm I J R D' ∧ r = some (.int (@sp_first (sg N s sh pl w0 (aimN a k0)) (fun _ => Classical.propDecidable _) (31 - 1) 1))) 94 [.ref 188, .int (nI p), .int (nI a), .int kx, .int (nI (0 + 1)), .null, .null, .null, .null, .null] [] (I2, J, R) := by
      refine sp_ind 30 (fun m => ∀ I2, hs_sm I J R (I2, J, R) → hs_C I2 0 (fun x => sw N s sh pl w0 m (x / 41) (x % 41) ∧ 0 < x % 41) → ¬ sg N s sh pl w0 (aimN a k0) m → hn_B 3 hm_M_fewest (fun r D' => hs_sm I J R D' ∧ r = some (.int (@sp_first (sg N s sh pl w0 (aimN a k0)) (fun _ => Classical.propDecidable _) (31 - (m + 1)) (m + 1)))) 94 [.ref 188, .int (nI p), .int (nI a), .int kx, .int (nI (m + 1)), .null, .null, .null, .null, .null] [] (I2, J, R)) ?_ ?_
      · intro I2 h2 _ _
        refine b_iload rfl rfl ?_
        refine b_bipush rfl ?_
        refine b_icmp_gt rfl (fun c_98 => ?_) (fun c_98 => ?_)
        · refine b_iconst rfl ?_
          exact b_ireturn rfl trivial (⟨h2, rfl⟩)
        · exact absurd (show (30 : Int32) < nI (30 + 1) by decide) c_98
      · intro m hm ih I2 h2 hC hno
        have c98 : ¬ (30 : Int32) < nI (m + 1) := fun z => by
          have := (hi_lt (show (30 : Int32).toInt = 30 from rfl) (nI_toInt (n := m + 1) (by omega))).mp z
          omega
        obtain ⟨P, hPd⟩ : ∃ P : Option Value → hnD → Prop, P = (fun r D' => hs_sm I J R D' ∧ r = some (.int (@sp_first (sg N s sh pl w0 (aimN a k0)) (fun _ => Classical.propDecidable _) (31 - (m + 1)) (m + 1)))) := ⟨_, rfl⟩
        rw [← hPd]
        have hfs := @sp_first_s (sg N s sh pl w0 (aimN a k0)) (fun _ => Classical.propDecidable _) 31 (m + 1) (by omega)
        -- all pairs are through
        have S336 : ∀ I3 b, hs_sm I J R (I3, J, R) → fg (∃ i k, dn N.1 (41 * N.1) 0 i k ∧ fx N s sh pl w0 a k0 m i k) b → hs_C I3 328 (fun x => ∃ i k, dn N.1 (41 * N.1) 0 i k ∧ fy N s sh pl w0 m x i k) → hn_B 3 hm_M_fewest P 336 [.ref 188, .int (nI p), .int (nI a), .int kx, .int (nI (m + 1)), .int b, .null, .null, .null, .null] [] (I3, J, R) := by
          intro I3 b h3 hb hC3
          have hb := fg_c hb (fx_end hpl hw40 n8 ha (fun e => (hk0 e).1) hno)
          rcases hb with ⟨hg, rfl⟩ | ⟨hg, rfl⟩
          · rw [if_pos hg] at hfs
            refine b_iload rfl rfl ?_
            refine b_if_eq rfl (fun c_338 => ?_) (fun c_338 => ?_)
            · exact absurd c_338 (by decide)
            · refine b_iload rfl rfl ?_
              exact b_ireturn rfl trivial ((by rw [hPd]; exact ⟨h3, by rw [hfs]⟩))
          · rw [if_neg hg] at hfs
            have lc : ∀ I4, hs_sm I J R (I4, J, R) → (∀ x, x < 0 → fg (sw N s sh pl w0 (m + 1) (x / 41) (x % 41) ∧ 0 < x % 41) (I4 207 x)) → (∀ x, x < 328 → fg (sw N s sh pl w0 (m + 1) (x / 41) (x % 41) ∧ 0 < x % 41) (I4 207 (328 + x))) → hn_B 3 hm_M_fewest P 347 [.ref 188, .int (nI p), .int (nI a), .int kx, .int (nI (m + 1)), .null, .int (nI 0), .null, .null, .null] [] (I4, J, R) := by
              refine sp_ind 328 (fun j => ∀ I4, hs_sm I J R (I4, J, R) → (∀ x, x < j → fg (sw N s sh pl w0 (m + 1) (x / 41) (x % 41) ∧ 0 < x % 41) (I4 207 x)) → (∀ x, x < 328 → fg (sw N s sh pl w0 (m + 1) (x / 41) (x % 41) ∧ 0 < x % 41) (I4 207 (328 + x))) → hn_B 3 hm_M_fewest P 347 [.ref 188, .int (nI p), .int (nI a), .int kx, .int (nI (m + 1)), .null, .int (nI j), .null, .null, .null] [] (I4, J, R)) ?_ ?_
              · intro I4 h4 hx1 hx2
                have ih := ih I4 h4 (fun x hx => by rw [Nat.zero_add]; exact hx1 x hx) hg
                rw [← hfs, ← hPd] at ih
                refine b_iload rfl rfl ?_
                refine b_sipush rfl ?_
                refine b_icmp_ge rfl (fun c_352 => ?_) (fun c_352 => ?_)
                · refine b_iinc rfl rfl (Nat.le_of_ble_eq_true rfl) ?_
                  refine b_goto rfl ?_
                  exact b_lp ih (le_e (le_e (le_e (le_e (le_q (by rw [nI_succ (m + 1)]) (le_n (le_n (le_n (le_n (le_n le_0)))))))))) rfl rfl
                · exact absurd (show (328 : Int32) ≤ nI 328 by decide) c_352
              · intro j hj ih3 I4 h4 hx1 hx2
                have hxj := hx2 j hj
                have hst : ∀ x, x < j + 1 → fg (sw N s sh pl w0 (m + 1) (x / 41) (x % 41) ∧ 0 < x % 41) (hn_u I4 207 j (I4 207 (328 + j)) 207 x) := by
                  intro x hx
                  rw [hn_u_eq]
                  unfold va_up
                  by_cases e : x = j
                  · rw [if_pos e, e]; exact hxj
                  · rw [if_neg e]; exact hx1 x (by omega)
                refine b_iload rfl rfl ?_
                refine b_sipush rfl ?_
                refine b_icmp_ge rfl (fun c_352 => ?_) (fun c_352 => ?_)
                · exact absurd c_352 (nI_ge (b := 328) hj (by omega))
                · refine b_aload_n rfl rfl ?_
                  refine b_getR rfl (by first | rfl | assumption) rfl (by assumption) ?_
                  refine b_iload rfl rfl ?_
                  refine b_aload_n rfl rfl ?_
                  refine b_getR rfl (by first | rfl | assumption) rfl (by assumption) ?_
                  refine b_sipush rfl ?_
                  refine b_iload rfl rfl ?_
                  refine b_iadd rfl ?_
                  refine b_baload rfl (by first | rfl | assumption) (hi_ix (328 + j) (by rw [nI_ad]; rfl) (by omega)) (by omega) ?_
                  refine b_bastore rfl (by first | rfl | assumption) (by first | assumption | exact nI_toInt (by omega) | exact hi_l0 | exact hi_l1 | exact hi_l2 | exact hi_l3 | exact hi_l4 | exact hi_l5 | exact hi_l6) (by omega) (by rcases hxj with ⟨_, e⟩ | ⟨_, e⟩ <;> rw [e] <;> rfl) ?_
                  refine b_iinc rfl rfl (Nat.le_of_ble_eq_true rfl) ?_
                  refine b_goto rfl ?_
                  exact b_lp (ih3 _ (sm_y h4 (fun b hb => hn_u_ne _ _ _ (by omega))) hst (fun x hx => by rw [hn_u_eq, va_up, if_neg (by omega)]; exact hx2 x hx)) (le_e (le_e (le_e (le_e (le_e (le_n (le_q (by rw [nI_succ j]) (le_n (le_n (le_n le_0)))))))))) rfl rfl
            refine b_iload rfl rfl ?_
            refine b_if_eq rfl (fun c_338 => ?_) (fun c_338 => ?_)
            · refine b_iconst rfl ?_
              refine b_istore rfl (Nat.le_of_ble_eq_true rfl) ?_
              exact b_lp (lc I3 h3 (fun x hx => absurd hx (by omega)) (fun x hx => fg_c (hC3 x hx) (fy_end hpl hw40 n8 hx))) (le_e (le_e (le_e (le_e (le_e (le_n (le_q (by rfl) (le_n (le_n (le_n le_0)))))))))) rfl rfl
            · exact absurd rfl c_338
        -- one place
        have S134 : ∀ I3 b, hs_sm I J R (I3, J, R) → hs_C I3 0 (fun x => sw N s sh pl w0 m (x / 41) (x % 41) ∧ 0 < x % 41) → fg (∃ i k, dn N.1 0 0 i k ∧ fx N s sh pl w0 a k0 m i k) b → hs_C I3 328 (fun x => ∃ i k, dn N.1 0 0 i k ∧ fy N s sh pl w0 m x i k) → hn_B 3 hm_M_fewest P 134 [.ref 188, .int (nI p), .int (nI a), .int kx, .int (nI (m + 1)), .int b, .int (nI 0), .null, .null, .null] [] (I3, J, R) := by
          refine sp_ind (41 * N.1) (fun i => ∀ I3 b, hs_sm I J R (I3, J, R) → hs_C I3 0 (fun x => sw N s sh pl w0 m (x / 41) (x % 41) ∧ 0 < x % 41) → fg (∃ i' k, dn N.1 i 0 i' k ∧ fx N s sh pl w0 a k0 m i' k) b → hs_C I3 328 (fun x => ∃ i' k, dn N.1 i 0 i' k ∧ fy N s sh pl w0 m x i' k) → hn_B 3 hm_M_fewest P 134 [.ref 188, .int (nI p), .int (nI a), .int kx, .int (nI (m + 1)), .int b, .int (nI i), .null, .null, .null] [] (I3, J, R)) ?_ ?_
          · intro I3 b h3 hC0 hb hC3
            have hn3 := (hs_B_sm hB h3).2.1.1.1
            have e41 : (41 : Int32) * nI N.1 = nI (41 * N.1) := by rw [nI_ml]; rfl
            refine b_iload rfl rfl ?_
            refine b_bipush rfl ?_
            refine b_aload_n rfl rfl ?_
            refine b_callV rfl rfl hk_M_knots rfl rfl rfl (by first | rfl | assumption) rfl (Nat.le_of_ble_eq_true rfl) (q_M_knots hM9 hn3) (Nat.le_of_ble_eq_true rfl) (fun r_139 D_139 q_139 => ?_)
            obtain ⟨rfl, rfl⟩ := q_139
            refine b_imul rfl ?_
            rw [e41]
            refine b_icmp_ge rfl (fun c_143 => ?_) (fun c_143 => ?_)
            · exact b_lp (S336 I3 b h3 hb hC3) (le_e (le_e (le_e (le_e (le_e (le_e (le_n (le_n (le_n (le_n le_0)))))))))) rfl rfl
            · exact absurd (nI_le (Nat.le_refl _) (by omega)) c_143
          · intro i hi ih2 I3 b h3 hC0 hb hC3
            have hn3 := (hs_B_sm hB h3).2.1.1.1
            have e41 : (41 : Int32) * nI N.1 = nI (41 * N.1) := by rw [nI_ml]; rfl
            have hi328 : i < 328 := by omega
            obtain ⟨id1, id2⟩ := id41 hi328
            have hci := hC0 i hi328
            rw [Nat.zero_add] at hci
            rcases hci with ⟨hyes, ec⟩ | ⟨hyes, ec⟩
            · have hl := hlt m _ _ hyes.1
              -- one knot
              have S149 : ∀ I4 b, hs_sm I J R (I4, J, R) → hs_C I4 0 (fun x => sw N s sh pl w0 m (x / 41) (x % 41) ∧ 0 < x % 41) → fg (∃ i' k, dn N.1 i 0 i' k ∧ fx N s sh pl w0 a k0 m i' k) b → hs_C I4 328 (fun x => ∃ i' k, dn N.1 i 0 i' k ∧ fy N s sh pl w0 m x i' k) → hn_B 3 hm_M_fewest P 149 [.ref 188, .int (nI p), .int (nI a), .int kx, .int (nI (m + 1)), .int b, .int (nI i), .int (nI 0), .null, .null] [] (I4, J, R) := by
                refine sp_ind N.1 (fun k => ∀ I4 b, hs_sm I J R (I4, J, R) → hs_C I4 0 (fun x => sw N s sh pl w0 m (x / 41) (x % 41) ∧ 0 < x % 41) → fg (∃ i' k', dn N.1 i k i' k' ∧ fx N s sh pl w0 a k0 m i' k') b → hs_C I4 328 (fun x => ∃ i' k', dn N.1 i k i' k' ∧ fy N s sh pl w0 m x i' k') → hn_B 3 hm_M_fewest P 149 [.ref 188, .int (nI p), .int (nI a), .int kx, .int (nI (m + 1)), .int b, .int (nI i), .int (nI k), .null, .null] [] (I4, J, R)) ?_ ?_
                · intro I4 b h4 hC0 hb hC4
                  have hn4 := (hs_B_sm hB h4).2.1.1.1
                  refine b_iload rfl rfl ?_
                  refine b_aload_n rfl rfl ?_
                  refine b_callV rfl rfl hk_M_knots rfl rfl rfl (by first | rfl | assumption) rfl (Nat.le_of_ble_eq_true rfl) (q_M_knots hM9 hn4) (Nat.le_of_ble_eq_true rfl) (fun r_152 D_152 q_152 => ?_)
                  obtain ⟨rfl, rfl⟩ := q_152
                  refine b_icmp_ge rfl (fun c_155 => ?_) (fun c_155 => ?_)
                  · refine b_iinc rfl rfl (Nat.le_of_ble_eq_true rfl) ?_
                    refine b_goto rfl ?_
                    exact b_lp (ih2 I4 b h4 hC0 (fg_c hb dn_i) (fun x hx => fg_c (hC4 x hx) dn_i)) (le_e (le_e (le_e (le_e (le_e (le_e (le_q (by rw [nI_succ i]) (le_n (le_n (le_n le_0)))))))))) rfl rfl
                  · exact absurd (nI_le (Nat.le_refl _) (by omega)) c_155
                · intro k hk ih3 I4 b h4 hC0 hb hC4
                  have hB4 := hs_B_sm hB h4
                  have hn4 := hB4.2.1.1.1
                  have ec4 : I4 207 i = 1 := by
                    have := hC0 i hi328
                    rw [Nat.zero_add] at this
                    exact (this.resolve_right (fun z => z.1 hyes)).2
                  have e17 : I4 204 (17 + p) = sh := by
                    have := hB4.2.2.1.1.2.2.2.2 p (by omega)
                    rw [Nat.zero_add] at this
                    rw [this, hsh]
                  by_cases hbit : sp_bit (s (i / 41)) k
                  · have hfr : fr N s sh pl w0 m i k := ⟨hyes.1, hyes.2, hbit⟩
                    obtain ⟨we, wl⟩ := wn_of (N := N) (sh := sh) (n := m) (k := k) hl.2
                    obtain ⟨wv, hwv⟩ : ∃ wv, wv = wn N sh m k (i % 41) := ⟨_, rfl⟩
                    rw [← hwv] at we wl
                    have S270 : ∀ I5 a2 f2, hs_sm I J R (I5, J, R) → I5 207 = I4 207 → fg (sr_f N sh m k (i % 41)) f2 → fg ((∃ i' k', dn N.1 i k i' k' ∧ fx N s sh pl w0 a k0 m i' k') ∨ fx N s sh pl w0 a k0 m i k) a2 → hn_B 3 hm_M_fewest P 270 [.ref 188, .int (nI p), .int (nI a), .int kx, .int (nI (m + 1)), .int b, .int (nI i), .int (nI k), .int (nI wv), .int f2] [.int a2] (I5, J, R) := by
                      intro I5 a2 f2 h5 e207 hf2 ha2
                      have eix : (328 : Int32) + 41 * nI k + nI wv = nI (328 + 41 * k + wv) := by rw [nI_ad, nI_ad, nI_ml]; rfl
                      have hold := hC4 (41 * k + wv) (by omega)
                      rw [← e207, ← Nat.add_assoc] at hold
                      have S323 : ∀ b2 : Int32, fg ((∃ i' k', dn N.1 i k i' k' ∧ fy N s sh pl w0 m (41 * k + wv) i' k') ∨ fy N s sh pl w0 m (41 * k + wv) i k) b2 → hn_B 3 hm_M_fewest P 323 [.ref 188, .int (nI p), .int (nI a), .int kx, .int (nI (m + 1)), .int a2, .int (nI i), .int (nI k), .int (nI wv), .int f2] [.int b2, .int (nI (328 + 41 * k + wv)), .ref 207] (I5, J, R) := by
                        intro b2 hb2
                        have h01 : b2 = 0 ∨ b2 = 1 := by rcases hb2 with ⟨_, e⟩ | ⟨_, e⟩; exact Or.inr e; exact Or.inl e
                        have hCn : hs_C (hn_u I5 207 (328 + 41 * k + wv) b2) 328 (fun x => ∃ i' k', dn N.1 i (k + 1) i' k' ∧ fy N s sh pl w0 m x i' k') := by
                          intro x hx
                          rw [hn_u_eq]
                          unfold va_up
                          by_cases e : x = 41 * k + wv
                          · subst e
                            rw [if_pos (by omega)]
                            exact fg_c hb2 dn_k.symm
                          · rw [if_neg (by omega), e207]
                            refine fg_c (hC4 x hx) ?_
                            show (∃ i' k', dn N.1 i k i' k' ∧ fy N s sh pl w0 m x i' k') ↔ ∃ i' k', dn N.1 i (k + 1) i' k' ∧ fy N s sh pl w0 m x i' k'
                            rw [dn_k]
                            exact ⟨Or.inl, fun z => z.elim id (fun y => absurd (by rw [hwv]; exact y.2.2.2) e)⟩
                        refine b_bastore rfl (by first | rfl | assumption) (by first | assumption | exact nI_toInt (by omega) | exact hi_l0 | exact hi_l1 | exact hi_l2 | exact hi_l3 | exact hi_l4 | exact hi_l5 | exact hi_l6) (by omega) (by rcases h01 with e | e <;> rw [e] <;> rfl) ?_
                        refine b_iinc rfl rfl (Nat.le_of_ble_eq_true rfl) ?_
                        refine b_goto rfl ?_
                        exact b_lp (ih3 _ a2 (sm_y h5 (fun b hb => hn_u_ne _ _ _ (by omega))) (fun x hx => by rw [hn_u_eq, va_up, if_neg (by omega), e207]; exact hC0 x hx) (fg_c ha2 dn_k.symm) hCn) (le_e (le_e (le_e (le_e (le_e (le_e (le_e (le_q (by rw [nI_succ k]) (le_n (le_n le_0)))))))))) rfl rfl
                      rcases hold with ⟨ho, eo⟩ | ⟨ho, eo⟩
                      · refine b_istore rfl (Nat.le_of_ble_eq_true rfl) ?_
                        refine b_aload_n rfl rfl ?_
                        refine b_getR rfl (by first | rfl | assumption) rfl (by assumption) ?_
                        refine b_sipush rfl ?_
                        refine b_bipush rfl ?_
                        refine b_iload rfl rfl ?_
                        refine b_imul rfl ?_
                        refine b_iadd rfl ?_
                        refine b_iload rfl rfl ?_
                        refine b_iadd rfl ?_
                        rw [eix]
                        refine b_aload_n rfl rfl ?_
                        refine b_getR rfl (by first | rfl | assumption) rfl (by assumption) ?_
                        refine b_sipush rfl ?_
                        refine b_bipush rfl ?_
                        refine b_iload rfl rfl ?_
                        refine b_imul rfl ?_
                        refine b_iadd rfl ?_
                        refine b_iload rfl rfl ?_
                        refine b_iadd rfl ?_
                        refine b_baload rfl (by first | rfl | assumption) (hi_ix (328 + 41 * k + wv) eix (by omega)) (by omega) ?_
                        rw [eo]
                        refine b_if_ne rfl (fun c_305 => ?_) (fun c_305 => ?_)
                        · refine b_iconst rfl ?_
                          refine b_goto rfl ?_
                          exact S323 1 (Or.inl ⟨Or.inl ho, rfl⟩)
                        · exact absurd c_305 (by decide)
                      · rcases hf2 with ⟨hfa, rfl⟩ | ⟨hfa, rfl⟩
                        · refine b_istore rfl (Nat.le_of_ble_eq_true rfl) ?_
                          refine b_aload_n rfl rfl ?_
                          refine b_getR rfl (by first | rfl | assumption) rfl (by assumption) ?_
                          refine b_sipush rfl ?_
                          refine b_bipush rfl ?_
                          refine b_iload rfl rfl ?_
                          refine b_imul rfl ?_
                          refine b_iadd rfl ?_
                          refine b_iload rfl rfl ?_
                          refine b_iadd rfl ?_
                          rw [eix]
                          refine b_aload_n rfl rfl ?_
                          refine b_getR rfl (by first | rfl | assumption) rfl (by assumption) ?_
                          refine b_sipush rfl ?_
                          refine b_bipush rfl ?_
                          refine b_iload rfl rfl ?_
                          refine b_imul rfl ?_
                          refine b_iadd rfl ?_
                          refine b_iload rfl rfl ?_
                          refine b_iadd rfl ?_
                          refine b_baload rfl (by first | rfl | assumption) (hi_ix (328 + 41 * k + wv) eix (by omega)) (by omega) ?_
                          rw [eo]
                          refine b_if_ne rfl (fun c_305 => ?_) (fun c_305 => ?_)
                          · exact absurd rfl c_305
                          · refine b_iload rfl rfl ?_
                            refine b_if_ne rfl (fun c_310 => ?_) (fun c_310 => ?_)
                            · refine b_iconst rfl ?_
                              exact S323 0 (Or.inr ⟨fun z => z.elim ho (fun y => y.2.1 hfa), rfl⟩)
                            · exact absurd c_310 (by decide)
                        · by_cases hwp : 0 < wv
                          · refine b_istore rfl (Nat.le_of_ble_eq_true rfl) ?_
                            refine b_aload_n rfl rfl ?_
                            refine b_getR rfl (by first | rfl | assumption) rfl (by assumption) ?_
                            refine b_sipush rfl ?_
                            refine b_bipush rfl ?_
                            refine b_iload rfl rfl ?_
                            refine b_imul rfl ?_
                            refine b_iadd rfl ?_
                            refine b_iload rfl rfl ?_
                            refine b_iadd rfl ?_
                            rw [eix]
                            refine b_aload_n rfl rfl ?_
                            refine b_getR rfl (by first | rfl | assumption) rfl (by assumption) ?_
                            refine b_sipush rfl ?_
                            refine b_bipush rfl ?_
                            refine b_iload rfl rfl ?_
                            refine b_imul rfl ?_
                            refine b_iadd rfl ?_
                            refine b_iload rfl rfl ?_
                            refine b_iadd rfl ?_
                            refine b_baload rfl (by first | rfl | assumption) (hi_ix (328 + 41 * k + wv) eix (by omega)) (by omega) ?_
                            rw [eo]
                            refine b_if_ne rfl (fun c_305 => ?_) (fun c_305 => ?_)
                            · exact absurd rfl c_305
                            · refine b_iload rfl rfl ?_
                              refine b_if_ne rfl (fun c_310 => ?_) (fun c_310 => ?_)
                              · exact absurd rfl c_310
                              · refine b_iload rfl rfl ?_
                                refine b_if_le rfl (fun c_315 => ?_) (fun c_315 => ?_)
                                · exact absurd ((hi_le (nI_toInt (n := wv) (by omega)) hi_t0).mp c_315) (by omega)
                                · refine b_iconst rfl ?_
                                  refine b_goto rfl ?_
                                  exact S323 1 (Or.inl ⟨Or.inr ⟨hfr, hfa, by rw [← hwv]; exact hwp, by rw [← hwv]⟩, rfl⟩)
                          · refine b_istore rfl (Nat.le_of_ble_eq_true rfl) ?_
                            refine b_aload_n rfl rfl ?_
                            refine b_getR rfl (by first | rfl | assumption) rfl (by assumption) ?_
                            refine b_sipush rfl ?_
                            refine b_bipush rfl ?_
                            refine b_iload rfl rfl ?_
                            refine b_imul rfl ?_
                            refine b_iadd rfl ?_
                            refine b_iload rfl rfl ?_
                            refine b_iadd rfl ?_
                            rw [eix]
                            refine b_aload_n rfl rfl ?_
                            refine b_getR rfl (by first | rfl | assumption) rfl (by assumption) ?_
                            refine b_sipush rfl ?_
                            refine b_bipush rfl ?_
                            refine b_iload rfl rfl ?_
                            refine b_imul rfl ?_
                            refine b_iadd rfl ?_
                            refine b_iload rfl rfl ?_
                            refine b_iadd rfl ?_
                            refine b_baload rfl (by first | rfl | assumption) (hi_ix (328 + 41 * k + wv) eix (by omega)) (by omega) ?_
                            rw [eo]
                            refine b_if_ne rfl (fun c_305 => ?_) (fun c_305 => ?_)
                            · exact absurd rfl c_305
                            · refine b_iload rfl rfl ?_
                              refine b_if_ne rfl (fun c_310 => ?_) (fun c_310 => ?_)
                              · exact absurd rfl c_310
                              · refine b_iload rfl rfl ?_
                                refine b_if_le rfl (fun c_315 => ?_) (fun c_315 => ?_)
                                · refine b_iconst rfl ?_
                                  exact S323 0 (Or.inr ⟨fun z => z.elim ho (fun y => hwp (by rw [hwv]; exact y.2.2.1)), rfl⟩)
                                · exact absurd ((hi_le (nI_toInt (n := wv) (by omega)) hi_t0).mpr (by omega)) c_315
                    have S224 : ∀ I5 f2, hs_sm I J R (I5, J, R) → I5 207 = I4 207 → fg (sr_f N sh m k (i % 41)) f2 → hn_B 3 hm_M_fewest P 224 [.ref 188, .int (nI p), .int (nI a), .int kx, .int (nI (m + 1)), .int b, .int (nI i), .int (nI k), .int (nI wv), .int f2] [] (I5, J, R) := by
                      intro I5 f2 h5 e207 hf2
                      have T := fun a2 h => S270 I5 a2 f2 h5 e207 hf2 h
                      rcases hb with ⟨hA, rfl⟩ | ⟨hA, rfl⟩
                      · refine b_iload rfl rfl ?_
                        refine b_if_ne rfl (fun c_226 => ?_) (fun c_226 => ?_)
                        · refine b_iconst rfl ?_
                          refine b_goto rfl ?_
                          exact T 1 (Or.inl ⟨Or.inl hA, rfl⟩)
                        · exact absurd c_226 (by decide)
                      · have no : ¬ fa N sh a k0 m i k → fg ((∃ i' k', dn N.1 i k i' k' ∧ fx N s sh pl w0 a k0 m i' k') ∨ fx N s sh pl w0 a k0 m i k) 0 := fun h => Or.inr ⟨fun z => z.elim hA (fun y => h y.2), rfl⟩
                        have yes : fa N sh a k0 m i k → fg ((∃ i' k', dn N.1 i k i' k' ∧ fx N s sh pl w0 a k0 m i' k') ∨ fx N s sh pl w0 a k0 m i k) 1 := fun h => Or.inl ⟨Or.inr ⟨hfr, h⟩, rfl⟩
                        rcases (show a = 0 ∨ a = 1 ∨ a = 2 by omega) with rfl | rfl | rfl
                        · have hkx := (hk0 rfl).2
                          have hk09 := (hk0 rfl).1
                          rcases hf2 with ⟨hfa, rfl⟩ | ⟨hfa, rfl⟩
                          · have h9 : ¬ fa N sh 0 k0 m i k := fun z => by rw [fa, if_neg (by omega)] at z; exact z.1 hfa
                            refine b_iload rfl rfl ?_
                            refine b_if_ne rfl (fun c_226 => ?_) (fun c_226 => ?_)
                            · exact absurd rfl c_226
                            · refine b_iload_n rfl rfl ?_
                              refine b_iconst rfl ?_
                              refine b_icmp_ne rfl (fun c_231 => ?_) (fun c_231 => ?_)
                              · refine b_iload rfl rfl ?_
                                refine b_if_ne rfl (fun c_244 => ?_) (fun c_244 => ?_)
                                · refine b_iconst rfl ?_
                                  exact T 0 (no h9)
                                · exact absurd c_244 (by decide)
                              · exact absurd c_231 (by decide)
                          · by_cases hkk : k = k0
                            · have h9 : fa N sh 0 k0 m i k := by rw [fa, if_neg (by omega), if_pos rfl]; exact ⟨hfa, hkk⟩
                              refine b_iload rfl rfl ?_
                              refine b_if_ne rfl (fun c_226 => ?_) (fun c_226 => ?_)
                              · exact absurd rfl c_226
                              · refine b_iload_n rfl rfl ?_
                                refine b_iconst rfl ?_
                                refine b_icmp_ne rfl (fun c_231 => ?_) (fun c_231 => ?_)
                                · refine b_iload rfl rfl ?_
                                  refine b_if_ne rfl (fun c_244 => ?_) (fun c_244 => ?_)
                                  · exact absurd rfl c_244
                                  · refine b_iload_n rfl rfl ?_
                                    refine b_if_ne rfl (fun c_248 => ?_) (fun c_248 => ?_)
                                    · exact absurd rfl c_248
                                    · refine b_iload rfl rfl ?_
                                      refine b_iload_n rfl rfl ?_
                                      refine b_icmp_ne rfl (fun c_254 => ?_) (fun c_254 => ?_)
                                      · exact absurd (by rw [hkx, hkk]) c_254
                                      · refine b_goto rfl ?_
                                        refine b_iconst rfl ?_
                                        refine b_goto rfl ?_
                                        exact T 1 (yes h9)
                                · exact absurd c_231 (by decide)
                            · have h9 : ¬ fa N sh 0 k0 m i k := fun z => by rw [fa, if_neg (by omega), if_pos rfl] at z; exact hkk z.2
                              refine b_iload rfl rfl ?_
                              refine b_if_ne rfl (fun c_226 => ?_) (fun c_226 => ?_)
                              · exact absurd rfl c_226
                              · refine b_iload_n rfl rfl ?_
                                refine b_iconst rfl ?_
                                refine b_icmp_ne rfl (fun c_231 => ?_) (fun c_231 => ?_)
                                · refine b_iload rfl rfl ?_
                                  refine b_if_ne rfl (fun c_244 => ?_) (fun c_244 => ?_)
                                  · exact absurd rfl c_244
                                  · refine b_iload_n rfl rfl ?_
                                    refine b_if_ne rfl (fun c_248 => ?_) (fun c_248 => ?_)
                                    · exact absurd rfl c_248
                                    · refine b_iload rfl rfl ?_
                                      refine b_iload_n rfl rfl ?_
                                      refine b_icmp_ne rfl (fun c_254 => ?_) (fun c_254 => ?_)
                                      · refine b_iconst rfl ?_
                                        exact T 0 (no h9)
                                      · exact absurd ((hi_nIe (by omega) (by omega)).mp (c_254.trans hkx)) hkk
                                · exact absurd c_231 (by decide)
                        · rcases hf2 with ⟨hfa, rfl⟩ | ⟨hfa, rfl⟩
                          · have h9 : ¬ fa N sh 1 k0 m i k := fun z => by rw [fa, if_neg (by omega)] at z; exact z.1 hfa
                            refine b_iload rfl rfl ?_
                            refine b_if_ne rfl (fun c_226 => ?_) (fun c_226 => ?_)
                            · exact absurd rfl c_226
                            · refine b_iload_n rfl rfl ?_
                              refine b_iconst rfl ?_
                              refine b_icmp_ne rfl (fun c_231 => ?_) (fun c_231 => ?_)
                              · refine b_iload rfl rfl ?_
                                refine b_if_ne rfl (fun c_244 => ?_) (fun c_244 => ?_)
                                · refine b_iconst rfl ?_
                                  exact T 0 (no h9)
                                · exact absurd c_244 (by decide)
                              · exact absurd c_231 (by decide)
                          · by_cases hwz : wv = 0
                            · have h9 : fa N sh 1 k0 m i k := by rw [fa, if_neg (by omega), if_neg (by omega)]; exact ⟨hfa, by rw [← hwv]; exact hwz⟩
                              refine b_iload rfl rfl ?_
                              refine b_if_ne rfl (fun c_226 => ?_) (fun c_226 => ?_)
                              · exact absurd rfl c_226
                              · refine b_iload_n rfl rfl ?_
                                refine b_iconst rfl ?_
                                refine b_icmp_ne rfl (fun c_231 => ?_) (fun c_231 => ?_)
                                · refine b_iload rfl rfl ?_
                                  refine b_if_ne rfl (fun c_244 => ?_) (fun c_244 => ?_)
                                  · exact absurd rfl c_244
                                  · refine b_iload_n rfl rfl ?_
                                    refine b_if_ne rfl (fun c_248 => ?_) (fun c_248 => ?_)
                                    · refine b_iload rfl rfl ?_
                                      refine b_if_ne rfl (fun c_262 => ?_) (fun c_262 => ?_)
                                      · exact absurd (by rw [hwz]; rfl) c_262
                                      · refine b_iconst rfl ?_
                                        refine b_goto rfl ?_
                                        exact T 1 (yes h9)
                                    · exact absurd c_248 (by decide)
                                · exact absurd c_231 (by decide)
                            · have h9 : ¬ fa N sh 1 k0 m i k := fun z => by rw [fa, if_neg (by omega), if_neg (by omega)] at z; exact hwz (by rw [hwv]; exact z.2)
                              refine b_iload rfl rfl ?_
                              refine b_if_ne rfl (fun c_226 => ?_) (fun c_226 => ?_)
                              · exact absurd rfl c_226
                              · refine b_iload_n rfl rfl ?_
                                refine b_iconst rfl ?_
                                refine b_icmp_ne rfl (fun c_231 => ?_) (fun c_231 => ?_)
                                · refine b_iload rfl rfl ?_
                                  refine b_if_ne rfl (fun c_244 => ?_) (fun c_244 => ?_)
                                  · exact absurd rfl c_244
                                  · refine b_iload_n rfl rfl ?_
                                    refine b_if_ne rfl (fun c_248 => ?_) (fun c_248 => ?_)
                                    · refine b_iload rfl rfl ?_
                                      refine b_if_ne rfl (fun c_262 => ?_) (fun c_262 => ?_)
                                      · refine b_iconst rfl ?_
                                        exact T 0 (no h9)
                                      · exact absurd ((hi_nIe (k := 0) (by omega) (by omega)).mp c_262) hwz
                                    · exact absurd c_248 (by decide)
                                · exact absurd c_231 (by decide)
                        · rcases hf2 with ⟨hfa, rfl⟩ | ⟨hfa, rfl⟩
                          · have h9 : fa N sh 2 k0 m i k := by rw [fa, if_pos rfl]; exact hfa
                            refine b_iload rfl rfl ?_
                            refine b_if_ne rfl (fun c_226 => ?_) (fun c_226 => ?_)
                            · exact absurd rfl c_226
                            · refine b_iload_n rfl rfl ?_
                              refine b_iconst rfl ?_
                              refine b_icmp_ne rfl (fun c_231 => ?_) (fun c_231 => ?_)
                              · exact absurd rfl c_231
                              · refine b_iload rfl rfl ?_
                                refine b_if_eq rfl (fun c_236 => ?_) (fun c_236 => ?_)
                                · exact absurd c_236 (by decide)
                                · refine b_goto rfl ?_
                                  refine b_iconst rfl ?_
                                  refine b_goto rfl ?_
                                  exact T 1 (yes h9)
                          · have h9 : ¬ fa N sh 2 k0 m i k := fun z => by rw [fa, if_pos rfl] at z; exact hfa z
                            refine b_iload rfl rfl ?_
                            refine b_if_ne rfl (fun c_226 => ?_) (fun c_226 => ?_)
                            · exact absurd rfl c_226
                            · refine b_iload_n rfl rfl ?_
                              refine b_iconst rfl ?_
                              refine b_icmp_ne rfl (fun c_231 => ?_) (fun c_231 => ?_)
                              · exact absurd rfl c_231
                              · refine b_iload rfl rfl ?_
                                refine b_if_eq rfl (fun c_236 => ?_) (fun c_236 => ?_)
                                · refine b_iconst rfl ?_
                                  exact T 0 (no h9)
                                · exact absurd rfl c_236
                    by_cases hfa : sr_f N sh m k (i % 41)
                    · refine b_iload rfl rfl ?_
                      refine b_aload_n rfl rfl ?_
                      refine b_callV rfl rfl hk_M_knots rfl rfl rfl (by first | rfl | assumption) rfl (Nat.le_of_ble_eq_true rfl) (q_M_knots hM9 hn4) (Nat.le_of_ble_eq_true rfl) (fun r_152 D_152 q_152 => ?_)
                      obtain ⟨rfl, rfl⟩ := q_152
                      refine b_icmp_ge rfl (fun c_155 => ?_) (fun c_155 => ?_)
                      · exact absurd c_155 (nI_ge hk (by omega))
                      · refine b_aload_n rfl rfl ?_
                        refine b_getR rfl (by first | rfl | assumption) rfl (by assumption) ?_
                        refine b_iload rfl rfl ?_
                        refine b_baload rfl (by first | rfl | assumption) (by first | assumption | exact nI_toInt (by omega) | exact hi_l0 | exact hi_l1 | exact hi_l2 | exact hi_l3 | exact hi_l4 | exact hi_l5 | exact hi_l6) (by omega) ?_
                        rw [ec4]
                        refine b_if_eq rfl (fun c_165 => ?_) (fun c_165 => ?_)
                        · exact absurd c_165 (by decide)
                        · refine b_aload_n rfl rfl ?_
                          refine b_iload rfl rfl ?_
                          refine b_bipush rfl ?_
                          refine b_idiv rfl (by decide) ?_
                          rw [id1]
                          refine b_callV rfl rfl hk_M_stringsFrom rfl rfl rfl (by first | rfl | assumption) rfl (Nat.le_of_ble_eq_true rfl) (q_M_stringsFrom hB4 (show i / 41 < 8 by omega)) (Nat.le_of_ble_eq_true rfl) (fun r_174 D_174 q_174 => ?_)
                          obtain ⟨rfl, rfl⟩ := q_174
                          rw [← hss]
                          refine b_iload rfl rfl ?_
                          refine b_ishr rfl ?_
                          refine b_iconst rfl ?_
                          refine b_iand rfl ?_
                          refine b_iconst rfl ?_
                          refine b_icmp_ne rfl (fun c_183 => ?_) (fun c_183 => ?_)
                          · exact absurd ((hi_bit1 _).mpr hbit) c_183
                          · refine b_aload_n rfl rfl ?_
                            refine b_iload rfl rfl ?_
                            refine b_iload rfl rfl ?_
                            refine b_bipush rfl ?_
                            refine b_irem rfl (by decide) ?_
                            rw [id2]
                            refine b_aload_n rfl rfl ?_
                            refine b_getR rfl (by first | rfl | assumption) rfl (by assumption) ?_
                            refine b_bipush rfl ?_
                            refine b_iload_n rfl rfl ?_
                            refine b_iadd rfl ?_
                            refine b_iaload rfl (by first | rfl | assumption) (hi_ix (17 + p) (by rw [nI_ad]; rfl) (by omega)) (by omega) ?_
                            rw [e17]
                            refine b_iload rfl rfl ?_
                            refine b_iadd rfl ?_
                            refine b_iconst rfl ?_
                            refine b_isub rfl ?_
                            rw [many_n]
                            refine b_iconst rfl ?_
                            refine b_callV rfl rfl hk_M_willBy rfl rfl rfl (by first | rfl | assumption) rfl (Nat.le_of_ble_eq_true rfl) (q_M_willBy hM9 hB4.2.1.1 hB4.2.1.2 hk) (Nat.le_of_ble_eq_true rfl) (fun r_209 D_209 q_209 => ?_)
                            obtain ⟨hf9, hq9⟩ := q_209
                            obtain ⟨I5, rfl, hI5⟩ := hf9.out
                            rw [hB4.2.2.2.1] at hq9
                            rw [show sp_will (nK N) (nH N) (sp_lf (nC N) (nS N)) 0 k (nI (i % 41)) (sh + nI m) 0 = nI wv from we] at hq9
                            subst hq9
                            have h5 := sm_y h4 (I2 := I5) (fun b hb => hI5 b (by omega))
                            have hB5 := hs_B_sm hB h5
                            have e75 : I5 207 = I4 207 := hI5 207 (by omega)
                            refine b_istore rfl (Nat.le_of_ble_eq_true rfl) ?_
                            refine b_aload_n rfl rfl ?_
                            refine b_iload rfl rfl ?_
                            refine b_iload rfl rfl ?_
                            refine b_callV rfl rfl hk_M_doesFall rfl rfl rfl (by first | rfl | assumption) rfl (Nat.le_of_ble_eq_true rfl) (q_M_doesFall hM9 hB5.2.1.1 hk) (Nat.le_of_ble_eq_true rfl) (fun r_219 D_219 q_219 => ?_)
                            obtain ⟨rfl, hq9⟩ := q_219
                            rw [hB5.2.2.2.1, if_pos (show sp_fall (nK N) (nH N) 0 k (nI wv) from by rw [← we]; exact hfa)] at hq9
                            subst hq9
                            refine b_istore rfl (Nat.le_of_ble_eq_true rfl) ?_
                            exact S224 I5 1 h5 e75 (Or.inl ⟨hfa, rfl⟩)
                    · refine b_iload rfl rfl ?_
                      refine b_aload_n rfl rfl ?_
                      refine b_callV rfl rfl hk_M_knots rfl rfl rfl (by first | rfl | assumption) rfl (Nat.le_of_ble_eq_true rfl) (q_M_knots hM9 hn4) (Nat.le_of_ble_eq_true rfl) (fun r_152 D_152 q_152 => ?_)
                      obtain ⟨rfl, rfl⟩ := q_152
                      refine b_icmp_ge rfl (fun c_155 => ?_) (fun c_155 => ?_)
                      · exact absurd c_155 (nI_ge hk (by omega))
                      · refine b_aload_n rfl rfl ?_
                        refine b_getR rfl (by first | rfl | assumption) rfl (by assumption) ?_
                        refine b_iload rfl rfl ?_
                        refine b_baload rfl (by first | rfl | assumption) (by first | assumption | exact nI_toInt (by omega) | exact hi_l0 | exact hi_l1 | exact hi_l2 | exact hi_l3 | exact hi_l4 | exact hi_l5 | exact hi_l6) (by omega) ?_
                        rw [ec4]
                        refine b_if_eq rfl (fun c_165 => ?_) (fun c_165 => ?_)
                        · exact absurd c_165 (by decide)
                        · refine b_aload_n rfl rfl ?_
                          refine b_iload rfl rfl ?_
                          refine b_bipush rfl ?_
                          refine b_idiv rfl (by decide) ?_
                          rw [id1]
                          refine b_callV rfl rfl hk_M_stringsFrom rfl rfl rfl (by first | rfl | assumption) rfl (Nat.le_of_ble_eq_true rfl) (q_M_stringsFrom hB4 (show i / 41 < 8 by omega)) (Nat.le_of_ble_eq_true rfl) (fun r_174 D_174 q_174 => ?_)
                          obtain ⟨rfl, rfl⟩ := q_174
                          rw [← hss]
                          refine b_iload rfl rfl ?_
                          refine b_ishr rfl ?_
                          refine b_iconst rfl ?_
                          refine b_iand rfl ?_
                          refine b_iconst rfl ?_
                          refine b_icmp_ne rfl (fun c_183 => ?_) (fun c_183 => ?_)
                          · exact absurd ((hi_bit1 _).mpr hbit) c_183
                          · refine b_aload_n rfl rfl ?_
                            refine b_iload rfl rfl ?_
                            refine b_iload rfl rfl ?_
                            refine b_bipush rfl ?_
                            refine b_irem rfl (by decide) ?_
                            rw [id2]
                            refine b_aload_n rfl rfl ?_
                            refine b_getR rfl (by first | rfl | assumption) rfl (by assumption) ?_
                            refine b_bipush rfl ?_
                            refine b_iload_n rfl rfl ?_
                            refine b_iadd rfl ?_
                            refine b_iaload rfl (by first | rfl | assumption) (hi_ix (17 + p) (by rw [nI_ad]; rfl) (by omega)) (by omega) ?_
                            rw [e17]
                            refine b_iload rfl rfl ?_
                            refine b_iadd rfl ?_
                            refine b_iconst rfl ?_
                            refine b_isub rfl ?_
                            rw [many_n]
                            refine b_iconst rfl ?_
                            refine b_callV rfl rfl hk_M_willBy rfl rfl rfl (by first | rfl | assumption) rfl (Nat.le_of_ble_eq_true rfl) (q_M_willBy hM9 hB4.2.1.1 hB4.2.1.2 hk) (Nat.le_of_ble_eq_true rfl) (fun r_209 D_209 q_209 => ?_)
                            obtain ⟨hf9, hq9⟩ := q_209
                            obtain ⟨I5, rfl, hI5⟩ := hf9.out
                            rw [hB4.2.2.2.1] at hq9
                            rw [show sp_will (nK N) (nH N) (sp_lf (nC N) (nS N)) 0 k (nI (i % 41)) (sh + nI m) 0 = nI wv from we] at hq9
                            subst hq9
                            have h5 := sm_y h4 (I2 := I5) (fun b hb => hI5 b (by omega))
                            have hB5 := hs_B_sm hB h5
                            have e75 : I5 207 = I4 207 := hI5 207 (by omega)
                            refine b_istore rfl (Nat.le_of_ble_eq_true rfl) ?_
                            refine b_aload_n rfl rfl ?_
                            refine b_iload rfl rfl ?_
                            refine b_iload rfl rfl ?_
                            refine b_callV rfl rfl hk_M_doesFall rfl rfl rfl (by first | rfl | assumption) rfl (Nat.le_of_ble_eq_true rfl) (q_M_doesFall hM9 hB5.2.1.1 hk) (Nat.le_of_ble_eq_true rfl) (fun r_219 D_219 q_219 => ?_)
                            obtain ⟨rfl, hq9⟩ := q_219
                            rw [hB5.2.2.2.1, if_neg (show ¬ sp_fall (nK N) (nH N) 0 k (nI wv) from fun z => hfa (by show sp_fall (nK N) (nH N) 0 k (sr_w N sh m k (i % 41)); rw [we]; exact z))] at hq9
                            subst hq9
                            refine b_istore rfl (Nat.le_of_ble_eq_true rfl) ?_
                            exact S224 I5 0 h5 e75 (Or.inr ⟨hfa, rfl⟩)
                  · refine b_iload rfl rfl ?_
                    refine b_aload_n rfl rfl ?_
                    refine b_callV rfl rfl hk_M_knots rfl rfl rfl (by first | rfl | assumption) rfl (Nat.le_of_ble_eq_true rfl) (q_M_knots hM9 hn4) (Nat.le_of_ble_eq_true rfl) (fun r_152 D_152 q_152 => ?_)
                    obtain ⟨rfl, rfl⟩ := q_152
                    refine b_icmp_ge rfl (fun c_155 => ?_) (fun c_155 => ?_)
                    · exact absurd c_155 (nI_ge hk (by omega))
                    · refine b_aload_n rfl rfl ?_
                      refine b_getR rfl (by first | rfl | assumption) rfl (by assumption) ?_
                      refine b_iload rfl rfl ?_
                      refine b_baload rfl (by first | rfl | assumption) (by first | assumption | exact nI_toInt (by omega) | exact hi_l0 | exact hi_l1 | exact hi_l2 | exact hi_l3 | exact hi_l4 | exact hi_l5 | exact hi_l6) (by omega) ?_
                      rw [ec4]
                      refine b_if_eq rfl (fun c_165 => ?_) (fun c_165 => ?_)
                      · exact absurd c_165 (by decide)
                      · refine b_aload_n rfl rfl ?_
                        refine b_iload rfl rfl ?_
                        refine b_bipush rfl ?_
                        refine b_idiv rfl (by decide) ?_
                        rw [id1]
                        refine b_callV rfl rfl hk_M_stringsFrom rfl rfl rfl (by first | rfl | assumption) rfl (Nat.le_of_ble_eq_true rfl) (q_M_stringsFrom hB4 (show i / 41 < 8 by omega)) (Nat.le_of_ble_eq_true rfl) (fun r_174 D_174 q_174 => ?_)
                        obtain ⟨rfl, rfl⟩ := q_174
                        rw [← hss]
                        refine b_iload rfl rfl ?_
                        refine b_ishr rfl ?_
                        refine b_iconst rfl ?_
                        refine b_iand rfl ?_
                        refine b_iconst rfl ?_
                        refine b_icmp_ne rfl (fun c_183 => ?_) (fun c_183 => ?_)
                        · refine b_iinc rfl rfl (Nat.le_of_ble_eq_true rfl) ?_
                          refine b_goto rfl ?_
                          exact b_lp (ih3 I4 b h4 hC0 (fg_c (fg_or hb (fun z : fx N s sh pl w0 a k0 m i k => hbit z.1.2.2)) dn_k.symm) (fun x hx => fg_c (fg_or (hC4 x hx) (fun z : fy N s sh pl w0 m x i k => hbit z.1.2.2)) dn_k.symm)) (le_e (le_e (le_e (le_e (le_e (le_e (le_e (le_q (by rw [nI_succ k]) (le_n (le_n le_0)))))))))) rfl rfl
                        · exact absurd ((hi_bit1 _).mp c_183) hbit
              refine b_iload rfl rfl ?_
              refine b_bipush rfl ?_
              refine b_aload_n rfl rfl ?_
              refine b_callV rfl rfl hk_M_knots rfl rfl rfl (by first | rfl | assumption) rfl (Nat.le_of_ble_eq_true rfl) (q_M_knots hM9 hn3) (Nat.le_of_ble_eq_true rfl) (fun r_139 D_139 q_139 => ?_)
              obtain ⟨rfl, rfl⟩ := q_139
              refine b_imul rfl ?_
              rw [e41]
              refine b_icmp_ge rfl (fun c_143 => ?_) (fun c_143 => ?_)
              · exact absurd c_143 (nI_ge hi (by omega))
              · refine b_iconst rfl ?_
                refine b_istore rfl (Nat.le_of_ble_eq_true rfl) ?_
                exact b_lp (S149 I3 b h3 hC0 hb hC3) (le_e (le_e (le_e (le_e (le_e (le_e (le_e (le_q (by rfl) (le_n (le_n le_0)))))))))) rfl rfl
            · have hnx : ∀ k, ¬ fx N s sh pl w0 a k0 m i k := fun k z => hyes ⟨z.1.1, z.1.2.1⟩
              have hny : ∀ x k, ¬ fy N s sh pl w0 m x i k := fun x k z => hyes ⟨z.1.1, z.1.2.1⟩
              refine b_iload rfl rfl ?_
              refine b_bipush rfl ?_
              refine b_aload_n rfl rfl ?_
              refine b_callV rfl rfl hk_M_knots rfl rfl rfl (by first | rfl | assumption) rfl (Nat.le_of_ble_eq_true rfl) (q_M_knots hM9 hn3) (Nat.le_of_ble_eq_true rfl) (fun r_139 D_139 q_139 => ?_)
              obtain ⟨rfl, rfl⟩ := q_139
              refine b_imul rfl ?_
              rw [e41]
              refine b_icmp_ge rfl (fun c_143 => ?_) (fun c_143 => ?_)
              · exact absurd c_143 (nI_ge hi (by omega))
              · refine b_iconst rfl ?_
                refine b_istore rfl (Nat.le_of_ble_eq_true rfl) ?_
                refine b_iload rfl rfl ?_
                refine b_aload_n rfl rfl ?_
                refine b_callV rfl rfl hk_M_knots rfl rfl rfl (by first | rfl | assumption) rfl (Nat.le_of_ble_eq_true rfl) (q_M_knots hM9 hn3) (Nat.le_of_ble_eq_true rfl) (fun r_152 D_152 q_152 => ?_)
                obtain ⟨rfl, rfl⟩ := q_152
                refine b_icmp_ge rfl (fun c_155 => ?_) (fun c_155 => ?_)
                · refine b_iinc rfl rfl (Nat.le_of_ble_eq_true rfl) ?_
                  refine b_goto rfl ?_
                  exact b_lp (ih2 I3 b h3 hC0 (fg_c hb (dn_no hnx)) (fun x hx => fg_c (hC3 x hx) (dn_no (hny x)))) (le_e (le_e (le_e (le_e (le_e (le_e (le_q (by rw [nI_succ i]) (le_n (le_n (le_n le_0)))))))))) rfl rfl
                · refine b_aload_n rfl rfl ?_
                  refine b_getR rfl (by first | rfl | assumption) rfl (by assumption) ?_
                  refine b_iload rfl rfl ?_
                  refine b_baload rfl (by first | rfl | assumption) (by first | assumption | exact nI_toInt (by omega) | exact hi_l0 | exact hi_l1 | exact hi_l2 | exact hi_l3 | exact hi_l4 | exact hi_l5 | exact hi_l6) (by omega) ?_
                  rw [ec]
                  refine b_if_eq rfl (fun c_165 => ?_) (fun c_165 => ?_)
                  · refine b_iinc rfl rfl (Nat.le_of_ble_eq_true rfl) ?_
                    refine b_goto rfl ?_
                    exact b_lp (ih2 I3 b h3 hC0 (fg_c hb (dn_no hnx)) (fun x hx => fg_c (hC3 x hx) (dn_no (hny x)))) (le_e (le_e (le_e (le_e (le_e (le_e (le_q (by rw [nI_succ i]) (le_n (le_n (le_n le_0)))))))))) rfl rfl
                  · exact absurd rfl c_165
        -- the other half is emptied
        have S109 : ∀ I3, hs_sm I J R (I3, J, R) → hs_C I3 0 (fun x => sw N s sh pl w0 m (x / 41) (x % 41) ∧ 0 < x % 41) → (∀ x, x < 0 → I3 207 (328 + x) = 0) → hn_B 3 hm_M_fewest P 109 [.ref 188, .int (nI p), .int (nI a), .int kx, .int (nI (m + 1)), .int 0, .int (nI (328 + 0)), .null, .null, .null] [] (I3, J, R) := by
          refine sp_ind 328 (fun j => ∀ I3, hs_sm I J R (I3, J, R) → hs_C I3 0 (fun x => sw N s sh pl w0 m (x / 41) (x % 41) ∧ 0 < x % 41) → (∀ x, x < j → I3 207 (328 + x) = 0) → hn_B 3 hm_M_fewest P 109 [.ref 188, .int (nI p), .int (nI a), .int kx, .int (nI (m + 1)), .int 0, .int (nI (328 + j)), .null, .null, .null] [] (I3, J, R)) ?_ ?_
          · intro I3 h3 hC3 hx
            have nod : ∀ X : Nat → Nat → Prop, ¬ ∃ i k, dn N.1 0 0 i k ∧ X i k := fun X ⟨i, k, h, _⟩ => by unfold dn at h; omega
            refine b_iload rfl rfl ?_
            refine b_sipush rfl ?_
            refine b_icmp_ge rfl (fun c_114 => ?_) (fun c_114 => ?_)
            · refine b_iconst rfl ?_
              refine b_istore rfl (Nat.le_of_ble_eq_true rfl) ?_
              exact b_lp (S134 I3 0 h3 hC3 (Or.inr ⟨nod _, rfl⟩) (fun x hx9 => Or.inr ⟨nod _, hx x hx9⟩)) (le_e (le_e (le_e (le_e (le_e (le_e (le_q (by rfl) (le_n (le_n (le_n le_0)))))))))) rfl rfl
            · exact absurd (show (656 : Int32) ≤ nI (328 + 328) by decide) c_114
          · intro j hj ih4 I3 h3 hC3 hx
            refine b_iload rfl rfl ?_
            refine b_sipush rfl ?_
            refine b_icmp_ge rfl (fun c_114 => ?_) (fun c_114 => ?_)
            · exact absurd c_114 (nI_ge (b := 656) (show 328 + j < 656 by omega) (by omega))
            · refine b_aload_n rfl rfl ?_
              refine b_getR rfl (by first | rfl | assumption) rfl (by assumption) ?_
              refine b_iload rfl rfl ?_
              refine b_iconst rfl ?_
              refine b_bastore rfl (by first | rfl | assumption) (nI_toInt (n := 328 + j) (by omega)) (by omega) rfl ?_
              refine b_iinc rfl rfl (Nat.le_of_ble_eq_true rfl) ?_
              refine b_goto rfl ?_
              exact b_lp (ih4 (hn_u I3 207 (328 + j) 0) (sm_y h3 (fun b hb => hn_u_ne _ _ _ (by omega))) (fun x hx9 => by rw [hn_u_eq, va_up, if_neg (by omega)]; exact hC3 x hx9) (fun x hx9 => by rw [hn_u_eq]; exact up_0 (fun e => hx x (by omega)))) (le_e (le_e (le_e (le_e (le_e (le_e (le_q (by rw [← Nat.add_assoc, nI_succ (328 + j)]) (le_n (le_n (le_n le_0)))))))))) rfl rfl
        refine b_iload rfl rfl ?_
        refine b_bipush rfl ?_
        refine b_icmp_gt rfl (fun c_98 => ?_) (fun c_98 => ?_)
        · exact absurd c_98 c98
        · refine b_iconst rfl ?_
          refine b_istore rfl (Nat.le_of_ble_eq_true rfl) ?_
          refine b_sipush rfl ?_
          refine b_istore rfl (Nat.le_of_ble_eq_true rfl) ?_
          exact b_lp (S109 I2 h2 hC (fun x hx => absurd hx (by omega))) (le_e (le_e (le_e (le_e (le_e (le_e (le_q (by rfl) (le_n (le_n (le_n le_0)))))))))) rfl rfl
    -- the start
    have hsg0 : sg N s sh pl w0 (aimN a k0) 0 ↔ a = 0 ∧ k0 = pl := by
      rcases (show a = 0 ∨ a = 1 ∨ a = 2 by omega) with rfl | rfl | rfl
      · have hk := (hk0 rfl).1
        unfold sg aimN; rw [if_pos rfl, if_neg (by omega), if_neg (by omega)]
        constructor
        · rintro ⟨w, h⟩; exact ⟨rfl, h.1⟩
        · rintro ⟨_, h⟩; exact ⟨w0, h, rfl⟩
      · unfold sg aimN; rw [if_neg (by omega : ¬ (1 : Nat) = 0), if_pos rfl, if_neg (by omega : ¬ (8 : Nat) = 9), if_pos rfl]
        constructor
        · rintro ⟨k, _, h⟩; exact absurd h.2 (by omega)
        · rintro ⟨h, _⟩; omega
      · unfold sg aimN; rw [if_neg (by omega : ¬ (2 : Nat) = 0), if_neg (by omega : ¬ (2 : Nat) = 1), if_pos rfl]
        constructor
        · rintro ⟨k, h, _⟩; omega
        · rintro ⟨h, _⟩; omega
    have hf0 := @sp_first_s (sg N s sh pl w0 (aimN a k0)) (fun _ => Classical.propDecidable _) 31 0 (by omega)
    have e13 : I' 204 (13 + p) = nI pl := by
      have := hB1.2.2.1.1.2.2.2.1 p (by omega)
      rw [Nat.zero_add] at this
      rw [this, epl]
    have e9 : I' 204 (9 + p) = nI w0 := by
      have := hB1.2.2.1.1.2.2.1 p (by omega)
      rw [Nat.zero_add] at this
      rw [this, ew]
    obtain ⟨P, hPd⟩ : ∃ P : Option Value → hnD → Prop, P = (fun r D' => hs_sm I J R D' ∧ r = some (.int (v_few N s sh pl w0 (aimN a k0)))) := ⟨_, rfl⟩
    rw [← hPd]
    have S38 : ¬ (a = 0 ∧ k0 = pl) → hn_B 3 hm_M_fewest P 38 [.ref 188, .int (nI p), .int (nI a), .int kx, .null, .null, .null, .null, .null, .null] [] (I', J, R) := by
      intro hne
      have hng : ¬ sg N s sh pl w0 (aimN a k0) 0 := fun z => hne (hsg0.mp z)
      have hPd2 : P = (fun r D' => hs_sm I J R D' ∧ r = some (.int (@sp_first (sg N s sh pl w0 (aimN a k0)) (fun _ => Classical.propDecidable _) (31 - 1) 1))) := by
        rw [hPd]
        have e : v_few N s sh pl w0 (aimN a k0) = @sp_first (sg N s sh pl w0 (aimN a k0)) (fun _ => Classical.propDecidable _) (31 - 1) 1 := by
          show @sp_first (sg N s sh pl w0 (aimN a k0)) (fun _ => Classical.propDecidable _) (31 - 0) 0 = _
          rw [hf0, if_neg hng]
        rw [e]
      have l0 : ∀ I2, hs_sm I J R (I2, J, R) → (∀ x, x < 0 → I2 207 x = 0) → hn_B 3 hm_M_fewest P 41 [.ref 188, .int (nI p), .int (nI a), .int kx, .int (nI 0), .null, .null, .null, .null, .null] [] (I2, J, R) := by
        refine sp_ind 328 (fun j => ∀ I2, hs_sm I J R (I2, J, R) → (∀ x, x < j → I2 207 x = 0) → hn_B 3 hm_M_fewest P 41 [.ref 188, .int (nI p), .int (nI a), .int kx, .int (nI j), .null, .null, .null, .null, .null] [] (I2, J, R)) ?_ ?_
        · intro I2 h2 hx
          have e13 : I2 204 (13 + p) = nI pl := by rw [← e13]; exact (h2.2.2.2.1 _ (by omega)).trans (hs0.2.2.2.1 _ (by omega)).symm
          have e9 : I2 204 (9 + p) = nI w0 := by rw [← e9]; exact (h2.2.2.2.1 _ (by omega)).trans (hs0.2.2.2.1 _ (by omega)).symm
          have eix : (41 : Int32) * nI pl + nI w0 = nI (41 * pl + w0) := by rw [nI_ad, nI_ml]; rfl
          have hCn : hs_C (hn_u I2 207 (41 * pl + w0) 1) 0 (fun x => sw N s sh pl w0 0 (x / 41) (x % 41) ∧ 0 < x % 41) := by
            intro x hx9
            rw [hn_u_eq, Nat.zero_add]
            unfold va_up
            by_cases e : x = 41 * pl + w0
            · rw [if_pos e]
              exact Or.inl ⟨⟨⟨by omega, by omega⟩, by omega⟩, rfl⟩
            · rw [if_neg e]
              exact Or.inr ⟨fun z => e (by have h1 : x / 41 = pl := z.1.1; have h2 : x % 41 = w0 := z.1.2; omega), hx x hx9⟩
          have S9 := S94 (hn_u I2 207 (41 * pl + w0) 1) (sm_y h2 (fun b hb => hn_u_ne _ _ _ (by omega))) hCn hng
          rw [← hPd2] at S9
          refine b_iload rfl rfl ?_
          refine b_sipush rfl ?_
          refine b_icmp_ge rfl (fun c_46 => ?_) (fun c_46 => ?_)
          · refine b_aload_n rfl rfl ?_
            refine b_getR rfl (by first | rfl | assumption) rfl (by assumption) ?_
            refine b_bipush rfl ?_
            refine b_aload_n rfl rfl ?_
            refine b_getR rfl (by first | rfl | assumption) rfl (by assumption) ?_
            refine b_bipush rfl ?_
            refine b_iload_n rfl rfl ?_
            refine b_iadd rfl ?_
            refine b_iaload rfl (by first | rfl | assumption) (hi_ix (13 + p) (by rw [nI_ad]; rfl) (by omega)) (by omega) ?_
            rw [e13]
            refine b_imul rfl ?_
            refine b_aload_n rfl rfl ?_
            refine b_getR rfl (by first | rfl | assumption) rfl (by assumption) ?_
            refine b_bipush rfl ?_
            refine b_iload_n rfl rfl ?_
            refine b_iadd rfl ?_
            refine b_iaload rfl (by first | rfl | assumption) (hi_ix (9 + p) (by rw [nI_ad]; rfl) (by omega)) (by omega) ?_
            rw [e9]
            refine b_iadd rfl ?_
            rw [eix]
            refine b_iconst rfl ?_
            refine b_bastore rfl (by first | rfl | assumption) (by first | assumption | exact nI_toInt (by omega) | exact hi_l0 | exact hi_l1 | exact hi_l2 | exact hi_l3 | exact hi_l4 | exact hi_l5 | exact hi_l6) (by omega) rfl ?_
            refine b_iconst rfl ?_
            refine b_istore rfl (Nat.le_of_ble_eq_true rfl) ?_
            exact b_lp S9 (le_e (le_e (le_e (le_e (le_q (by rfl) (le_n (le_n (le_n (le_n (le_n le_0)))))))))) rfl rfl
          · exact absurd (show (328 : Int32) ≤ nI 328 by decide) c_46
        · intro j hj ih5 I2 h2 hx
          refine b_iload rfl rfl ?_
          refine b_sipush rfl ?_
          refine b_icmp_ge rfl (fun c_46 => ?_) (fun c_46 => ?_)
          · exact absurd c_46 (nI_ge (b := 328) hj (by omega))
          · refine b_aload_n rfl rfl ?_
            refine b_getR rfl (by first | rfl | assumption) rfl (by assumption) ?_
            refine b_iload rfl rfl ?_
            refine b_iconst rfl ?_
            refine b_bastore rfl (by first | rfl | assumption) (by first | assumption | exact nI_toInt (by omega) | exact hi_l0 | exact hi_l1 | exact hi_l2 | exact hi_l3 | exact hi_l4 | exact hi_l5 | exact hi_l6) (by omega) rfl ?_
            refine b_iinc rfl rfl (Nat.le_of_ble_eq_true rfl) ?_
            refine b_goto rfl ?_
            exact b_lp (ih5 (hn_u I2 207 j 0) (sm_y h2 (fun b hb => hn_u_ne _ _ _ (by omega))) (fun x hx9 => by rw [hn_u_eq]; exact up_0 (fun e => hx x (by omega)))) (le_e (le_e (le_e (le_e (le_q (by rw [nI_succ j]) (le_n (le_n (le_n (le_n (le_n le_0)))))))))) rfl rfl
      refine b_iconst rfl ?_
      refine b_istore rfl (Nat.le_of_ble_eq_true rfl) ?_
      exact b_lp (l0 I' hs0 (fun x hx => absurd hx (by omega))) (le_e (le_e (le_e (le_e (le_q (by rfl) (le_n (le_n (le_n (le_n (le_n le_0)))))))))) rfl rfl
    have n4' : N.2.1 ≤ 4 := n4
    by_cases ha0 : a = 0
    · subst ha0
      obtain ⟨hk09, hkx⟩ := hk0 rfl
      by_cases hkp : k0 = pl
      · have hyg : sg N s sh pl w0 (aimN 0 k0) 0 := hsg0.mpr ⟨rfl, hkp⟩
        have hv : v_few N s sh pl w0 (aimN 0 k0) = 0 := by
          show @sp_first (sg N s sh pl w0 (aimN 0 k0)) (fun _ => Classical.propDecidable _) (31 - 0) 0 = _
          rw [hf0, if_pos hyg]; rfl
        refine b_aload_n rfl rfl ?_
        refine b_iload_n rfl rfl ?_
        refine b_callV rfl rfl hk_M_isPerson rfl rfl rfl (by first | rfl | assumption) rfl (Nat.le_of_ble_eq_true rfl) (q_M_isPerson hM9 hB1.2.1.1.2.2.1 n4') (Nat.le_of_ble_eq_true rfl) (fun r_2 D_2 q_2 => ?_)
        obtain ⟨rfl, hq⟩ := q_2
        rw [if_pos hxp] at hq
        subst hq
        refine b_if_eq rfl (fun c_5 => ?_) (fun c_5 => ?_)
        · exact absurd c_5 (by decide)
        · refine b_aload_n rfl rfl ?_
          refine b_iconst rfl ?_
          refine b_iload_n rfl rfl ?_
          refine b_callV rfl rfl hk_M_isAwake rfl rfl rfl (by first | rfl | assumption) rfl (Nat.le_of_ble_eq_true rfl) (q_M_isAwake hM9 hB1.2.2.1.1 n8 hw9.1 (show p < 4 by omega) rfl) (Nat.le_of_ble_eq_true rfl) (fun r_11 D_11 q_11 => ?_)
          obtain ⟨rfl, hq⟩ := q_11
          rw [if_pos haw] at hq
          subst hq
          refine b_if_ne rfl (fun c_14 => ?_) (fun c_14 => ?_)
          · refine b_iload_n rfl rfl ?_
            refine b_if_ne rfl (fun c_20 => ?_) (fun c_20 => ?_)
            · exact absurd (show nI 0 = 0 from rfl) c_20
            · refine b_aload_n rfl rfl ?_
              refine b_getR rfl (by first | rfl | assumption) rfl (by assumption) ?_
              refine b_bipush rfl ?_
              refine b_iload_n rfl rfl ?_
              refine b_iadd rfl ?_
              refine b_iaload rfl (by first | rfl | assumption) (hi_ix (13 + p) (by rw [nI_ad]; rfl) (by omega)) (by omega) ?_
              rw [e13]
              refine b_iload_n rfl rfl ?_
              refine b_icmp_ne rfl (fun c_33 => ?_) (fun c_33 => ?_)
              · exact absurd (by rw [hkx, hkp]) c_33
              · refine b_iconst rfl ?_
                exact b_ireturn rfl trivial ((by rw [hPd]; exact ⟨hs0, by rw [hv]⟩))
          · exact absurd c_14 (by decide)
      · refine b_aload_n rfl rfl ?_
        refine b_iload_n rfl rfl ?_
        refine b_callV rfl rfl hk_M_isPerson rfl rfl rfl (by first | rfl | assumption) rfl (Nat.le_of_ble_eq_true rfl) (q_M_isPerson hM9 hB1.2.1.1.2.2.1 n4') (Nat.le_of_ble_eq_true rfl) (fun r_2 D_2 q_2 => ?_)
        obtain ⟨rfl, hq⟩ := q_2
        rw [if_pos hxp] at hq
        subst hq
        refine b_if_eq rfl (fun c_5 => ?_) (fun c_5 => ?_)
        · exact absurd c_5 (by decide)
        · refine b_aload_n rfl rfl ?_
          refine b_iconst rfl ?_
          refine b_iload_n rfl rfl ?_
          refine b_callV rfl rfl hk_M_isAwake rfl rfl rfl (by first | rfl | assumption) rfl (Nat.le_of_ble_eq_true rfl) (q_M_isAwake hM9 hB1.2.2.1.1 n8 hw9.1 (show p < 4 by omega) rfl) (Nat.le_of_ble_eq_true rfl) (fun r_11 D_11 q_11 => ?_)
          obtain ⟨rfl, hq⟩ := q_11
          rw [if_pos haw] at hq
          subst hq
          refine b_if_ne rfl (fun c_14 => ?_) (fun c_14 => ?_)
          · refine b_iload_n rfl rfl ?_
            refine b_if_ne rfl (fun c_20 => ?_) (fun c_20 => ?_)
            · exact absurd (show nI 0 = 0 from rfl) c_20
            · refine b_aload_n rfl rfl ?_
              refine b_getR rfl (by first | rfl | assumption) rfl (by assumption) ?_
              refine b_bipush rfl ?_
              refine b_iload_n rfl rfl ?_
              refine b_iadd rfl ?_
              refine b_iaload rfl (by first | rfl | assumption) (hi_ix (13 + p) (by rw [nI_ad]; rfl) (by omega)) (by omega) ?_
              rw [e13]
              refine b_iload_n rfl rfl ?_
              refine b_icmp_ne rfl (fun c_33 => ?_) (fun c_33 => ?_)
              · exact S38 (fun z => hkp z.2)
              · exact absurd ((hi_nIe (by omega) (by omega)).mp (c_33.trans hkx)).symm hkp
          · exact absurd c_14 (by decide)
    · have hna : ¬ nI a = 0 := fun z => ha0 ((hi_nIe (k := 0) (by omega) (by omega)).mp z)
      refine b_aload_n rfl rfl ?_
      refine b_iload_n rfl rfl ?_
      refine b_callV rfl rfl hk_M_isPerson rfl rfl rfl (by first | rfl | assumption) rfl (Nat.le_of_ble_eq_true rfl) (q_M_isPerson hM9 hB1.2.1.1.2.2.1 n4') (Nat.le_of_ble_eq_true rfl) (fun r_2 D_2 q_2 => ?_)
      obtain ⟨rfl, hq⟩ := q_2
      rw [if_pos hxp] at hq
      subst hq
      refine b_if_eq rfl (fun c_5 => ?_) (fun c_5 => ?_)
      · exact absurd c_5 (by decide)
      · refine b_aload_n rfl rfl ?_
        refine b_iconst rfl ?_
        refine b_iload_n rfl rfl ?_
        refine b_callV rfl rfl hk_M_isAwake rfl rfl rfl (by first | rfl | assumption) rfl (Nat.le_of_ble_eq_true rfl) (q_M_isAwake hM9 hB1.2.2.1.1 n8 hw9.1 (show p < 4 by omega) rfl) (Nat.le_of_ble_eq_true rfl) (fun r_11 D_11 q_11 => ?_)
        obtain ⟨rfl, hq⟩ := q_11
        rw [if_pos haw] at hq
        subst hq
        refine b_if_ne rfl (fun c_14 => ?_) (fun c_14 => ?_)
        · refine b_iload_n rfl rfl ?_
          refine b_if_ne rfl (fun c_20 => ?_) (fun c_20 => ?_)
          · exact S38 (fun z => ha0 z.1)
          · exact absurd c_20 hna
        · exact absurd c_14 (by decide)
  · rw [few, if_neg haw]
    refine b_aload_n rfl rfl ?_
    refine b_iload_n rfl rfl ?_
    refine b_callV rfl rfl hk_M_isPerson rfl rfl rfl (by first | rfl | assumption) rfl (Nat.le_of_ble_eq_true rfl) (q_M_isPerson hM9 hB1.2.1.1.2.2.1 n4) (Nat.le_of_ble_eq_true rfl) (fun r_2 D_2 q_2 => ?_)
    obtain ⟨rfl, hq⟩ := q_2
    rw [if_pos hxp] at hq
    subst hq
    refine b_if_eq rfl (fun c_5 => ?_) (fun c_5 => ?_)
    · exact absurd c_5 (by decide)
    · refine b_aload_n rfl rfl ?_
      refine b_iconst rfl ?_
      refine b_iload_n rfl rfl ?_
      refine b_callV rfl rfl hk_M_isAwake rfl rfl rfl (by first | rfl | assumption) rfl (Nat.le_of_ble_eq_true rfl) (q_M_isAwake hM9 hB1.2.2.1.1 n8 hw9.1 (show p < 4 by omega) rfl) (Nat.le_of_ble_eq_true rfl) (fun r_11 D_11 q_11 => ?_)
      obtain ⟨rfl, hq⟩ := q_11
      rw [if_neg haw] at hq
      subst hq
      refine b_if_ne rfl (fun c_14 => ?_) (fun c_14 => ?_)
      · exact absurd rfl c_14
      · refine b_iconst rfl ?_
        exact b_ireturn rfl trivial (⟨hs0, rfl⟩)
end HNmfewest
