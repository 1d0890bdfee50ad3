section HNcut
variable {I I' : Nat → Nat → Int32} {J J' : Nat → Nat → Int64} {R R' : Nat → Nat → Option Nat}
/-! the reference's tokens: words read to the base 37 -/
def w37 (f : Nat → Nat) (q : Nat) : Nat → Nat := sp_up (fun i x => 37 * x + (f (q + i) - 96)) 0
def cvF : Nat → Nat → Nat
  | 0, _ => 0
  | m + 1, v => 37 * cvF m (v / 27) + v % 27
abbrev cv (v : Nat) : Nat := cvF 8 v
theorem run_all (c : Nat → Prop) [DecidablePred c] (f : Nat → Nat) : ∀ m p i, p ≤ i → i < run c f m p → c (f i)
  | 0, p, i, h, g => by
    have e : run c f 0 p = p := rfl
    omega
  | m + 1, p, i, h, g => by
    have e : run c f (m + 1) p = if c (f p) then run c f m (p + 1) else p := rfl
    rw [e] at g
    by_cases hc : c (f p)
    · rw [if_pos hc] at g
      by_cases hi : i = p
      · rw [hi]; exact hc
      · exact run_all c f m (p + 1) i (by omega) g
    · rw [if_neg hc] at g; omega
theorem w27_l {f : Nat → Nat} {q : Nat} : ∀ m, (∀ i, i < m → isL (f (q + i))) → w27 f q m < 27 ^ m
  | 0, _ => by show 0 < 1; omega
  | m + 1, h => by
    have ih := w27_l m (fun i hi => h i (by omega))
    have h1 := (h m (by omega)).2
    show w27 f q m * 27 + (f (q + m) - 96) < 27 ^ (m + 1)
    rw [Nat.pow_succ]
    generalize 27 ^ m = z at ih ⊢
    omega
theorem cv_0 : ∀ m, cvF m 0 = 0
  | 0 => rfl
  | m + 1 => by
    show 37 * cvF m (0 / 27) + 0 % 27 = 0
    rw [show 0 / 27 = 0 from rfl, cv_0 m]
theorem cv_w {f : Nat → Nat} {q : Nat} : ∀ m M, m ≤ M → (∀ i, i < m → isL (f (q + i))) → cvF M (w27 f q m) = w37 f q m
  | 0, M, _, _ => cv_0 M
  | m + 1, 0, h, _ => by omega
  | m + 1, M + 1, h, g => by
    have ih := cv_w m M (by omega) (fun i hi => g i (by omega))
    have h1 := g m (by omega)
    have e1 : (w27 f q m * 27 + (f (q + m) - 96)) / 27 = w27 f q m := by omega
    have e2 : (w27 f q m * 27 + (f (q + m) - 96)) % 27 = f (q + m) - 96 := by omega
    show 37 * cvF M ((w27 f q m * 27 + (f (q + m) - 96)) / 27) + (w27 f q m * 27 + (f (q + m) - 96)) % 27 = 37 * w37 f q m + (f (q + m) - 96)
    rw [e1, e2, ih]
theorem cv_inj : ∀ (M a b : Nat), a < 27 ^ M → b < 27 ^ M → cvF M a = cvF M b → a = b
  | 0, a, b, h1, h2, _ => by
    have : (27 : Nat) ^ 0 = 1 := rfl
    omega
  | M + 1, a, b, h1, h2, h => by
    have h3 : 37 * cvF M (a / 27) + a % 27 = 37 * cvF M (b / 27) + b % 27 := h
    rw [Nat.pow_succ] at h1 h2
    have ih := cv_inj M (a / 27) (b / 27) (Nat.div_lt_of_lt_mul (by rw [Nat.mul_comm]; exact h1)) (Nat.div_lt_of_lt_mul (by rw [Nat.mul_comm]; exact h2))
    have h4 : cvF M (a / 27) = cvF M (b / 27) := by omega
    have := ih h4
    omega
theorem cv_lt : ∀ (M a : Nat), cvF M a < 37 ^ M
  | 0, a => by show 0 < 1; omega
  | M + 1, a => by
    have ih := cv_lt M (a / 27)
    show 37 * cvF M (a / 27) + a % 27 < 37 ^ (M + 1)
    rw [Nat.pow_succ]
    generalize 37 ^ M = z at ih ⊢
    omega
theorem num_d {f : Nat → Nat} {q : Nat} : ∀ m, (∀ i, i < m → isD (f (q + i))) → num f q m < 10 ^ m
  | 0, _ => by show 0 < 1; omega
  | m + 1, h => by
    have ih := num_d m (fun i hi => h i (by omega))
    have h1 := (h m (by omega)).2
    show num f q m * 10 + (f (q + m) - 48) < 10 ^ (m + 1)
    rw [Nat.pow_succ]
    generalize 10 ^ m = z at ih ⊢
    omega
/-! what a token is -/
theorem tok_n (f : Nat → Nat) {n p : Nat} (h : n ≤ p) : tok f n p = (0, p, p, 0) := by
  have e : run isB f (n - p) p = p := by rw [show n - p = 0 by omega]; rfl
  unfold tok
  simp only [e]
  rw [if_pos h]
theorem tok_b {f : Nat → Nat} {n p : Nat} (h : p < n) (hb : isB (f p)) : tok f n p = tok f n (p + 1) := by
  unfold tok
  rw [run_y h hb]
theorem tok_x {f : Nat → Nat} {n p : Nat} (h : p < n) (hb : ¬ isB (f p)) : tok f n p = if isL (f p) then (if 8 < run isL f (n - p) p - p then 4 else 1, p, run isL f (n - p) p, w27 f p (run isL f (n - p) p - p)) else if isD (f p) then (if 4 < run isD f (n - p) p - p then 4 else 2, p, run isD f (n - p) p, num f p (run isD f (n - p) p - p)) else (if isS (f p) then 3 else 4, p, p + 1, f p) := by
  have e : run isB f (n - p) p = p := run_n (fun _ => hb)
  unfold tok
  simp only [e]
  rw [if_neg (by omega)]
theorem tok_9 {f : Nat → Nat} {n p : Nat} : ((tok f n p).1 = 2 → (tok f n p).2.2.2 < 10000) ∧ ((tok f n p).1 = 1 → (tok f n p).2.2.2 < 27 ^ 8 ∧ 0 < (tok f n p).2.2.2) := by
  obtain ⟨q, hq⟩ : ∃ q, q = run isB f (n - p) p := ⟨_, rfl⟩
  unfold tok
  simp only [← hq]
  by_cases h1 : n ≤ q
  · rw [if_pos h1]; exact ⟨(fun z => by cases z), (fun z => by cases z)⟩
  rw [if_neg h1]
  by_cases h2 : isL (f q)
  · rw [if_pos h2]
    have hl := run_all isL f (n - q) q
    have hf := run_first (n := n) (by omega) h2
    obtain ⟨e, he⟩ : ∃ e, e = run isL f (n - q) q := ⟨_, rfl⟩
    rw [← he] at hl hf ⊢
    by_cases h3 : 8 < e - q
    · rw [if_pos h3]; exact ⟨(fun z => by cases z), (fun z => by cases z)⟩
    · rw [if_neg h3]
      refine ⟨(fun z => by cases z), fun _ => ⟨Nat.lt_of_lt_of_le (w27_l (e - q) (fun i hi => hl _ (by omega) (by omega))) (Nat.pow_le_pow_right (by omega) (by omega)), ?_⟩⟩
      obtain ⟨m, hm⟩ : ∃ m, e - q = m + 1 := ⟨e - q - 1, by omega⟩
      rw [hm]
      have := (hl (q + m) (by omega) (by omega)).1
      show 0 < w27 f q m * 27 + (f (q + m) - 96)
      omega
  rw [if_neg h2]
  by_cases h3 : isD (f q)
  · rw [if_pos h3]
    have hl := run_all isD f (n - q) q
    obtain ⟨e, he⟩ : ∃ e, e = run isD f (n - q) q := ⟨_, rfl⟩
    rw [← he] at hl ⊢
    by_cases h4 : 4 < e - q
    · rw [if_pos h4]; exact ⟨(fun z => by cases z), (fun z => by cases z)⟩
    · rw [if_neg h4]
      exact ⟨fun _ => Nat.lt_of_lt_of_le (num_d (e - q) (fun i hi => hl _ (by omega) (by omega))) (show 10 ^ (e - q) ≤ 10 ^ 4 from Nat.pow_le_pow_right (by omega) (by omega)), (fun z => by cases z)⟩
  rw [if_neg h3]
  refine ⟨fun z => ?_, fun z => ?_⟩
  · have z : (if isS (f q) then 3 else 4) = 2 := z
    split at z <;> omega
  · have z : (if isS (f q) then 3 else 4) = 1 := z
    split at z <;> omega
theorem tq_9 {f : Nat → Nat} {n : Nat} : ∀ k, ((tq f n k).1 = 2 → (tq f n k).2.2.2 < 10000) ∧ ((tq f n k).1 = 1 → (tq f n k).2.2.2 < 27 ^ 8 ∧ 0 < (tq f n k).2.2.2)
  | 0 => tok_9
  | _ + 1 => tok_9
theorem tok_0 {f : Nat → Nat} {n p : Nat} (hp : p ≤ n) (h : (tok f n p).1 = 0) : (tok f n p).2.2.1 = n := by
  obtain ⟨q, hq⟩ : ∃ q, q = run isB f (n - p) p := ⟨_, rfl⟩
  have hl := (run_le isB f (n - p) p).2
  unfold tok at h ⊢
  simp only [← hq] at h ⊢ hl
  by_cases h1 : n ≤ q
  · rw [if_pos h1]
    show q = n
    omega
  rw [if_neg h1] at h
  by_cases h2 : isL (f q)
  · rw [if_pos h2] at h
    have h : (if 8 < run isL f (n - q) q - q then 4 else 1) = 0 := h
    split at h <;> omega
  rw [if_neg h2] at h
  by_cases h3 : isD (f q)
  · rw [if_pos h3] at h
    have h : (if 4 < run isD f (n - q) q - q then 4 else 2) = 0 := h
    split at h <;> omega
  rw [if_neg h3] at h
  have h : (if isS (f q) then 3 else 4) = 0 := h
  split at h <;> omega
theorem tq_0 {f : Nat → Nat} {n k : Nat} (h : (tq f n k).1 = 0) : (tq f n (k + 1)).1 = 0 := by
  have e : (tq f n k).2.2.1 = n := by
    cases k with
    | zero => exact tok_0 (Nat.zero_le _) h
    | succ k => exact tok_0 (tq_le f n k).1 h
  show (tok f n (tq f n k).2.2.1).1 = 0
  rw [e, tok_n f (Nat.le_refl n)]
theorem tq_00 {f : Nat → Nat} {n E : Nat} (h : (tq f n E).1 = 0) : ∀ k, E ≤ k → (tq f n k).1 = 0 := by
  intro k hk
  obtain ⟨d, rfl⟩ : ∃ d, k = E + d := ⟨k - E, by omega⟩
  induction d with
  | zero => exact h
  | succ d ih => exact tq_0 (ih (by omega))
/-! signs -/
theorem q_M_isLetter {c : Nat} (hc : c < 128) : hn_F 0 hm_M_isLetter [.int (nI c)] (I, J, R) (fun r D' => (∃ b, r = some (.int b) ∧ fg (isL c) b) ∧ D' = (I, J, R)) := by
  refine hn_F_of _ hk_M_isLetter rfl (Nat.le_of_ble_eq_true rfl) ?_
  have i97 : nI c < 97 ↔ c < 97 := nI_lt_c (k := 97) (by omega) (by omega)
  have i122 : 122 < nI c ↔ 122 < c := nI_lt_c (c := 122) (by omega) (by omega)
  by_cases h1 : c < 97
  · refine b_iload_n rfl rfl ?_
    refine b_bipush rfl ?_
    refine b_icmp_lt rfl (fun c_3 => ?_) (fun c_3 => ?_)
    · refine b_iconst rfl ?_
      exact b_ireturn rfl (by first | exact Or.inl rfl | exact Or.inr rfl | exact trivial) (⟨⟨0, rfl, Or.inr ⟨fun z => by omega, rfl⟩⟩, rfl⟩)
    · exact absurd (i97.mpr h1) c_3
  · by_cases h2 : 122 < c
    · refine b_iload_n rfl rfl ?_
      refine b_bipush rfl ?_
      refine b_icmp_lt rfl (fun c_3 => ?_) (fun c_3 => ?_)
      · exact absurd (i97.mp c_3) h1
      · refine b_iload_n rfl rfl ?_
        refine b_bipush rfl ?_
        refine b_icmp_gt rfl (fun c_9 => ?_) (fun c_9 => ?_)
        · refine b_iconst rfl ?_
          exact b_ireturn rfl (by first | exact Or.inl rfl | exact Or.inr rfl | exact trivial) (⟨⟨0, rfl, Or.inr ⟨fun z => by omega, rfl⟩⟩, rfl⟩)
        · exact absurd (i122.mpr h2) c_9
    · refine b_iload_n rfl rfl ?_
      refine b_bipush rfl ?_
      refine b_icmp_lt rfl (fun c_3 => ?_) (fun c_3 => ?_)
      · exact absurd (i97.mp c_3) h1
      · refine b_iload_n rfl rfl ?_
        refine b_bipush rfl ?_
        refine b_icmp_gt rfl (fun c_9 => ?_) (fun c_9 => ?_)
        · exact absurd (i122.mp c_9) h2
        · refine b_iconst rfl ?_
          refine b_goto rfl ?_
          exact b_ireturn rfl (by first | exact Or.inl rfl | exact Or.inr rfl | exact trivial) (⟨⟨1, rfl, Or.inl ⟨⟨by omega, by omega⟩, rfl⟩⟩, rfl⟩)
theorem q_M_isDigit {c : Nat} (hc : c < 128) : hn_F 0 hm_M_isDigit [.int (nI c)] (I, J, R) (fun r D' => (∃ b, r = some (.int b) ∧ fg (isD c) b) ∧ D' = (I, J, R)) := by
  refine hn_F_of _ hk_M_isDigit rfl (Nat.le_of_ble_eq_true rfl) ?_
  have i97 : nI c < 48 ↔ c < 48 := nI_lt_c (k := 48) (by omega) (by omega)
  have i122 : 57 < nI c ↔ 57 < c := nI_lt_c (c := 57) (by omega) (by omega)
  by_cases h1 : c < 48
  · refine b_iload_n rfl rfl ?_
    refine b_bipush rfl ?_
    refine b_icmp_lt rfl (fun c_3 => ?_) (fun c_3 => ?_)
    · refine b_iconst rfl ?_
      exact b_ireturn rfl (by first | exact Or.inl rfl | exact Or.inr rfl | exact trivial) (⟨⟨0, rfl, Or.inr ⟨fun z => by omega, rfl⟩⟩, rfl⟩)
    · exact absurd (i97.mpr h1) c_3
  · by_cases h2 : 57 < c
    · refine b_iload_n rfl rfl ?_
      refine b_bipush rfl ?_
      refine b_icmp_lt rfl (fun c_3 => ?_) (fun c_3 => ?_)
      · exact absurd (i97.mp c_3) h1
      · refine b_iload_n rfl rfl ?_
        refine b_bipush rfl ?_
        refine b_icmp_gt rfl (fun c_9 => ?_) (fun c_9 => ?_)
        · refine b_iconst rfl ?_
          exact b_ireturn rfl (by first | exact Or.inl rfl | exact Or.inr rfl | exact trivial) (⟨⟨0, rfl, Or.inr ⟨fun z => by omega, rfl⟩⟩, rfl⟩)
        · exact absurd (i122.mpr h2) c_9
    · refine b_iload_n rfl rfl ?_
      refine b_bipush rfl ?_
      refine b_icmp_lt rfl (fun c_3 => ?_) (fun c_3 => ?_)
      · exact absurd (i97.mp c_3) h1
      · refine b_iload_n rfl rfl ?_
        refine b_bipush rfl ?_
        refine b_icmp_gt rfl (fun c_9 => ?_) (fun c_9 => ?_)
        · exact absurd (i122.mp c_9) h2
        · refine b_iconst rfl ?_
          refine b_goto rfl ?_
          exact b_ireturn rfl (by first | exact Or.inl rfl | exact Or.inr rfl | exact trivial) (⟨⟨1, rfl, Or.inl ⟨⟨by omega, by omega⟩, rfl⟩⟩, rfl⟩)
theorem q_M_rank {c : Nat} (hc : c < 128) (hl : isL c) : hn_F 1 hm_M_rank [.int (nI c)] (I, J, R) (fun r D' => r = some (.int (nI (c - 96))) ∧ D' = (I, J, R)) := by
  refine hn_F_of _ hk_M_rank rfl (Nat.le_of_ble_eq_true rfl) ?_
  refine b_iload_n rfl rfl ?_
  refine b_callS rfl rfl hk_M_isLetter rfl rfl rfl (Nat.le_of_ble_eq_true rfl) (q_M_isLetter hc) (Nat.le_of_ble_eq_true rfl) (fun r_1 D_1 q_1 => ?_)
  obtain ⟨⟨b, rfl, hb⟩, rfl⟩ := q_1
  refine b_if_eq rfl (fun c_4 => ?_) (fun c_4 => ?_)
  · rcases hb with ⟨_, hb⟩ | ⟨hb, _⟩ <;> first | exact absurd hl hb | (rw [hb] at c_4; exact absurd c_4 (by decide))
  · refine b_iload_n rfl rfl ?_
    refine b_bipush rfl ?_
    refine b_isub rfl ?_
    rw [show (nI c - 96) = nI (c - 96) from nI_sb (a := c) (b := 96) (by omega)]
    refine b_goto rfl ?_
    exact b_ireturn rfl trivial (⟨rfl, rfl⟩)
theorem q_M_isSignOf {c : Nat} (hc : c < 128) : hn_F 0 hm_M_isSignOf [.int (nI c)] (I, J, R) (fun r D' => (∃ b, r = some (.int b) ∧ fg (isS c) b) ∧ D' = (I, J, R)) := by
  refine hn_F_of _ hk_M_isSignOf rfl (Nat.le_of_ble_eq_true rfl) ?_
  have e : ∀ d, d < 128 → (nI c = nI d ↔ c = d) := fun d hd => hi_nIe (by omega) (by omega)
  have f1 : isS c → (∃ b, some (Value.int 1) = some (.int b) ∧ fg (isS c) b) ∧ (I, J, R) = (I, J, R) := fun z => ⟨⟨1, rfl, Or.inl ⟨z, rfl⟩⟩, rfl⟩
  have f0 : ¬ isS c → (∃ b, some (Value.int 0) = some (.int b) ∧ fg (isS c) b) ∧ (I, J, R) = (I, J, R) := fun z => ⟨⟨0, rfl, Or.inr ⟨z, rfl⟩⟩, rfl⟩
  have h0 : ∀ d, d < 128 → nI c = nI d → isS d → (∃ b, some (Value.int 1) = some (.int b) ∧ fg (isS c) b) ∧ (I, J, R) = (I, J, R) := fun d hd z hs => f1 (by rw [(e d hd).mp z]; exact hs)
  have hn : ¬ nI c = 40 → ¬ nI c = 41 → ¬ nI c = 59 → ¬ nI c = 61 → ¬ nI c = 60 → ¬ nI c = 43 → ¬ nI c = 45 → ¬ nI c = 42 → (∃ b, some (Value.int 0) = some (.int b) ∧ fg (isS c) b) ∧ (I, J, R) = (I, J, R) := fun a b d g h i j k => f0 (fun z => by
    rcases z with rfl | rfl | rfl | rfl | rfl | rfl | rfl | rfl
    · exact a rfl
    · exact b rfl
    · exact h rfl
    · exact g rfl
    · exact i rfl
    · exact j rfl
    · exact k rfl
    · exact d rfl)
  refine b_iload_n rfl rfl ?_
  refine b_bipush rfl ?_
  refine b_icmp_eq rfl (fun c_3 => ?_) (fun c_3 => ?_)
  · refine b_iconst rfl ?_
    refine b_goto rfl ?_
    exact b_ireturn rfl (by first | exact Or.inl rfl | exact Or.inr rfl | exact trivial) ((by first | exact hn c_3 c_9 c_15 c_21 c_27 c_33 c_39 (fun z => c_45 z) | exact h0 40 (by decide) c_3 (by decide) | exact h0 41 (by decide) c_9 (by decide) | exact h0 59 (by decide) c_15 (by decide) | exact h0 61 (by decide) c_21 (by decide) | exact h0 60 (by decide) c_27 (by decide) | exact h0 43 (by decide) c_33 (by decide) | exact h0 45 (by decide) c_39 (by decide) | exact h0 42 (by decide) (Classical.not_not.mp c_45) (by decide) | exact h0 42 (by decide) c_45 (by decide)))
  · refine b_iload_n rfl rfl ?_
    refine b_bipush rfl ?_
    refine b_icmp_eq rfl (fun c_9 => ?_) (fun c_9 => ?_)
    · refine b_iconst rfl ?_
      refine b_goto rfl ?_
      exact b_ireturn rfl (by first | exact Or.inl rfl | exact Or.inr rfl | exact trivial) ((by first | exact hn c_3 c_9 c_15 c_21 c_27 c_33 c_39 (fun z => c_45 z) | exact h0 40 (by decide) c_3 (by decide) | exact h0 41 (by decide) c_9 (by decide) | exact h0 59 (by decide) c_15 (by decide) | exact h0 61 (by decide) c_21 (by decide) | exact h0 60 (by decide) c_27 (by decide) | exact h0 43 (by decide) c_33 (by decide) | exact h0 45 (by decide) c_39 (by decide) | exact h0 42 (by decide) (Classical.not_not.mp c_45) (by decide) | exact h0 42 (by decide) c_45 (by decide)))
    · refine b_iload_n rfl rfl ?_
      refine b_bipush rfl ?_
      refine b_icmp_eq rfl (fun c_15 => ?_) (fun c_15 => ?_)
      · refine b_iconst rfl ?_
        refine b_goto rfl ?_
        exact b_ireturn rfl (by first | exact Or.inl rfl | exact Or.inr rfl | exact trivial) ((by first | exact hn c_3 c_9 c_15 c_21 c_27 c_33 c_39 (fun z => c_45 z) | exact h0 40 (by decide) c_3 (by decide) | exact h0 41 (by decide) c_9 (by decide) | exact h0 59 (by decide) c_15 (by decide) | exact h0 61 (by decide) c_21 (by decide) | exact h0 60 (by decide) c_27 (by decide) | exact h0 43 (by decide) c_33 (by decide) | exact h0 45 (by decide) c_39 (by decide) | exact h0 42 (by decide) (Classical.not_not.mp c_45) (by decide) | exact h0 42 (by decide) c_45 (by decide)))
      · refine b_iload_n rfl rfl ?_
        refine b_bipush rfl ?_
        refine b_icmp_eq rfl (fun c_21 => ?_) (fun c_21 => ?_)
        · refine b_iconst rfl ?_
          refine b_goto rfl ?_
          exact b_ireturn rfl (by first | exact Or.inl rfl | exact Or.inr rfl | exact trivial) ((by first | exact hn c_3 c_9 c_15 c_21 c_27 c_33 c_39 (fun z => c_45 z) | exact h0 40 (by decide) c_3 (by decide) | exact h0 41 (by decide) c_9 (by decide) | exact h0 59 (by decide) c_15 (by decide) | exact h0 61 (by decide) c_21 (by decide) | exact h0 60 (by decide) c_27 (by decide) | exact h0 43 (by decide) c_33 (by decide) | exact h0 45 (by decide) c_39 (by decide) | exact h0 42 (by decide) (Classical.not_not.mp c_45) (by decide) | exact h0 42 (by decide) c_45 (by decide)))
        · refine b_iload_n rfl rfl ?_
          refine b_bipush rfl ?_
          refine b_icmp_eq rfl (fun c_27 => ?_) (fun c_27 => ?_)
          · refine b_iconst rfl ?_
            refine b_goto rfl ?_
            exact b_ireturn rfl (by first | exact Or.inl rfl | exact Or.inr rfl | exact trivial) ((by first | exact hn c_3 c_9 c_15 c_21 c_27 c_33 c_39 (fun z => c_45 z) | exact h0 40 (by decide) c_3 (by decide) | exact h0 41 (by decide) c_9 (by decide) | exact h0 59 (by decide) c_15 (by decide) | exact h0 61 (by decide) c_21 (by decide) | exact h0 60 (by decide) c_27 (by decide) | exact h0 43 (by decide) c_33 (by decide) | exact h0 45 (by decide) c_39 (by decide) | exact h0 42 (by decide) (Classical.not_not.mp c_45) (by decide) | exact h0 42 (by decide) c_45 (by decide)))
          · refine b_iload_n rfl rfl ?_
            refine b_bipush rfl ?_
            refine b_icmp_eq rfl (fun c_33 => ?_) (fun c_33 => ?_)
            · refine b_iconst rfl ?_
              refine b_goto rfl ?_
              exact b_ireturn rfl (by first | exact Or.inl rfl | exact Or.inr rfl | exact trivial) ((by first | exact hn c_3 c_9 c_15 c_21 c_27 c_33 c_39 (fun z => c_45 z) | exact h0 40 (by decide) c_3 (by decide) | exact h0 41 (by decide) c_9 (by decide) | exact h0 59 (by decide) c_15 (by decide) | exact h0 61 (by decide) c_21 (by decide) | exact h0 60 (by decide) c_27 (by decide) | exact h0 43 (by decide) c_33 (by decide) | exact h0 45 (by decide) c_39 (by decide) | exact h0 42 (by decide) (Classical.not_not.mp c_45) (by decide) | exact h0 42 (by decide) c_45 (by decide)))
            · refine b_iload_n rfl rfl ?_
              refine b_bipush rfl ?_
              refine b_icmp_eq rfl (fun c_39 => ?_) (fun c_39 => ?_)
              · refine b_iconst rfl ?_
                refine b_goto rfl ?_
                exact b_ireturn rfl (by first | exact Or.inl rfl | exact Or.inr rfl | exact trivial) ((by first | exact hn c_3 c_9 c_15 c_21 c_27 c_33 c_39 (fun z => c_45 z) | exact h0 40 (by decide) c_3 (by decide) | exact h0 41 (by decide) c_9 (by decide) | exact h0 59 (by decide) c_15 (by decide) | exact h0 61 (by decide) c_21 (by decide) | exact h0 60 (by decide) c_27 (by decide) | exact h0 43 (by decide) c_33 (by decide) | exact h0 45 (by decide) c_39 (by decide) | exact h0 42 (by decide) (Classical.not_not.mp c_45) (by decide) | exact h0 42 (by decide) c_45 (by decide)))
              · refine b_iload_n rfl rfl ?_
                refine b_bipush rfl ?_
                refine b_icmp_ne rfl (fun c_45 => ?_) (fun c_45 => ?_)
                · refine b_iconst rfl ?_
                  exact b_ireturn rfl (by first | exact Or.inl rfl | exact Or.inr rfl | exact trivial) ((by first | exact hn c_3 c_9 c_15 c_21 c_27 c_33 c_39 (fun z => c_45 z) | exact h0 40 (by decide) c_3 (by decide) | exact h0 41 (by decide) c_9 (by decide) | exact h0 59 (by decide) c_15 (by decide) | exact h0 61 (by decide) c_21 (by decide) | exact h0 60 (by decide) c_27 (by decide) | exact h0 43 (by decide) c_33 (by decide) | exact h0 45 (by decide) c_39 (by decide) | exact h0 42 (by decide) (Classical.not_not.mp c_45) (by decide) | exact h0 42 (by decide) c_45 (by decide)))
                · refine b_iconst rfl ?_
                  refine b_goto rfl ?_
                  exact b_ireturn rfl (by first | exact Or.inl rfl | exact Or.inr rfl | exact trivial) ((by first | exact hn c_3 c_9 c_15 c_21 c_27 c_33 c_39 (fun z => c_45 z) | exact h0 40 (by decide) c_3 (by decide) | exact h0 41 (by decide) c_9 (by decide) | exact h0 59 (by decide) c_15 (by decide) | exact h0 61 (by decide) c_21 (by decide) | exact h0 60 (by decide) c_27 (by decide) | exact h0 43 (by decide) c_33 (by decide) | exact h0 45 (by decide) c_39 (by decide) | exact h0 42 (by decide) (Classical.not_not.mp c_45) (by decide) | exact h0 42 (by decide) c_45 (by decide)))
end HNcut
