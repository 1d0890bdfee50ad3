section HNmach
def hn_fl (cls : String) (x c k i : Nat) : Bool := match hn_cl[c]? with
  | some q => decide (k < q.2.2) && hn_at (.fieldLink cls x (q.2.1 k).1 (q.2.1 k).2.1 (q.2.1 k).2.2.1) i
  | none => false
def hn_wf : List (String × String) := [("reserved", "Z"), ("number", "I"), ("letters", "J")]
/-- what a row's further words are worth -/
def hn_ex (cls : String) (pc : Nat) (i : Instr) (tg : Nat) (v : Value) (c k : Nat) : Bool :=
  match i with
  | .goto off => decide ((pc : Int) + off = (tg : Int))
  | .ifCond _ off => decide ((pc : Int) + off = (tg : Int))
  | .if_icmp _ off => decide ((pc : Int) + off = (tg : Int))
  | .if_acmp _ off => decide ((pc : Int) + off = (tg : Int))
  | .iinc _ n => decide (v = .int (Int32.ofInt n))
  | .iconst n => decide (v = .int (Int32.ofInt n))
  | .bipush n => decide (v = .int (Int8.ofInt n).toInt32)
  | .sipush n => decide (v = .int (Int16.ofInt n).toInt32)
  | .lconst n => decide (v = .long (Int64.ofNat (n : Nat)))
  | .ldc x => match v with | .int z => hn_at (.constant cls x z) tg | _ => false
  | .ldc_w x => if c = 7777 then true else match v with | .int z => hn_at (.constant cls x z) tg | _ => false
  | .ldc2_w x => match v with | .long z => hn_at (.constantLong cls x z) tg | _ => false
  | .getfield x => if c = 50 then (match hn_wf[k]? with | some q => hn_at (.fieldLink cls x "HammockNet$Word" q.1 q.2) tg | none => false) else hn_fl cls x c k tg
  | .putfield x => hn_fl cls x c k tg
  | .getstatic x => if k = 0 then (match hn_wn[c]? with | some q => hn_at (.fieldLink cls x "HammockNet$Word" q "LHammockNet$Word;") tg && decide (v = .ref (5000 + c)) | none => false) else hn_at (.fieldLink cls x "HammockNet$Tape" "WORDS" "[LHammockNet$Word;") tg && decide (v = .ref 5100)
  | .invokevirtual x => match hn_yl[c]? with | some y => hn_at (.methodLink cls x y) tg | none => false
  | .invokestatic x => match hn_yl[c]? with | some y => hn_at (.methodLink cls x y) tg | none => false
  | .invokespecial x => if c = 7777 then true else match hn_yl[c]? with | some y => if tg < 10000 then hn_at (.methodLink cls x y) tg else decide (hn_nest[tg - 10000]? = some (.methodLinkNest cls x y "HammockNet")) | none => false
  | .new x => if c = 7777 then true else match hn_cl[c]? with | some q => hn_at (.classLink cls x q.1) tg | none => false
  | .anewarray x => if c = 5 then hn_at (.classLink cls x "HammockNet$State") tg else if c = 6 then hn_at (.classLink cls x "HammockNet$Seen") tg else if c = 7 then hn_at (.classLink cls x "HammockNet$Word") tg else false
  | .newarray t => match t with | .int => decide (c = 1) | .long => decide (c = 2) | .boolean => decide (c = 3) | .char => decide (c = 4) | _ => false
  | _ => true
def hn_rok (M : hnM) (r : Nat × hnR) : Bool := decide (decode (hn_b M) r.1 = .ok (r.2.1, r.2.2.1)) && decide (r.1 + r.2.2.1 = r.2.2.2.1) && hn_ex (hn_y M).cls r.1 r.2.1 r.2.2.2.2.1 r.2.2.2.2.2.1 r.2.2.2.2.2.2.1 r.2.2.2.2.2.2.2
def hn_okr (M : hnM) : Bool := (hn_rows M).all (hn_rok M)
def hn_okc (M : hnM) : Bool :=
  hn_at (.code (hn_y M) (hn_b M) (hn_mx M) (hn_ret M)) ((hn_pl M).getD 0 0) && (if hn_kd M = 0 then hn_at (.static (hn_y M)) ((hn_pl M).getD 1 0) else hn_at (.instanceMethod (hn_y M)) ((hn_pl M).getD 1 0)) &&
  (if hn_kd M = 1 then hn_at (.selects (hn_y M).cls (hn_y M) (hn_y M)) ((hn_pl M).getD 2 0) else true) && hn_at (.initialized (hn_y M).cls) ((hn_pl M).getD 3 0) &&
  decide ((hn_y M).cls ≠ "java/lang/invoke/MethodHandle" ∧ (hn_y M).cls ≠ "java/lang/invoke/VarHandle") && decide ((parseMethodDescriptor (hn_y M).desc).map (fun d => d.parameters.length) = some (if hn_kd M = 0 then hn_na M else hn_na M - 1)) &&
  plainName (hn_y M).cls && decide (hn_kd M = 2 → (hn_y M).name = "<init>") && decide (hn_mx M ≤ 30) && decide (hn_kd M = 0 ∨ 1 ≤ hn_na M)
def hn_okx (M : hnM) : Bool := hn_okr M && hn_okc M
/-- a row at which an exception is made and thrown -/
def hn_st (r : hnR) : Bool := match r with
  | (.new _, _, _, _, _, c, _) => decide (c = 7777)
  | _ => false
/-- the table of what it catches -/
def hn_tb (M : hnM) : Option (List (Nat × Nat × Nat × Nat)) := if (hn_y M).cls = "HammockNetLaw" ∧ (hn_y M).name = "rests" then some [(0, 14, 17, 13)] else none
/-- the law's own walk forgets at its end how many cells there are -/
def hn_gl (M : hnM) : Bool := !(decide ((hn_y M).cls = "HammockNetLaw"))
def hn_ns (M : hnM) : Bool := (hn_rows M).all (fun r => !hn_st r.2) && (hn_tb M).isNone && hn_gl M
def hn_ok (M : hnM) : Bool := hn_okx M && hn_ns M
theorem hn_ok_x {M : hnM} (h : hn_ok M = true) : hn_okx M = true := by simp only [hn_ok, Bool.and_eq_true] at h; exact h.1
theorem hn_lk_mem : ∀ {l : hnI} {q : Nat} {r : hnR}, hn_lk l q = some r → (q, r) ∈ l
  | [], _, _, h => by cases h
  | x :: t, q, r, h => by
    simp only [hn_lk] at h
    split at h
    · rename_i hb
      have hb2 := Nat.eq_of_beq_eq_true hb
      cases h
      rw [← hb2]
      exact List.mem_cons_self
    · exact List.mem_cons_of_mem _ (hn_lk_mem h)
theorem hn_row {M : hnM} {pc : Nat} {i : Instr} {len nx tg : Nat} {v : Value} {c k : Nat} (h : hn_okr M = true) (hr : hn_lk (hn_rows M) pc = some (i, len, nx, tg, v, c, k)) : decode (hn_b M) pc = .ok (i, len) ∧ pc + len = nx ∧ hn_ex (hn_y M).cls pc i tg v c k = true := by
  have h1 := List.all_eq_true.mp h _ (hn_lk_mem hr)
  simp only [hn_rok, Bool.and_eq_true, decide_eq_true_eq] at h1
  exact ⟨h1.1.1, h1.1.2, h1.2⟩
/-- what a class's words are: each in its place -/
def hn_clok (c : Nat) : Bool := match hn_cl[c]? with
  | some q => (List.range q.2.2).all (fun k => hn_at (u_lay q.1 q.2.1 k) ((hn_cpl.getD c []).getD k 0)) && hn_at (.instantiable q.1 q.2.2) (hn_ipl.getD c 0) && hn_at (.initialized q.1) (hn_npl.getD c 0) && decide ((hn_tg c).length = q.2.2) &&
    (List.range q.2.2).all (fun k => decide (parseFieldDescriptor (q.2.1 k).2.2.1 = some (hn_ft c k))) && decide (∀ a, a < q.2.2 → ∀ b, b < q.2.2 → a ≠ b → (q.2.1 a).2.1 ≠ (q.2.1 b).2.1) &&
    (List.range q.2.2).all (fun k => decide (defaultValue (hn_ft c k) = match (hn_tg c).getD k 0 with | 0 => .int 0 | 1 => .long 0 | _ => .null))
  | none => true
theorem hn_clok_all : (List.range 11).all hn_clok = true := by decide +kernel
theorem hn_cl_lt {c : Nat} {q : vw_C} (h : hn_cl[c]? = some q) : c < 11 := (List.getElem?_eq_some_iff.mp h).1
theorem hn_cl_ok {c : Nat} {q : vw_C} (h : hn_cl[c]? = some q) : (∀ w ∈ u_ws q.1 q.2.1 q.2.2, w ∈ hn_T) ∧ Cond.instantiable q.1 q.2.2 ∈ hn_T ∧ Cond.initialized q.1 ∈ hn_T ∧ (hn_tg c).length = q.2.2 ∧ (∀ k, k < q.2.2 → parseFieldDescriptor (q.2.1 k).2.2.1 = some (hn_ft c k)) ∧ (∀ a, a < q.2.2 → ∀ b, b < q.2.2 → a ≠ b → (q.2.1 a).2.1 ≠ (q.2.1 b).2.1) ∧
    ∀ k, k < q.2.2 → defaultValue (hn_ft c k) = match (hn_tg c).getD k 0 with | 0 => .int 0 | 1 => .long 0 | _ => .null := by
  have h1 := List.all_eq_true.mp hn_clok_all c (List.mem_range.mpr (hn_cl_lt h))
  simp only [hn_clok, h, Bool.and_eq_true, decide_eq_true_eq, List.all_eq_true, List.mem_range] at h1
  obtain ⟨⟨⟨⟨⟨⟨h2, h3⟩, h4⟩, h5⟩, h6⟩, h7⟩, h8⟩ := h1
  refine ⟨fun w hw => ?_, hn_at_in h3, hn_at_in h4, h5, h6, h7, h8⟩
  obtain ⟨k, hk, rfl⟩ := List.mem_map.mp hw
  exact hn_at_in (h2 k (List.mem_range.mp hk))
/-- the world: every cell made so far, by its number -/
def hn_cell (ty : Nat → ClassId) (ad : Nat → Nat) (D : hnD) (a : Nat) : va_E := match hn_kind a with
  | (0, c) => .inr (c, hn_fs ad D a (hn_tg c) 0)
  | (2, L) => .inl (ty 2, L, .inr (.inl (D.2.1 a)))
  | (5, L) => .inl (ty 5, L, .inr (.inr (.inr (.inr (fun j => (D.2.2 a j).map ad)))))
  | (6, L) => .inl (ty 6, L, .inr (.inr (.inr (.inr (fun j => (D.2.2 a j).map ad)))))
  | (7, L) => .inl (ty 7, L, .inr (.inr (.inr (.inr (fun j => (D.2.2 a j).map ad)))))
  | (t, L) => .inl (ty t, L, .inl (D.1 a))
def hn_w (ty : Nat → ClassId) (ad : Nat → Nat) (D : hnD) (n : Nat) : va_W := (List.range n).map (fun a => (ad a, hn_cell ty ad D a))
theorem hn_w_get {ty : Nat → ClassId} {ad : Nat → Nat} {D : hnD} {n a : Nat} (h : a < n) : (hn_w ty ad D n)[a]? = some (ad a, hn_cell ty ad D a) := by
  simp [hn_w, h]
theorem hn_w_of {ty : Nat → ClassId} {ad : Nat → Nat} {D : hnD} {n a : Nat} {q : Nat × va_E} (h : (hn_w ty ad D n)[a]? = some q) : a < n ∧ q = (ad a, hn_cell ty ad D a) := by
  simp only [hn_w, List.getElem?_map, Option.map_eq_some_iff] at h
  obtain ⟨b, h1, h2⟩ := h
  obtain ⟨h3, h4⟩ := List.getElem?_eq_some_iff.mp h1
  simp at h3 h4
  subst h4
  exact ⟨h3, h2.symm⟩
theorem hn_w_set {ty : Nat → ClassId} {ad : Nat → Nat} {D D' : hnD} {n a : Nat} {e : va_E} (he : e = hn_cell ty ad D' a) (h : ∀ b, b ≠ a → hn_cell ty ad D' b = hn_cell ty ad D b) : (hn_w ty ad D n).set a (ad a, e) = hn_w ty ad D' n := by
  subst he
  apply List.ext_getElem?
  intro i
  rw [List.getElem?_set]
  by_cases hi : a = i
  · subst hi
    by_cases hn : a < n
    · simp [hn_w, hn]
    · simp [hn_w, hn]
  · simp only [hi, if_false]
    by_cases hn : i < n
    · rw [hn_w_get hn, hn_w_get hn, h i (fun e => hi e.symm)]
    · simp [hn_w, hn]
theorem hn_w_push {ty : Nat → ClassId} {ad : Nat → Nat} {D : hnD} {n : Nat} : hn_w ty ad D n ++ [(ad n, hn_cell ty ad D n)] = hn_w ty ad D (n + 1) := by
  simp [hn_w, List.range_succ]
theorem hn_w_congr {ty : Nat → ClassId} {ad : Nat → Nat} {D D' : hnD} {n : Nat} (h : ∀ b, b < n → hn_cell ty ad D' b = hn_cell ty ad D b) : hn_w ty ad D' n = hn_w ty ad D n := by
  simp only [hn_w]
  apply List.map_congr_left
  intro a ha
  rw [h a (List.mem_range.mp ha)]
theorem hn_wD {ty : Nat → ClassId} {ad : Nat → Nat} {D : hnD} {n b0 : Nat} (h : ∀ k, k < 5000 → ad k = b0 + k) (hn : n ≤ 5000) : va_D (fun q => b0 ≤ q) (hn_w ty ad D n) := by
  refine ⟨fun i j p q hi hj e => ?_, fun k q hk => ?_⟩
  · obtain ⟨h1, rfl⟩ := hn_w_of hi
    obtain ⟨h2, rfl⟩ := hn_w_of hj
    have e : ad i = ad j := e
    rw [h i (by omega), h j (by omega)] at e
    omega
  · obtain ⟨h1, rfl⟩ := hn_w_of hk
    show b0 ≤ ad k
    rw [h k (by omega)]
    omega
def hn_tys (ty : Nat → ClassId) : List (ClassId × FieldType) := [(ty 1, .int), (ty 2, .long), (ty 3, .boolean), (ty 4, .char), (ty 5, .object "HammockNet$State"), (ty 6, .object "HammockNet$Seen"), (ty 7, .object "HammockNet$Word")]
def hn_wres : List Int32 := [1, 0, 1, 1, 1, 1, 1, 1, 1, 1, 1, 1, 1, 1, 1, 1, 1, 1, 1, 1, 1, 1, 0, 0, 0, 0]
def hn_wnum : List Int32 := [-1, -1, -1, -1, -1, -1, -1, -1, -1, -1, -1, -1, -1, -1, -1, 0, 1, 2, 3, 10004, 10005, 10006, 10000, 10001, 10002, 10003]
def hn_wlet : List Int64 := [0, 0, 227144, 4555648, 283619293, 488582165, 232608281, 459606, 47, 6799726, 168984, 10261586, 9877010, 8996, 14828, 8740238, 125158, 382984, 82775, 10631, 1111, 423, 168727, 262822, 257011, 226024039]
abbrev nX : String := "java/util/NoSuchElementException"
abbrev nY : String := "java/lang/RuntimeException"
def hn_kx : List Cond := [.castable nX nX, .declares (Bundle.initS nY), .declares (Bundle.initS "java/lang/Exception"), .declares (Bundle.initS Bundle.tN)]
/-- what a throw of the class stands on -/
def hn_K1 (b0 : Nat) (U : State) (H : Heap) : Prop :=
  (∀ w ∈ hn_kx, va_Nw w U) ∧ (∃ sa, vk_R "HammockNet" 350 "no such lull" sa U) ∧ (∃ sa, vk_R "HammockNet" 359 "no such rest" sa U) ∧ vx_Zq Bundle.tN "UNASSIGNED_STACK" Bundle.steD (fun q => b0 ≤ q) U H ∧ vx_Zq Bundle.tN "SUPPRESSED_SENTINEL" Bundle.listD (fun q => b0 ≤ q) U H
/-- the constants of Word, the row of them, the private constructors' words -/
def hn_K0 (ad : Nat → Nat) (b0 : Nat) (U : State) (H : Heap) : Prop :=
  va_En "HammockNet$Word" "LHammockNet$Word;" hn_wn [("HammockNet$Word", "reserved", "Z", hn_wres), ("HammockNet$Word", "number", "I", hn_wnum)] (fun i => ad (5000 + i)) (fun q => b0 ≤ q) U H ∧
  va_Ef 26 "HammockNet$Word" "letters" "J" (fun i => .long (hn_wlet.getD i 0)) (fun i => ad (5000 + i)) (fun q => b0 ≤ q) U H ∧
  va_Z "HammockNet$Tape" "WORDS" "[LHammockNet$Word;" (.ref (ad 5100)) (fun q => b0 ≤ q) U H ∧ va_T (.object "HammockNet$Word") (ad 5100) 26 (fun j => .ref (ad (5000 + j))) (fun q => b0 ≤ q) U H ∧
  (∀ w ∈ hn_nest, va_Nw w U) ∧ va_AO "HammockNet$State" U ∧ va_AO "HammockNet$Seen" U ∧ va_AO "HammockNet$Word" U ∧ hn_K1 b0 U H
/-- the machine and the method at hand -/
def hn_C (M : hnM) (d : Nat) (p : Program) (R : Room) (s : State) (m : MethodId) (args : Array Value) (meth : Method) (c : Code) (dC : Nat → ClassId) (dI : Nat → Nat → Nat) (ty : Nat → ClassId) (ad : Nat → Nat) (b0 L : Nat) (xs : Nat → Int32) : Prop :=
  p.tables.exec = Jvm.exec ∧ c.code = hn_b M ∧ meth.sig.returnType = hn_ret M ∧ c.maxLocals = hn_mx M ∧ s.vm.findClass (hn_y M).cls = some m.cls ∧ (∀ w ∈ hn_T, w.before args s = true) ∧ meth.locks = false ∧ (hn_kd M = 2 → meth.name = "<init>") ∧
  va_K (dC, dI) hn_cl (hn_tys ty) s ∧ (∀ k, k < 5000 → ad k = b0 + k) ∧ b0 ≤ s.heap.size ∧ hn_K0 ad b0 s s.heap ∧ d ≤ R.frames ∧ 64 * d ≤ R.locals ∧ hn_okr M = true ∧ va_X (ad 6000) L xs s s.heap ∧ ad 6000 < b0
/-- the world at hand -/
def hn_S (g : Bool) (dC : Nat → ClassId) (dI : Nat → Nat → Nat) (ty : Nat → ClassId) (ad : Nat → Nat) (b0 L : Nat) (xs : Nat → Int32) (n : Nat) (D : hnD) (s : State) (H : Heap) (locs : List Loc) (cells : Nat) : Prop :=
  va_P (dC, dI) hn_cl (hn_w ty ad D n) H ∧ va_S (fun q => b0 ≤ q) s.heap H locs ∧ n ≤ 5000 ∧ (g = true → s.heap.size + cells = b0 + n) ∧ D.1 6000 = xs ∧ D.1 6001 0 = Int32.ofNat L
theorem hn_S.gl {g : Bool} {b : Bool} {dC : Nat → ClassId} {dI : Nat → Nat → Nat} {ty : Nat → ClassId} {ad : Nat → Nat} {b0 L : Nat} {xs : Nat → Int32} {n : Nat} {D : hnD} {s : State} {H : Heap} {locs : List Loc} {cells : Nat} (h : hn_S g dC dI ty ad b0 L xs n D s H locs cells) : hn_S (g && b) dC dI ty ad b0 L xs n D s H locs cells := by
  obtain ⟨h1, h2, h3, h4, h5⟩ := h
  exact ⟨h1, h2, h3, fun h => h4 (by cases g with | true => rfl | false => exact h), h5⟩
/-- the locals at hand; .null: nothing is known of this one -/
def hn_L (ad : Nat → Nat) (lsA : Array Slot) (nL : Nat) (vs : List Value) : Prop := lsA.size = nL ∧ lv_wf lsA ∧ ∀ (i : Nat) (v : Value), vs[i]? = some v → v ≠ .null → lsA[i]? = some (.val (hn_v ad v))
def hn_G (g : Bool) (kc ks : Nat) (M : hnM) (p : Program) (l : Launch) (e : Env) (R : Room) (s : State) (m : MethodId) (args : Array Value) (below : List Frame) (meth : Method) (c : Code) (dC : Nat → ClassId) (dI : Nat → Nat → Nat) (ty : Nat → ClassId) (ad : Nat → Nat) (b0 L : Nat) (xs : Nat → Int32) (Q : State → Prop) (pc : Nat) (ls st : List Value) (n : Nat) (D : hnD) : Prop :=
  ∀ (H : Heap) (locs : List Loc) (cells slots : Nat) (lsA : Array Slot), hn_S g dC dI ty ad b0 L xs n D s H locs cells → cells + kc ≤ R.cells → slots + ks ≤ R.slots → hn_L ad lsA (hn_mx M) ls →
    W p l e R s m args below meth c H locs cells slots Q (F0 m pc lsA (st.map (hn_v ad)))
/-- the return instruction of an answer -/
def hn_rt : Option Value → Instr
  | none => .return_
  | some (.long _) => .lreturn
  | _ => .ireturn
def hn_rn : Option FieldType → Option Value → Prop
  | none, none => True
  | some .int, some (.int _) => True
  | some .boolean, some (.int v) => v = 0 ∨ v = 1
  | some .long, some (.long _) => True
  | _, _ => False
def hn_Fin0 (g : Bool) (M : hnM) (P : Option Value → Nat → hnD → Prop) (p : Program) (l : Launch) (e : Env) (R : Room) (s : State) (m : MethodId) (args : Array Value) (below : List Frame) (meth : Method) (c : Code) (dC : Nat → ClassId) (dI : Nat → Nat → Nat) (ty : Nat → ClassId) (ad : Nat → Nat) (b0 L : Nat) (xs : Nat → Int32) (Q : State → Prop) : Prop :=
  ∀ (r : Option Value) (n : Nat) (D : hnD), P r n D → hn_rn (hn_ret M) r → ∀ (pc : Nat) (lsA : Array Slot) (H : Heap) (locs : List Loc) (cells slots : Nat), decode (hn_b M) pc = .ok (hn_rt r, 1) → hn_S g dC dI ty ad b0 L xs n D s H locs cells → cells ≤ R.cells → slots ≤ R.slots →
    W p l e R s m args below meth c H locs cells slots Q (F0 m pc lsA r.toList)
/-- where it throws: P with null says in which world -/
def hn_Thr (g : Bool) (M : hnM) (P : Option Value → Nat → hnD → Prop) (p : Program) (l : Launch) (e : Env) (R : Room) (s : State) (m : MethodId) (args : Array Value) (below : List Frame) (meth : Method) (c : Code) (dC : Nat → ClassId) (dI : Nat → Nat → Nat) (ty : Nat → ClassId) (ad : Nat → Nat) (b0 L : Nat) (xs : Nat → Int32) (Q : State → Prop) : Prop :=
  ∀ (n : Nat) (D : hnD) (pc : Nat) (r : hnR), P (some .null) n D → hn_lk (hn_rows M) pc = some r → hn_st r = true → ∀ (lsA : Array Slot) (H : Heap) (locs : List Loc) (cells slots : Nat), hn_S g dC dI ty ad b0 L xs n D s H locs cells → cells + 1 ≤ R.cells → slots + 6 ≤ R.slots → lsA.size = hn_mx M →
    W p l e R s m args below meth c H locs cells slots Q (F0 m pc lsA [])
def hn_Fin (g : Bool) (M : hnM) (P : Option Value → Nat → hnD → Prop) (p : Program) (l : Launch) (e : Env) (R : Room) (s : State) (m : MethodId) (args : Array Value) (below : List Frame) (meth : Method) (c : Code) (dC : Nat → ClassId) (dI : Nat → Nat → Nat) (ty : Nat → ClassId) (ad : Nat → Nat) (b0 L : Nat) (xs : Nat → Int32) (Q : State → Prop) : Prop := hn_Fin0 (g && hn_gl M) M P p l e R s m args below meth c dC dI ty ad b0 L xs Q ∧ l.stackTraces = false ∧ hn_Thr (g && hn_gl M) M P p l e R s m args below meth c dC dI ty ad b0 L xs Q ∧ ∀ hh, hn_tb M = some hh → c.exceptionTable.toList = tableOf hh
/-- from here on the method M comes to an end that P knows, with d calls below it at most, kc cells and ks slots new at most -/
def hn_R (g : Bool) (d kc ks : Nat) (M : hnM) (P : Option Value → Nat → hnD → Prop) (pc : Nat) (ls st : List Value) (n : Nat) (D : hnD) : Prop :=
  ∀ (p : Program) (l : Launch) (e : Env) (R : Room) (s : State) (m : MethodId) (args : Array Value) (below : List Frame) (meth : Method) (c : Code) (dC : Nat → ClassId) (dI : Nat → Nat → Nat) (ty : Nat → ClassId) (ad : Nat → Nat) (b0 L : Nat) (xs : Nat → Int32) (Q : State → Prop),
    hn_C M d p R s m args meth c dC dI ty ad b0 L xs → hn_Fin g M P p l e R s m args below meth c dC dI ty ad b0 L xs Q → hn_G g kc ks M p l e R s m args below meth c dC dI ty ad b0 L xs Q pc ls st n D
theorem hn_eq {g : Bool} {d kc ks : Nat} {M : hnM} {P : Option Value → Nat → hnD → Prop} {pc : Nat} {ls ls' st st' : List Value} {n : Nat} {D D' : hnD} (h1 : ls = ls') (h2 : st = st') (h3 : D = D') (h : hn_R g d kc ks M P pc ls' st' n D') : hn_R g d kc ks M P pc ls st n D := by
  subst h1; subst h2; subst h3; exact h
/-! locals -/
def hn_st1 (vs : List Value) (i : Nat) (v : Value) : List Value := match i with
  | 0 => vs.set 0 v
  | j + 1 => match vs[j]? with
    | some (.long _) => (vs.set j .null).set (j + 1) v
    | some (.double _) => (vs.set j .null).set (j + 1) v
    | _ => vs.set (j + 1) v
def hn_st2 (vs : List Value) (i : Nat) (v : Value) : List Value := (hn_st1 vs i v).set (i + 1) .null
def hn_as (ad : Nat → Nat) : Nat → List Value → List (Nat × Value)
  | _, [] => []
  | i, .null :: t => hn_as ad (i + 1) t
  | i, v :: t => (i, hn_v ad v) :: hn_as ad (i + 1) t
theorem hn_as_cons {ad : Nat → Nat} {i : Nat} {v : Value} {t : List Value} (h : v ≠ .null) : hn_as ad i (v :: t) = (i, hn_v ad v) :: hn_as ad (i + 1) t := by
  cases v <;> first | rfl | exact absurd rfl h
theorem hn_as_mem {ad : Nat → Nat} : ∀ {vs : List Value} {k i : Nat} {v : Value}, vs[i]? = some v → v ≠ .null → (k + i, hn_v ad v) ∈ hn_as ad k vs
  | [], k, i, v, h, _ => by simp at h
  | w :: t, k, 0, v, h, hn => by
    simp only [List.getElem?_cons_zero, Option.some.injEq] at h
    subst h
    rw [hn_as_cons hn]
    exact List.mem_cons_self
  | w :: t, k, i + 1, v, h, hn => by
    rw [List.getElem?_cons_succ] at h
    have h1 := hn_as_mem (ad := ad) (k := k + 1) h hn
    rw [show k + 1 + i = k + (i + 1) by omega] at h1
    by_cases hw : w = .null
    · subst hw; exact h1
    · rw [hn_as_cons hw]; exact List.mem_cons_of_mem _ h1
theorem hn_as_of {ad : Nat → Nat} : ∀ {vs : List Value} {k : Nat} {q : Nat × Value}, q ∈ hn_as ad k vs → ∃ i v, q = (k + i, hn_v ad v) ∧ vs[i]? = some v ∧ v ≠ .null
  | [], k, q, h => by cases h
  | w :: t, k, q, h => by
    have tl : q ∈ hn_as ad (k + 1) t → ∃ i v, q = (k + i, hn_v ad v) ∧ (w :: t)[i]? = some v ∧ v ≠ .null := by
      intro h
      obtain ⟨i, v, h1, h2, h3⟩ := hn_as_of h
      exact ⟨i + 1, v, by rw [h1, show k + 1 + i = k + (i + 1) by omega], by rw [List.getElem?_cons_succ]; exact h2, h3⟩
    by_cases hw : w = .null
    · subst hw; exact tl h
    · rw [hn_as_cons hw] at h
      rcases List.mem_cons.mp h with h | h
      · exact ⟨0, w, by rw [h]; rfl, rfl, hw⟩
      · exact tl h
theorem hn_L.has {ad : Nat → Nat} {lsA : Array Slot} {nL : Nat} {vs : List Value} (h : hn_L ad lsA nL vs) : lv_has lsA nL (hn_as ad 0 vs) := by
  refine ⟨h.1, h.2.1, fun q hq => ?_⟩
  obtain ⟨i, v, rfl, h1, h2⟩ := hn_as_of hq
  rw [Nat.zero_add]
  exact h.2.2 i v h1 h2
theorem hn_st1_get {vs : List Value} {i j : Nat} {v w : Value} (h : (hn_st1 vs i v)[j]? = some w) (hw : w ≠ .null) : (j = i ∧ w = v) ∨ (j ≠ i ∧ vs[j]? = some w ∧ ¬ (j + 1 = i ∧ w.category = 2)) := by
  by_cases hj : j = i
  · subst hj
    refine Or.inl ⟨rfl, ?_⟩
    unfold hn_st1 at h
    split at h
    · rw [List.getElem?_set] at h; simp at h; exact h.2.symm
    · split at h <;> (rw [List.getElem?_set] at h; simp at h; exact h.2.symm)
  · refine Or.inr ⟨hj, ?_⟩
    unfold hn_st1 at h
    split at h
    · rw [List.getElem?_set_ne (by omega)] at h
      exact ⟨h, fun q => by omega⟩
    · rename_i k
      split at h
      · rename_i x hx
        rw [List.getElem?_set_ne (by omega)] at h
        by_cases hk : j = k
        · subst hk
          rw [List.getElem?_set] at h
          simp at h
          exact absurd h.2.symm hw
        · rw [List.getElem?_set_ne (by omega)] at h
          exact ⟨h, fun q => by omega⟩
      · rename_i x hx
        rw [List.getElem?_set_ne (by omega)] at h
        by_cases hk : j = k
        · subst hk
          rw [List.getElem?_set] at h
          simp at h
          exact absurd h.2.symm hw
        · rw [List.getElem?_set_ne (by omega)] at h
          exact ⟨h, fun q => by omega⟩
      · rename_i n1 n2
        rw [List.getElem?_set_ne (by omega)] at h
        refine ⟨h, fun q => ?_⟩
        have e : j = k := by omega
        subst e
        cases w <;> first | exact absurd rfl hw | (simp [Value.category] at q; done) | exact n1 _ h | exact n2 _ h
theorem hn_L.st1 {ad : Nat → Nat} {lsA : Array Slot} {nL : Nat} {vs : List Value} {i : Nat} {v : Value} (h : lv_has lsA nL ((i, hn_v ad v) :: (hn_as ad 0 vs).filter (fun q => !(q.1 == i) && !(q.1 + 1 == i && q.2.category == 2)))) : hn_L ad lsA nL (hn_st1 vs i v) := by
  refine ⟨h.1, h.2.1, fun j w hj hw => ?_⟩
  rcases hn_st1_get hj hw with ⟨rfl, rfl⟩ | ⟨h1, h2, h3⟩
  · exact h.2.2 (j, hn_v ad w) List.mem_cons_self
  · refine h.2.2 (j, hn_v ad w) (List.mem_cons_of_mem _ (List.mem_filter.mpr ⟨?_, ?_⟩))
    · have := hn_as_mem (ad := ad) (k := 0) h2 hw
      rwa [Nat.zero_add] at this
    · simp only [Bool.and_eq_true, Bool.not_eq_true', beq_eq_false_iff_ne, Bool.and_eq_false_iff, hn_v_cat]
      refine ⟨h1, ?_⟩
      by_cases q : j + 1 = i
      · exact Or.inr (fun z => h3 ⟨q, z⟩)
      · exact Or.inl q
theorem hn_L.st2 {ad : Nat → Nat} {lsA : Array Slot} {nL : Nat} {vs : List Value} {i : Nat} {v : Value} (h : lv_has lsA nL ((i, hn_v ad v) :: (hn_as ad 0 vs).filter (fun q => !(q.1 == i) && (!(q.1 == i + 1) && !(q.1 + 1 == i && q.2.category == 2))))) : hn_L ad lsA nL (hn_st2 vs i v) := by
  refine ⟨h.1, h.2.1, fun j w hj hw => ?_⟩
  unfold hn_st2 at hj
  by_cases hji : j = i + 1
  · subst hji
    rw [List.getElem?_set] at hj
    simp at hj
    exact absurd hj.2.symm hw
  rw [List.getElem?_set_ne (fun e => hji e.symm)] at hj
  rcases hn_st1_get hj hw with ⟨rfl, rfl⟩ | ⟨h1, h2, h3⟩
  · exact h.2.2 (j, hn_v ad w) List.mem_cons_self
  · refine h.2.2 (j, hn_v ad w) (List.mem_cons_of_mem _ (List.mem_filter.mpr ⟨?_, ?_⟩))
    · have := hn_as_mem (ad := ad) (k := 0) h2 hw
      rwa [Nat.zero_add] at this
    · simp only [Bool.and_eq_true, Bool.not_eq_true', beq_eq_false_iff_ne, Bool.and_eq_false_iff, hn_v_cat]
      refine ⟨h1, hji, ?_⟩
      by_cases q : j + 1 = i
      · exact Or.inr (fun z => h3 ⟨q, z⟩)
      · exact Or.inl q
end HNmach
