
/-! the pure memory: int fields by cell and number, int rows by cell, long fields by cell and number -/
abbrev pmMem : Type := (Nat → Nat → Int32) × (Nat → List Int32) × (Nat → Nat → Int64)
def pm_setF (m : pmMem) (c k : Nat) (v : Int32) : pmMem := (fun c' => if c' = c then upd (m.1 c) k v else m.1 c', m.2.1, m.2.2)
def pm_setA (m : pmMem) (c : Nat) (l : List Int32) : pmMem := (m.1, fun c' => if c' = c then l else m.2.1 c', m.2.2)
def pm_setL (m : pmMem) (c k : Nat) (v : Int64) : pmMem := (m.1, m.2.1, fun c' => if c' = c then vp_updL (m.2.2 c) k v else m.2.2 c')
/-- a method: name, code, locals, answer, owner -/
abbrev pmM : Type := MethodName × ByteArray × Nat × Option FieldType × String
/-- addresses of the cells (87: the letters, 88: the script), the tables, the row kinds, the script's length and contents -/
abbrev pmX : Type := (Nat → Nat) × va_G × (Nat → ClassId) × Nat × (Nat → Int32)
def pm_tr (X : pmX) (v : Value) : Value := match v with
  | .ref k => .ref (X.1 k)
  | v => v
def pm_fs (ci c : Nat) (f : Nat → Int32) (g : Nat → Int64) : List Value := match ci with
  | 0 => [.ref 8, .ref (c + 1), .ref (c + 2), .ref (c + 3), .int (f 4), .int (f 5), .int (f 6), .int (f 7), .int (f 8)]
  | 1 => [.int (f 0), .int (f 1), .int (f 2)]
  | 2 => [.ref 9, .int (f 1)]
  | 3 => [.ref 27, .ref 28, .ref 29, .ref 30, .ref 31, .int (f 5), .int (f 6), .int (f 7), .int (f 8), .int (f 9), .int (f 10), .int (f 11)]
  | 4 => [.ref 4, .ref 5, .ref 6, .ref 7, .int (f 4), .int (f 5)]
  | 5 => [.ref (c + 1), .int (f 1)]
  | 6 => [.ref 1, .ref 2, .ref 3, .ref 8, .ref 16, .ref 20, .ref 24, .ref 25, .ref 26, .ref 32, .int (f 10), .int (f 11), .long (g 12), .long (g 13)]
  | _ => [.ref 66, .ref 67, .ref 68, .ref 69, .int (f 4), .ref 70, .ref 71, .ref 72, .ref 73, .ref 74, .int (f 10), .ref 75, .ref 76, .ref 77, .ref 78, .int (f 15), .int (f 16), .ref 79, .ref 80, .int (f 19), .long (g 20), .long (g 21), .int (f 22), .ref 81, .int (f 24), .int (f 25), .int (f 26), .ref 82, .ref 83, .ref 84, .ref 85, .ref 86]
/-- the kind of each cell: 0 .. 7 an object (its number in vwCl), 8 ints, 9 booleans, 10 Sheets, 11 Hills, 12 Camps -/
def pm_kds : List Nat := [6, 10, 10, 4, 8, 8, 8, 8, 2, 11, 1, 1, 1, 1, 1, 1, 0, 8, 8, 8, 0, 8, 8, 8, 12, 9, 3, 8, 8, 8, 8, 8, 8, 5, 8, 5, 8, 5, 8, 5, 8, 5, 8, 5, 8, 5, 8, 5, 8, 5, 8, 5, 8, 0, 8, 8, 8, 0, 8, 8, 8, 0, 8, 8, 8, 7, 8, 8, 8, 8, 8, 8, 8, 8, 8, 8, 8, 8, 8, 8, 8, 8, 8, 8, 8, 8, 8]
def pm_kd (c : Nat) : Nat := pm_kds.getD c 99
theorem pm_kds_len : pm_kds.length = 87 := by decide
theorem pm_kd_lt {c k : Nat} (h : pm_kd c = k) (hk : k < 13) : c < 87 := by
  by_cases hc : c < 87
  · exact hc
  · have h2 : pm_kd c = 99 := by
      unfold pm_kd
      rw [List.getD_eq_getElem?_getD, List.getElem?_eq_none (by rw [pm_kds_len]; omega)]
      rfl
    omega
def pm_ra (c i : Nat) : Nat := match c with
  | 1 => 33 + 2 * i
  | 2 => 45 + 2 * i
  | 9 => 10 + i
  | _ => 53 + 4 * i
def pm_rl (c : Nat) : Nat := match c with
  | 1 => 6
  | 2 => 4
  | 9 => 6
  | _ => 3
def pm_cell (X : pmX) (m : pmMem) (c : Nat) : va_E := match pm_kd c with
  | 8 => .inl (X.2.2.1 0, (m.2.1 c).length, .inl (fun i => (m.2.1 c).getD i 0))
  | 9 => .inl (X.2.2.1 1, (m.2.1 c).length, .inl (fun i => (m.2.1 c).getD i 0))
  | 10 => .inl (X.2.2.1 2, pm_rl c, .inr (.inr (.inr (.inr (fun i => some (X.1 (pm_ra c i)))))))
  | 11 => .inl (X.2.2.1 3, pm_rl c, .inr (.inr (.inr (.inr (fun i => some (X.1 (pm_ra c i)))))))
  | 12 => .inl (X.2.2.1 4, pm_rl c, .inr (.inr (.inr (.inr (fun i => some (X.1 (pm_ra c i)))))))
  | k => .inr (k, (pm_fs k c (m.1 c) (m.2.2 c)).map (pm_tr X))
theorem pm_cell_i {X : pmX} {m : pmMem} {c : Nat} (h : pm_kd c = 8) : pm_cell X m c = .inl (X.2.2.1 0, (m.2.1 c).length, .inl (fun i => (m.2.1 c).getD i 0)) := by simp [pm_cell, h]
theorem pm_cell_z {X : pmX} {m : pmMem} {c : Nat} (h : pm_kd c = 9) : pm_cell X m c = .inl (X.2.2.1 1, (m.2.1 c).length, .inl (fun i => (m.2.1 c).getD i 0)) := by simp [pm_cell, h]
theorem pm_cell_r {X : pmX} {m : pmMem} {c k : Nat} (h : pm_kd c = 10 + k) (hk : k < 3) : pm_cell X m c = .inl (X.2.2.1 (2 + k), pm_rl c, .inr (.inr (.inr (.inr (fun i => some (X.1 (pm_ra c i))))))) := by
  rcases (show k = 0 ∨ k = 1 ∨ k = 2 by omega) with rfl | rfl | rfl <;> simp [pm_cell, h]
theorem pm_cell_o {X : pmX} {m : pmMem} {c k : Nat} (h : pm_kd c = k) (hk : k < 8) : pm_cell X m c = .inr (k, (pm_fs k c (m.1 c) (m.2.2 c)).map (pm_tr X)) := by
  rcases (show k = 0 ∨ k = 1 ∨ k = 2 ∨ k = 3 ∨ k = 4 ∨ k = 5 ∨ k = 6 ∨ k = 7 by omega) with rfl | rfl | rfl | rfl | rfl | rfl | rfl | rfl <;> simp [pm_cell, h]
theorem pm_cell_eq {X : pmX} {m m' : pmMem} {c : Nat} (h1 : m'.1 c = m.1 c) (h2 : m'.2.1 c = m.2.1 c) (h3 : m'.2.2 c = m.2.2 c) : pm_cell X m' c = pm_cell X m c := by
  unfold pm_cell
  rw [h1, h2, h3]
def pm_ws (X : pmX) (m : pmMem) : va_W := (List.range 87).map (fun c => (X.1 c, pm_cell X m c))
theorem pm_ws_get {X : pmX} {m : pmMem} {c : Nat} (h : c < 87) : (pm_ws X m)[c]? = some (X.1 c, pm_cell X m c) := by
  simp [pm_ws, h]
theorem pm_ws_set {X : pmX} {m m' : pmMem} {c : Nat} {e : va_E} (h : c < 87) (he : pm_cell X m' c = e) (ho : ∀ c', c' ≠ c → pm_cell X m' c' = pm_cell X m c') : (pm_ws X m).set c (X.1 c, e) = pm_ws X m' := by
  apply List.ext_getElem?
  intro k
  by_cases hk : k = c
  · subst hk
    rw [List.getElem?_set_self (by simp [pm_ws, h]), pm_ws_get h, he]
  · rw [List.getElem?_set_ne (Ne.symm hk)]
    by_cases h8 : k < 87
    · rw [pm_ws_get h8, pm_ws_get h8, ho k hk]
    · rw [List.getElem?_eq_none (by simp [pm_ws]; omega), List.getElem?_eq_none (by simp [pm_ws]; omega)]
def pm_Ad (X : pmX) : Nat → Prop := fun q => ∃ c, c < 87 ∧ q = X.1 c
def pm_tys (X : pmX) : List (ClassId × FieldType) := [(X.2.2.1 0, .int), (X.2.2.1 1, .boolean), (X.2.2.1 2, .object RX5), (X.2.2.1 3, .object RX1), (X.2.2.1 4, .object RX0)]
def pm_isN : Cond → Bool
  | .fieldLinkNest _ _ _ _ _ _ => true
  | .methodLinkNest _ _ _ _ => true
  | _ => false
def pmBig : List Cond := lw_tbl.filter goodWord
def pmNest : List Cond := lw_tbl.filter pm_isN
def pm_let (j : Nat) : Int32 := ([104, 98, 119, 102, 105, 114] : List Int32).getD j 0
/-- what a state says of the tables -/
def pm_U (X : pmX) (U : State) (H : Heap) : Prop := (∀ w ∈ pmNest, va_Nw w U) ∧ va_K X.2.1 vwCl (pm_tys X) U ∧ va_Z "HillSeer$Reader" "LETTERS" "[I" (.ref (X.1 87)) (pm_Ad X) U H ∧ va_T .int (X.1 87) 6 (fun j => .int (pm_let j)) (pm_Ad X) U H ∧ va_T .int (X.1 88) X.2.2.2.1 (fun j => .int (X.2.2.2.2 j)) (pm_Ad X) U H
def pm_C (X : pmX) (M : pmM) (p : Program) (s : State) (mid : MethodId) (args : Array Value) (meth : Method) (c : Code) : Prop :=
  p.tables.exec = Jvm.exec ∧ c.code = M.2.1 ∧ meth.sig.returnType = M.2.2.2.1 ∧ meth.locks = false ∧ c.maxLocals = M.2.2.1 ∧ s.vm.findClass M.2.2.2.2 = some mid.cls ∧ (∀ w ∈ pmBig, w.before args s = true) ∧ pm_U X s s.heap
def pm_R (d : Nat) (R : Room) (cells slots : Nat) : Prop := d ≤ R.frames ∧ 300 * d ≤ R.locals ∧ cells ≤ R.cells ∧ slots ≤ R.slots
/-- the script lies at 88, and stays -/
def pm_scr (X : pmX) (m : pmMem) : Prop := X.2.2.2.1 = (m.2.1 88).length ∧ X.2.2.2.2 = fun j => (m.2.1 88).getD j 0
theorem pm_scr_A {X : pmX} {m : pmMem} {a : Nat} {l : List Int32} (ha : a < 87) (h : pm_scr X m) : pm_scr X (pm_setA m a l) := by
  have e : (pm_setA m a l).2.1 88 = m.2.1 88 := if_neg (by omega)
  unfold pm_scr
  rw [e]
  exact h
def pm_H (X : pmX) (s : State) (m : pmMem) (H : Heap) (locs : List Loc) : Prop := va_P X.2.1 vwCl (pm_ws X m) H ∧ va_D (pm_Ad X) (pm_ws X m) ∧ va_S (pm_Ad X) s.heap H locs ∧ pm_scr X m
def pm_lv (X : pmX) (M : pmM) (ls : List (Option Value)) (lsK : Array Slot) : Prop := ls.length = M.2.2.1 ∧ lsK.size = ls.length ∧ lv_wf lsK ∧ ∀ (j : Nat) (v : Value), ls[j]? = some (some v) → lsK[j]? = some (.val (pm_tr X v))
def pm_ret (M : pmM) (pc : Nat) (r : Option Value) : Prop := match r with
  | none => M.2.2.2.1 = none ∧ decode M.2.1 pc = .ok (.return_, 1)
  | some (.int v) => (∃ ty, M.2.2.2.1 = some ty ∧ narrow ty (.int v) = .int v) ∧ decode M.2.1 pc = .ok (.ireturn, 1)
  | some (.long _) => M.2.2.2.1 = some .long ∧ decode M.2.1 pc = .ok (.lreturn, 1)
  | _ => False
/-- THE JUDGEMENT: from pc of M, with these locals, operands and memory, M comes to its end with Q -/
def pm_G (d : Nat) (M : pmM) (pc : Nat) (ls : List (Option Value)) (st : List Value) (m : pmMem) (Q : Option Value → pmMem → Prop) : Prop :=
  ∀ (X : pmX) (p : Program) (l : Launch) (e : Env) (R : Room) (s : State) (mid : MethodId) (args : Array Value) (below : List Frame) (meth : Method) (c : Code) (H : Heap) (locs : List Loc) (cells slots : Nat) (QQ : State → Prop) (lsK : Array Slot),
    pm_C X M p s mid args meth c → pm_R d R cells slots → pm_H X s m H locs → pm_lv X M ls lsK →
    (∀ (H1 : Heap) (locs1 : List Loc) (m1 : pmMem) (pc1 : Nat) (ls1 : Array Slot) (r : Option Value), Q r m1 → pm_H X s m1 H1 locs1 → pm_ret M pc1 r → W p l e R s mid args below meth c H1 locs1 cells slots QQ (F0 mid pc1 ls1 r.toList)) →
    W p l e R s mid args below meth c H locs cells slots QQ (F0 mid pc lsK (st.map (pm_tr X)))
theorem pm_mono {d : Nat} {M : pmM} {pc : Nat} {ls : List (Option Value)} {st : List Value} {m : pmMem} {Q Q' : Option Value → pmMem → Prop} (h : pm_G d M pc ls st m Q) (hQ : ∀ r m1, Q r m1 → Q' r m1) : pm_G d M pc ls st m Q' := by
  intro X p l e R s mid args below meth c H locs cells slots QQ lsK hC hR hH hl hret
  exact h X p l e R s mid args below meth c H locs cells slots QQ lsK hC hR hH hl (fun H1 locs1 m1 pc1 ls1 r hq => hret H1 locs1 m1 pc1 ls1 r (hQ r m1 hq))
theorem pm_deep {d d' : Nat} {M : pmM} {pc : Nat} {ls : List (Option Value)} {st : List Value} {m : pmMem} {Q : Option Value → pmMem → Prop} (hd : d ≤ d') (h : pm_G d M pc ls st m Q) : pm_G d' M pc ls st m Q := by
  intro X p l e R s mid args below meth c H locs cells slots QQ lsK hC hR hH hl hret
  obtain ⟨h1, h2, h3⟩ := hR
  exact h X p l e R s mid args below meth c H locs cells slots QQ lsK hC ⟨by omega, by omega, h3⟩ hH hl hret
section PMS
variable {d : Nat} {M : pmM} {pc : Nat} {ls : List (Option Value)} {st : List Value} {m : pmMem} {Q : Option Value → pmMem → Prop}

theorem pm_iconst {n : Int} {v : Int32} (hv : Int32.ofInt n = v) (hd : decode M.2.1 pc = .ok (.iconst n, 1)) (k : pm_G d M (pc + 1) ls (.int v :: st) m Q) : pm_G d M pc ls (st) m Q := by
  intro X p l e R s mid args below meth c H locs cells slots QQ lsK hC hR hH hl hret
  exact lv_iconst hC.1 hC.2.1 hd hv (k X p l e R s mid args below meth c H locs cells slots QQ lsK hC hR hH hl hret)
theorem pm_bipush {n : Int} {v : Int32} (hv : (Int8.ofInt n).toInt32 = v) (hd : decode M.2.1 pc = .ok (.bipush n, 2)) (k : pm_G d M (pc + 2) ls (.int v :: st) m Q) : pm_G d M pc ls (st) m Q := by
  intro X p l e R s mid args below meth c H locs cells slots QQ lsK hC hR hH hl hret
  exact lv_bipush hC.1 hC.2.1 hd hv (k X p l e R s mid args below meth c H locs cells slots QQ lsK hC hR hH hl hret)
theorem pm_sipush {n : Int} {v : Int32} (hv : (Int16.ofInt n).toInt32 = v) (hd : decode M.2.1 pc = .ok (.sipush n, 3)) (k : pm_G d M (pc + 3) ls (.int v :: st) m Q) : pm_G d M pc ls (st) m Q := by
  intro X p l e R s mid args below meth c H locs cells slots QQ lsK hC hR hH hl hret
  exact lv_sipush hC.1 hC.2.1 hd hv (k X p l e R s mid args below meth c H locs cells slots QQ lsK hC hR hH hl hret)
theorem pm_lconst {n : Fin 2} {v : Int64} (hv : Int64.ofNat (n : Nat) = v) (hd : decode M.2.1 pc = .ok (.lconst n, 1)) (k : pm_G d M (pc + 1) ls (.long v :: st) m Q) : pm_G d M pc ls (st) m Q := by
  intro X p l e R s mid args below meth c H locs cells slots QQ lsK hC hR hH hl hret
  exact lv_lconst hC.1 hC.2.1 hd hv (k X p l e R s mid args below meth c H locs cells slots QQ lsK hC hR hH hl hret)
theorem pm_ldcw {i : Nat} {v : Int32} (hw : Cond.constant M.2.2.2.2 i v ∈ pmBig) (hd : decode M.2.1 pc = .ok (.ldc_w i, 3)) (k : pm_G d M (pc + 3) ls (.int v :: st) m Q) : pm_G d M pc ls (st) m Q := by
  intro X p l e R s mid args below meth c H locs cells slots QQ lsK hC hR hH hl hret
  exact lv_ldcw hC.1 hC.2.1 hC.2.2.2.2.2.1 (hC.2.2.2.2.2.2.1 _ hw) hd (k X p l e R s mid args below meth c H locs cells slots QQ lsK hC hR hH hl hret)
theorem pm_ldc {i : Nat} {v : Int32} (hw : Cond.constant M.2.2.2.2 i v ∈ pmBig) (hd : decode M.2.1 pc = .ok (.ldc i, 2)) (k : pm_G d M (pc + 2) ls (.int v :: st) m Q) : pm_G d M pc ls (st) m Q := by
  intro X p l e R s mid args below meth c H locs cells slots QQ lsK hC hR hH hl hret
  exact lv_ldc hC.1 hC.2.1 hC.2.2.2.2.2.1 (hC.2.2.2.2.2.2.1 _ hw) hd (k X p l e R s mid args below meth c H locs cells slots QQ lsK hC hR hH hl hret)
theorem pm_ldc2 {i : Nat} {v : Int64} (hw : Cond.constantLong M.2.2.2.2 i v ∈ pmBig) (hd : decode M.2.1 pc = .ok (.ldc2_w i, 3)) (k : pm_G d M (pc + 3) ls (.long v :: st) m Q) : pm_G d M pc ls (st) m Q := by
  intro X p l e R s mid args below meth c H locs cells slots QQ lsK hC hR hH hl hret
  exact lv_ldc2 hC.1 hC.2.1 hC.2.2.2.2.2.1 (hC.2.2.2.2.2.2.1 _ hw) hd (k X p l e R s mid args below meth c H locs cells slots QQ lsK hC hR hH hl hret)
theorem pm_iload_n {k : Fin 4} {i : Nat} {x : Int32} (hi : (k : Nat) = i) (h : ls[i]? = some (some (.int x))) (hd : decode M.2.1 pc = .ok (.iload_n k, 1)) (k : pm_G d M (pc + 1) ls (.int x :: st) m Q) : pm_G d M pc ls (st) m Q := by
  intro X p l e R s mid args below meth c H locs cells slots QQ lsK hC hR hH hl hret
  exact lv_iload_n hC.1 hC.2.1 hd hi (hl.2.2.2 _ _ h) (k X p l e R s mid args below meth c H locs cells slots QQ lsK hC hR hH hl hret)
theorem pm_iload {i : Nat} {x : Int32} (h : ls[i]? = some (some (.int x))) (hd : decode M.2.1 pc = .ok (.iload i, 2)) (k : pm_G d M (pc + 2) ls (.int x :: st) m Q) : pm_G d M pc ls (st) m Q := by
  intro X p l e R s mid args below meth c H locs cells slots QQ lsK hC hR hH hl hret
  exact lv_iload hC.1 hC.2.1 hd (hl.2.2.2 _ _ h) (k X p l e R s mid args below meth c H locs cells slots QQ lsK hC hR hH hl hret)
theorem pm_lload_n {k : Fin 4} {i : Nat} {x : Int64} (hi : (k : Nat) = i) (h : ls[i]? = some (some (.long x))) (hd : decode M.2.1 pc = .ok (.lload_n k, 1)) (k : pm_G d M (pc + 1) ls (.long x :: st) m Q) : pm_G d M pc ls (st) m Q := by
  intro X p l e R s mid args below meth c H locs cells slots QQ lsK hC hR hH hl hret
  exact lv_lload_n hC.1 hC.2.1 hd hi (hl.2.2.2 _ _ h) (k X p l e R s mid args below meth c H locs cells slots QQ lsK hC hR hH hl hret)
theorem pm_lload {i : Nat} {x : Int64} (h : ls[i]? = some (some (.long x))) (hd : decode M.2.1 pc = .ok (.lload i, 2)) (k : pm_G d M (pc + 2) ls (.long x :: st) m Q) : pm_G d M pc ls (st) m Q := by
  intro X p l e R s mid args below meth c H locs cells slots QQ lsK hC hR hH hl hret
  exact lv_lload hC.1 hC.2.1 hd (hl.2.2.2 _ _ h) (k X p l e R s mid args below meth c H locs cells slots QQ lsK hC hR hH hl hret)
theorem pm_aload_n {k : Fin 4} {i : Nat} {x : Nat} (hi : (k : Nat) = i) (h : ls[i]? = some (some (.ref x))) (hd : decode M.2.1 pc = .ok (.aload_n k, 1)) (k : pm_G d M (pc + 1) ls (.ref x :: st) m Q) : pm_G d M pc ls (st) m Q := by
  intro X p l e R s mid args below meth c H locs cells slots QQ lsK hC hR hH hl hret
  exact lv_aload_n hC.1 hC.2.1 hd hi (hl.2.2.2 _ _ h) (k X p l e R s mid args below meth c H locs cells slots QQ lsK hC hR hH hl hret)
theorem pm_aload {i : Nat} {x : Nat} (h : ls[i]? = some (some (.ref x))) (hd : decode M.2.1 pc = .ok (.aload i, 2)) (k : pm_G d M (pc + 2) ls (.ref x :: st) m Q) : pm_G d M pc ls (st) m Q := by
  intro X p l e R s mid args below meth c H locs cells slots QQ lsK hC hR hH hl hret
  exact lv_aload hC.1 hC.2.1 hd (hl.2.2.2 _ _ h) (k X p l e R s mid args below meth c H locs cells slots QQ lsK hC hR hH hl hret)
theorem pm_iadd {x y : Int32} (hd : decode M.2.1 pc = .ok (.iadd, 1)) (k : pm_G d M (pc + 1) ls (.int (x + y) :: st) m Q) : pm_G d M pc ls (.int y :: .int x :: st) m Q := by
  intro X p l e R s mid args below meth c H locs cells slots QQ lsK hC hR hH hl hret
  exact lv_iadd hC.1 hC.2.1 hd (k X p l e R s mid args below meth c H locs cells slots QQ lsK hC hR hH hl hret)
theorem pm_isub {x y : Int32} (hd : decode M.2.1 pc = .ok (.isub, 1)) (k : pm_G d M (pc + 1) ls (.int (x - y) :: st) m Q) : pm_G d M pc ls (.int y :: .int x :: st) m Q := by
  intro X p l e R s mid args below meth c H locs cells slots QQ lsK hC hR hH hl hret
  exact lv_isub hC.1 hC.2.1 hd (k X p l e R s mid args below meth c H locs cells slots QQ lsK hC hR hH hl hret)
theorem pm_imul {x y : Int32} (hd : decode M.2.1 pc = .ok (.imul, 1)) (k : pm_G d M (pc + 1) ls (.int (x * y) :: st) m Q) : pm_G d M pc ls (.int y :: .int x :: st) m Q := by
  intro X p l e R s mid args below meth c H locs cells slots QQ lsK hC hR hH hl hret
  exact lv_imul hC.1 hC.2.1 hd (k X p l e R s mid args below meth c H locs cells slots QQ lsK hC hR hH hl hret)
theorem pm_iand {x y : Int32} (hd : decode M.2.1 pc = .ok (.iand, 1)) (k : pm_G d M (pc + 1) ls (.int (x &&& y) :: st) m Q) : pm_G d M pc ls (.int y :: .int x :: st) m Q := by
  intro X p l e R s mid args below meth c H locs cells slots QQ lsK hC hR hH hl hret
  exact lv_iand hC.1 hC.2.1 hd (k X p l e R s mid args below meth c H locs cells slots QQ lsK hC hR hH hl hret)
theorem pm_ior {x y : Int32} (hd : decode M.2.1 pc = .ok (.ior, 1)) (k : pm_G d M (pc + 1) ls (.int (x ||| y) :: st) m Q) : pm_G d M pc ls (.int y :: .int x :: st) m Q := by
  intro X p l e R s mid args below meth c H locs cells slots QQ lsK hC hR hH hl hret
  exact lv_ior hC.1 hC.2.1 hd (k X p l e R s mid args below meth c H locs cells slots QQ lsK hC hR hH hl hret)
theorem pm_ixor {x y : Int32} (hd : decode M.2.1 pc = .ok (.ixor, 1)) (k : pm_G d M (pc + 1) ls (.int (x ^^^ y) :: st) m Q) : pm_G d M pc ls (.int y :: .int x :: st) m Q := by
  intro X p l e R s mid args below meth c H locs cells slots QQ lsK hC hR hH hl hret
  exact lv_ixor hC.1 hC.2.1 hd (k X p l e R s mid args below meth c H locs cells slots QQ lsK hC hR hH hl hret)
theorem pm_ishl {x y : Int32} (hd : decode M.2.1 pc = .ok (.ishl, 1)) (k : pm_G d M (pc + 1) ls (.int (x <<< (y &&& 31)) :: st) m Q) : pm_G d M pc ls (.int y :: .int x :: st) m Q := by
  intro X p l e R s mid args below meth c H locs cells slots QQ lsK hC hR hH hl hret
  exact lv_ishl hC.1 hC.2.1 hd (k X p l e R s mid args below meth c H locs cells slots QQ lsK hC hR hH hl hret)
theorem pm_ishr {x y : Int32} (hd : decode M.2.1 pc = .ok (.ishr, 1)) (k : pm_G d M (pc + 1) ls (.int (x >>> (y &&& 31)) :: st) m Q) : pm_G d M pc ls (.int y :: .int x :: st) m Q := by
  intro X p l e R s mid args below meth c H locs cells slots QQ lsK hC hR hH hl hret
  exact lv_ishr hC.1 hC.2.1 hd (k X p l e R s mid args below meth c H locs cells slots QQ lsK hC hR hH hl hret)
theorem pm_idiv {x y : Int32} (hne : ¬ y = 0) (hd : decode M.2.1 pc = .ok (.idiv, 1)) (k : pm_G d M (pc + 1) ls (.int (x / y) :: st) m Q) : pm_G d M pc ls (.int y :: .int x :: st) m Q := by
  intro X p l e R s mid args below meth c H locs cells slots QQ lsK hC hR hH hl hret
  exact lv_idiv hC.1 hC.2.1 hd hne (k X p l e R s mid args below meth c H locs cells slots QQ lsK hC hR hH hl hret)
theorem pm_irem {x y : Int32} (hne : ¬ y = 0) (hd : decode M.2.1 pc = .ok (.irem, 1)) (k : pm_G d M (pc + 1) ls (.int (x - x / y * y) :: st) m Q) : pm_G d M pc ls (.int y :: .int x :: st) m Q := by
  intro X p l e R s mid args below meth c H locs cells slots QQ lsK hC hR hH hl hret
  exact lv_irem hC.1 hC.2.1 hd hne (k X p l e R s mid args below meth c H locs cells slots QQ lsK hC hR hH hl hret)
theorem pm_iushr {x y : Int32} (hd : decode M.2.1 pc = .ok (.iushr, 1)) (k : pm_G d M (pc + 1) ls (.int ((x.toUInt32 >>> (y.toUInt32 &&& Int32.toUInt32 31)).toInt32) :: st) m Q) : pm_G d M pc ls (.int y :: .int x :: st) m Q := by
  intro X p l e R s mid args below meth c H locs cells slots QQ lsK hC hR hH hl hret
  exact lv_iushr hC.1 hC.2.1 hd rfl (k X p l e R s mid args below meth c H locs cells slots QQ lsK hC hR hH hl hret)
theorem pm_ladd {x y : Int64} (hd : decode M.2.1 pc = .ok (.ladd, 1)) (k : pm_G d M (pc + 1) ls (.long (x + y) :: st) m Q) : pm_G d M pc ls (.long y :: .long x :: st) m Q := by
  intro X p l e R s mid args below meth c H locs cells slots QQ lsK hC hR hH hl hret
  exact lv_ladd hC.1 hC.2.1 hd (k X p l e R s mid args below meth c H locs cells slots QQ lsK hC hR hH hl hret)
theorem pm_lsub {x y : Int64} (hd : decode M.2.1 pc = .ok (.lsub, 1)) (k : pm_G d M (pc + 1) ls (.long (x - y) :: st) m Q) : pm_G d M pc ls (.long y :: .long x :: st) m Q := by
  intro X p l e R s mid args below meth c H locs cells slots QQ lsK hC hR hH hl hret
  exact lv_lsub hC.1 hC.2.1 hd (k X p l e R s mid args below meth c H locs cells slots QQ lsK hC hR hH hl hret)
theorem pm_lmul {x y : Int64} (hd : decode M.2.1 pc = .ok (.lmul, 1)) (k : pm_G d M (pc + 1) ls (.long (x * y) :: st) m Q) : pm_G d M pc ls (.long y :: .long x :: st) m Q := by
  intro X p l e R s mid args below meth c H locs cells slots QQ lsK hC hR hH hl hret
  exact lv_lmul hC.1 hC.2.1 hd (k X p l e R s mid args below meth c H locs cells slots QQ lsK hC hR hH hl hret)
theorem pm_ldiv {x y : Int64} (hne : ¬ y = 0) (hd : decode M.2.1 pc = .ok (.ldiv, 1)) (k : pm_G d M (pc + 1) ls (.long (x / y) :: st) m Q) : pm_G d M pc ls (.long y :: .long x :: st) m Q := by
  intro X p l e R s mid args below meth c H locs cells slots QQ lsK hC hR hH hl hret
  exact lv_ldiv hC.1 hC.2.1 hd hne (k X p l e R s mid args below meth c H locs cells slots QQ lsK hC hR hH hl hret)
theorem pm_lrem {x y : Int64} (hne : ¬ y = 0) (hd : decode M.2.1 pc = .ok (.lrem, 1)) (k : pm_G d M (pc + 1) ls (.long (x - x / y * y) :: st) m Q) : pm_G d M pc ls (.long y :: .long x :: st) m Q := by
  intro X p l e R s mid args below meth c H locs cells slots QQ lsK hC hR hH hl hret
  exact lv_lrem hC.1 hC.2.1 hd hne (k X p l e R s mid args below meth c H locs cells slots QQ lsK hC hR hH hl hret)
theorem pm_i2l {x : Int32} (hd : decode M.2.1 pc = .ok (.i2l, 1)) (k : pm_G d M (pc + 1) ls (.long x.toInt64 :: st) m Q) : pm_G d M pc ls (.int x :: st) m Q := by
  intro X p l e R s mid args below meth c H locs cells slots QQ lsK hC hR hH hl hret
  exact lv_i2l hC.1 hC.2.1 hd rfl (k X p l e R s mid args below meth c H locs cells slots QQ lsK hC hR hH hl hret)
theorem pm_l2i {x : Int64} (hd : decode M.2.1 pc = .ok (.l2i, 1)) (k : pm_G d M (pc + 1) ls (.int x.toInt32 :: st) m Q) : pm_G d M pc ls (.long x :: st) m Q := by
  intro X p l e R s mid args below meth c H locs cells slots QQ lsK hC hR hH hl hret
  exact lv_l2i hC.1 hC.2.1 hd rfl (k X p l e R s mid args below meth c H locs cells slots QQ lsK hC hR hH hl hret)
theorem pm_i2b {x : Int32} (hd : decode M.2.1 pc = .ok (.i2b, 1)) (k : pm_G d M (pc + 1) ls (.int x.toInt8.toInt32 :: st) m Q) : pm_G d M pc ls (.int x :: st) m Q := by
  intro X p l e R s mid args below meth c H locs cells slots QQ lsK hC hR hH hl hret
  exact lv_i2b hC.1 hC.2.1 hd rfl (k X p l e R s mid args below meth c H locs cells slots QQ lsK hC hR hH hl hret)
theorem pm_lcmp {x y : Int64} (hd : decode M.2.1 pc = .ok (.lcmp, 1)) (k : pm_G d M (pc + 1) ls (.int (lg_cmp x y) :: st) m Q) : pm_G d M pc ls (.long y :: .long x :: st) m Q := by
  intro X p l e R s mid args below meth c H locs cells slots QQ lsK hC hR hH hl hret
  exact W.lcmp hC.1 hC.2.1 hd (k X p l e R s mid args below meth c H locs cells slots QQ lsK hC hR hH hl hret)
theorem pm_trc (X : pmX) (v : Value) : (pm_tr X v).category = v.category := by cases v <;> rfl
theorem pm_dup {v : Value} (hv : v.category = 1) (hd : decode M.2.1 pc = .ok (.dup, 1)) (k : pm_G d M (pc + 1) ls (v :: v :: st) m Q) : pm_G d M pc ls (v :: st) m Q := by
  intro X p l e R s mid args below meth c H locs cells slots QQ lsK hC hR hH hl hret
  exact lv_dup hC.1 hC.2.1 hd ((pm_trc X v).trans hv) (k X p l e R s mid args below meth c H locs cells slots QQ lsK hC hR hH hl hret)
theorem pm_pop {v : Value} (hv : v.category = 1) (hd : decode M.2.1 pc = .ok (.pop, 1)) (k : pm_G d M (pc + 1) ls (st) m Q) : pm_G d M pc ls (v :: st) m Q := by
  intro X p l e R s mid args below meth c H locs cells slots QQ lsK hC hR hH hl hret
  exact lv_pop hC.1 hC.2.1 hd ((pm_trc X v).trans hv) (k X p l e R s mid args below meth c H locs cells slots QQ lsK hC hR hH hl hret)
theorem pm_dup2 {v v2 : Value} (hv : v.category = 1) (hv2 : v2.category = 1) (hd : decode M.2.1 pc = .ok (.dup2, 1)) (k : pm_G d M (pc + 1) ls (v :: v2 :: v :: v2 :: st) m Q) : pm_G d M pc ls (v :: v2 :: st) m Q := by
  intro X p l e R s mid args below meth c H locs cells slots QQ lsK hC hR hH hl hret
  exact lv_dup2_11 hC.1 hC.2.1 hd ((pm_trc X v).trans hv) ((pm_trc X v2).trans hv2) (k X p l e R s mid args below meth c H locs cells slots QQ lsK hC hR hH hl hret)
theorem pm_if_eq {x : Int32} {off : Int} {tgt : Nat} (hd : decode M.2.1 pc = .ok (.ifCond .eq off, 3)) (ht : (pc : Int) + off = (tgt : Int)) (kt : x = 0 → pm_G d M tgt ls st m Q) (kf : ¬ x = 0 → pm_G d M (pc + 3) ls st m Q) : pm_G d M pc ls (.int x :: st) m Q := by
  intro X p l e R s mid args below meth c H locs cells slots QQ lsK hC hR hH hl hret
  exact lv_if_eq hC.1 hC.2.1 hd ht (fun h => kt h X p l e R s mid args below meth c H locs cells slots QQ lsK hC hR hH hl hret) (fun h => kf h X p l e R s mid args below meth c H locs cells slots QQ lsK hC hR hH hl hret)
theorem pm_if_ne {x : Int32} {off : Int} {tgt : Nat} (hd : decode M.2.1 pc = .ok (.ifCond .ne off, 3)) (ht : (pc : Int) + off = (tgt : Int)) (kt : (¬ x = 0) → pm_G d M tgt ls st m Q) (kf : x = 0 → pm_G d M (pc + 3) ls st m Q) : pm_G d M pc ls (.int x :: st) m Q := by
  intro X p l e R s mid args below meth c H locs cells slots QQ lsK hC hR hH hl hret
  exact lv_if_ne hC.1 hC.2.1 hd ht (fun h => kt h X p l e R s mid args below meth c H locs cells slots QQ lsK hC hR hH hl hret) (fun h => kf h X p l e R s mid args below meth c H locs cells slots QQ lsK hC hR hH hl hret)
theorem pm_if_lt {x : Int32} {off : Int} {tgt : Nat} (hd : decode M.2.1 pc = .ok (.ifCond .lt off, 3)) (ht : (pc : Int) + off = (tgt : Int)) (kt : x < 0 → pm_G d M tgt ls st m Q) (kf : ¬ x < 0 → pm_G d M (pc + 3) ls st m Q) : pm_G d M pc ls (.int x :: st) m Q := by
  intro X p l e R s mid args below meth c H locs cells slots QQ lsK hC hR hH hl hret
  exact lv_if_lt hC.1 hC.2.1 hd ht (fun h => kt h X p l e R s mid args below meth c H locs cells slots QQ lsK hC hR hH hl hret) (fun h => kf h X p l e R s mid args below meth c H locs cells slots QQ lsK hC hR hH hl hret)
theorem pm_if_ge {x : Int32} {off : Int} {tgt : Nat} (hd : decode M.2.1 pc = .ok (.ifCond .ge off, 3)) (ht : (pc : Int) + off = (tgt : Int)) (kt : 0 ≤ x → pm_G d M tgt ls st m Q) (kf : ¬ 0 ≤ x → pm_G d M (pc + 3) ls st m Q) : pm_G d M pc ls (.int x :: st) m Q := by
  intro X p l e R s mid args below meth c H locs cells slots QQ lsK hC hR hH hl hret
  exact lv_if_ge hC.1 hC.2.1 hd ht (fun h => kt h X p l e R s mid args below meth c H locs cells slots QQ lsK hC hR hH hl hret) (fun h => kf h X p l e R s mid args below meth c H locs cells slots QQ lsK hC hR hH hl hret)
theorem pm_if_gt {x : Int32} {off : Int} {tgt : Nat} (hd : decode M.2.1 pc = .ok (.ifCond .gt off, 3)) (ht : (pc : Int) + off = (tgt : Int)) (kt : 0 < x → pm_G d M tgt ls st m Q) (kf : ¬ 0 < x → pm_G d M (pc + 3) ls st m Q) : pm_G d M pc ls (.int x :: st) m Q := by
  intro X p l e R s mid args below meth c H locs cells slots QQ lsK hC hR hH hl hret
  exact lv_if_gt hC.1 hC.2.1 hd ht (fun h => kt h X p l e R s mid args below meth c H locs cells slots QQ lsK hC hR hH hl hret) (fun h => kf h X p l e R s mid args below meth c H locs cells slots QQ lsK hC hR hH hl hret)
theorem pm_if_le {x : Int32} {off : Int} {tgt : Nat} (hd : decode M.2.1 pc = .ok (.ifCond .le off, 3)) (ht : (pc : Int) + off = (tgt : Int)) (kt : x ≤ 0 → pm_G d M tgt ls st m Q) (kf : ¬ x ≤ 0 → pm_G d M (pc + 3) ls st m Q) : pm_G d M pc ls (.int x :: st) m Q := by
  intro X p l e R s mid args below meth c H locs cells slots QQ lsK hC hR hH hl hret
  exact lv_if_le hC.1 hC.2.1 hd ht (fun h => kt h X p l e R s mid args below meth c H locs cells slots QQ lsK hC hR hH hl hret) (fun h => kf h X p l e R s mid args below meth c H locs cells slots QQ lsK hC hR hH hl hret)
theorem pm_icmp_eq {x y : Int32} {off : Int} {tgt : Nat} (hd : decode M.2.1 pc = .ok (.if_icmp .eq off, 3)) (ht : (pc : Int) + off = (tgt : Int)) (kt : x = y → pm_G d M tgt ls st m Q) (kf : ¬ x = y → pm_G d M (pc + 3) ls st m Q) : pm_G d M pc ls (.int y :: .int x :: st) m Q := by
  intro X p l e R s mid args below meth c H locs cells slots QQ lsK hC hR hH hl hret
  exact lv_icmp_eq hC.1 hC.2.1 hd ht (fun h => kt h X p l e R s mid args below meth c H locs cells slots QQ lsK hC hR hH hl hret) (fun h => kf h X p l e R s mid args below meth c H locs cells slots QQ lsK hC hR hH hl hret)
theorem pm_icmp_ne {x y : Int32} {off : Int} {tgt : Nat} (hd : decode M.2.1 pc = .ok (.if_icmp .ne off, 3)) (ht : (pc : Int) + off = (tgt : Int)) (kt : (¬ x = y) → pm_G d M tgt ls st m Q) (kf : x = y → pm_G d M (pc + 3) ls st m Q) : pm_G d M pc ls (.int y :: .int x :: st) m Q := by
  intro X p l e R s mid args below meth c H locs cells slots QQ lsK hC hR hH hl hret
  exact lv_icmp_ne hC.1 hC.2.1 hd ht (fun h => kt h X p l e R s mid args below meth c H locs cells slots QQ lsK hC hR hH hl hret) (fun h => kf h X p l e R s mid args below meth c H locs cells slots QQ lsK hC hR hH hl hret)
theorem pm_icmp_lt {x y : Int32} {off : Int} {tgt : Nat} (hd : decode M.2.1 pc = .ok (.if_icmp .lt off, 3)) (ht : (pc : Int) + off = (tgt : Int)) (kt : x < y → pm_G d M tgt ls st m Q) (kf : ¬ x < y → pm_G d M (pc + 3) ls st m Q) : pm_G d M pc ls (.int y :: .int x :: st) m Q := by
  intro X p l e R s mid args below meth c H locs cells slots QQ lsK hC hR hH hl hret
  exact lv_icmp_lt hC.1 hC.2.1 hd ht (fun h => kt h X p l e R s mid args below meth c H locs cells slots QQ lsK hC hR hH hl hret) (fun h => kf h X p l e R s mid args below meth c H locs cells slots QQ lsK hC hR hH hl hret)
theorem pm_icmp_ge {x y : Int32} {off : Int} {tgt : Nat} (hd : decode M.2.1 pc = .ok (.if_icmp .ge off, 3)) (ht : (pc : Int) + off = (tgt : Int)) (kt : y ≤ x → pm_G d M tgt ls st m Q) (kf : ¬ y ≤ x → pm_G d M (pc + 3) ls st m Q) : pm_G d M pc ls (.int y :: .int x :: st) m Q := by
  intro X p l e R s mid args below meth c H locs cells slots QQ lsK hC hR hH hl hret
  exact lv_icmp_ge hC.1 hC.2.1 hd ht (fun h => kt h X p l e R s mid args below meth c H locs cells slots QQ lsK hC hR hH hl hret) (fun h => kf h X p l e R s mid args below meth c H locs cells slots QQ lsK hC hR hH hl hret)
theorem pm_icmp_gt {x y : Int32} {off : Int} {tgt : Nat} (hd : decode M.2.1 pc = .ok (.if_icmp .gt off, 3)) (ht : (pc : Int) + off = (tgt : Int)) (kt : y < x → pm_G d M tgt ls st m Q) (kf : ¬ y < x → pm_G d M (pc + 3) ls st m Q) : pm_G d M pc ls (.int y :: .int x :: st) m Q := by
  intro X p l e R s mid args below meth c H locs cells slots QQ lsK hC hR hH hl hret
  exact lv_icmp_gt hC.1 hC.2.1 hd ht (fun h => kt h X p l e R s mid args below meth c H locs cells slots QQ lsK hC hR hH hl hret) (fun h => kf h X p l e R s mid args below meth c H locs cells slots QQ lsK hC hR hH hl hret)
theorem pm_icmp_le {x y : Int32} {off : Int} {tgt : Nat} (hd : decode M.2.1 pc = .ok (.if_icmp .le off, 3)) (ht : (pc : Int) + off = (tgt : Int)) (kt : x ≤ y → pm_G d M tgt ls st m Q) (kf : ¬ x ≤ y → pm_G d M (pc + 3) ls st m Q) : pm_G d M pc ls (.int y :: .int x :: st) m Q := by
  intro X p l e R s mid args below meth c H locs cells slots QQ lsK hC hR hH hl hret
  exact lv_icmp_le hC.1 hC.2.1 hd ht (fun h => kt h X p l e R s mid args below meth c H locs cells slots QQ lsK hC hR hH hl hret) (fun h => kf h X p l e R s mid args below meth c H locs cells slots QQ lsK hC hR hH hl hret)
theorem pm_goto {off : Int} {tgt : Nat} (hd : decode M.2.1 pc = .ok (.goto off, 3)) (ht : (pc : Int) + off = (tgt : Int)) (k : pm_G d M tgt ls st m Q) : pm_G d M pc ls st m Q := by
  intro X p l e R s mid args below meth c H locs cells slots QQ lsK hC hR hH hl hret
  exact lv_goto hC.1 hC.2.1 hd ht (k X p l e R s mid args below meth c H locs cells slots QQ lsK hC hR hH hl hret)
theorem pm_tableOut {dflt lo hi : Int} {offs : Array Int} {len : Nat} {x : Int32} {tgt : Nat} (hd : decode M.2.1 pc = .ok (.tableswitch dflt lo hi offs, len)) (h : x.toInt < lo ∨ hi < x.toInt) (ht : (pc : Int) + dflt = (tgt : Int)) (k : pm_G d M tgt ls st m Q) : pm_G d M pc ls (.int x :: st) m Q := by
  intro X p l e R s mid args below meth c H locs cells slots QQ lsK hC hR hH hl hret
  exact lv_tableOut hC.1 hC.2.1 hd h ht (k X p l e R s mid args below meth c H locs cells slots QQ lsK hC hR hH hl hret)
theorem pm_tableIn {dflt lo hi : Int} {offs : Array Int} {len : Nat} {x : Int32} {off : Int} {tgt : Nat} (hd : decode M.2.1 pc = .ok (.tableswitch dflt lo hi offs, len)) (h1 : ¬ x.toInt < lo) (h2 : ¬ hi < x.toInt) (ho : offs[(x.toInt - lo).toNat]? = some off) (ht : (pc : Int) + off = (tgt : Int)) (k : pm_G d M tgt ls st m Q) : pm_G d M pc ls (.int x :: st) m Q := by
  intro X p l e R s mid args below meth c H locs cells slots QQ lsK hC hR hH hl hret
  exact lv_tableIn hC.1 hC.2.1 hd h1 h2 ho ht (k X p l e R s mid args below meth c H locs cells slots QQ lsK hC hR hH hl hret)
theorem pm_ireturn {x : Int32} {ty : FieldType} (hd : decode M.2.1 pc = .ok (.ireturn, 1)) (hr : M.2.2.2.1 = some ty) (hn : narrow ty (.int x) = .int x) (k : Q (some (.int x)) m) : pm_G d M pc ls [.int x] m Q := by
  intro X p l e R s mid args below meth c H locs cells slots QQ lsK hC hR hH hl hret
  exact hret H locs m pc lsK (some (.int x)) k hH ⟨⟨ty, hr, hn⟩, hd⟩
theorem pm_lreturn {x : Int64} (hd : decode M.2.1 pc = .ok (.lreturn, 1)) (hr : M.2.2.2.1 = some .long) (k : Q (some (.long x)) m) : pm_G d M pc ls [.long x] m Q := by
  intro X p l e R s mid args below meth c H locs cells slots QQ lsK hC hR hH hl hret
  exact hret H locs m pc lsK (some (.long x)) k hH ⟨hr, hd⟩
theorem pm_return (hd : decode M.2.1 pc = .ok (.return_, 1)) (hr : M.2.2.2.1 = none) (k : Q none m) : pm_G d M pc ls [] m Q := by
  intro X p l e R s mid args below meth c H locs cells slots QQ lsK hC hR hH hl hret
  exact hret H locs m pc lsK none k hH ⟨hr, hd⟩
end PMS

/-! stores into locals -/
def pm_kl (x : Option Value) : Option Value := match x with
  | some (.long _) => none
  | some (.double _) => none
  | y => y
def pm_st1 : List (Option Value) → Nat → Value → List (Option Value)
  | [], _, _ => []
  | _ :: t, 0, v => some v :: t
  | x :: t, 1, v => pm_kl x :: pm_st1 t 0 v
  | x :: t, i + 2, v => x :: pm_st1 t (i + 1) v
def pm_st2 : List (Option Value) → Nat → Value → List (Option Value)
  | [], _, _ => []
  | _ :: [], 0, v => [some v]
  | _ :: _ :: t, 0, v => some v :: none :: t
  | x :: t, 1, v => pm_kl x :: pm_st2 t 0 v
  | x :: t, i + 2, v => x :: pm_st2 t (i + 1) v
theorem pm_kl_some {x : Option Value} {v : Value} (h : pm_kl x = some v) : x = some v ∧ ¬ v.category = 2 := by
  unfold pm_kl at h
  split at h
  · cases h
  · cases h
  · rename_i h1 h2
    subst h
    refine ⟨rfl, ?_⟩
    cases v <;> simp [Value.category] at *
theorem pm_st1_len : ∀ (ls : List (Option Value)) (i : Nat) (v : Value), (pm_st1 ls i v).length = ls.length
  | [], _, _ => rfl
  | _ :: _, 0, _ => rfl
  | x :: t, 1, v => by simp [pm_st1, pm_st1_len t 0 v]
  | x :: t, i + 2, v => by simp [pm_st1, pm_st1_len t (i + 1) v]
theorem pm_st2_len : ∀ (ls : List (Option Value)) (i : Nat) (v : Value), (pm_st2 ls i v).length = ls.length
  | [], _, _ => by simp [pm_st2]
  | _ :: [], 0, _ => rfl
  | _ :: _ :: _, 0, _ => rfl
  | x :: t, 1, v => by simp [pm_st2, pm_st2_len t 0 v]
  | x :: t, i + 2, v => by simp [pm_st2, pm_st2_len t (i + 1) v]
theorem pm_st1_get : ∀ (ls : List (Option Value)) (i : Nat) (v : Value) (j : Nat) (w : Value), (pm_st1 ls i v)[j]? = some (some w) → (j = i ∧ w = v) ∨ (j ≠ i ∧ ls[j]? = some (some w) ∧ (j + 1 = i → ¬ w.category = 2))
  | [], i, v, j, w, h => by simp [pm_st1] at h
  | x :: t, 0, v, 0, w, h => by simp [pm_st1] at h; exact Or.inl ⟨rfl, h.symm⟩
  | x :: t, 0, v, j + 1, w, h => by
    simp only [pm_st1, List.getElem?_cons_succ] at h
    exact Or.inr ⟨by omega, by simpa using h, by omega⟩
  | x :: t, 1, v, 0, w, h => by
    simp only [pm_st1, List.getElem?_cons_zero, Option.some.injEq] at h
    obtain ⟨h1, h2⟩ := pm_kl_some h
    exact Or.inr ⟨by omega, by simp [h1], fun _ => h2⟩
  | x :: t, 1, v, j + 1, w, h => by
    simp only [pm_st1, List.getElem?_cons_succ] at h
    rcases pm_st1_get t 0 v j w h with ⟨h1, h2⟩ | ⟨h1, h2, h3⟩
    · exact Or.inl ⟨by omega, h2⟩
    · exact Or.inr ⟨by omega, by simpa using h2, by omega⟩
  | x :: t, i + 2, v, 0, w, h => by
    simp only [pm_st1, List.getElem?_cons_zero] at h
    exact Or.inr ⟨by omega, by simpa using h, by omega⟩
  | x :: t, i + 2, v, j + 1, w, h => by
    simp only [pm_st1, List.getElem?_cons_succ] at h
    rcases pm_st1_get t (i + 1) v j w h with ⟨h1, h2⟩ | ⟨h1, h2, h3⟩
    · exact Or.inl ⟨by omega, h2⟩
    · exact Or.inr ⟨by omega, by simpa using h2, by omega⟩
theorem pm_st2_get : ∀ (ls : List (Option Value)) (i : Nat) (v : Value) (j : Nat) (w : Value), (pm_st2 ls i v)[j]? = some (some w) → (j = i ∧ w = v) ∨ (j ≠ i ∧ j ≠ i + 1 ∧ ls[j]? = some (some w) ∧ (j + 1 = i → ¬ w.category = 2))
  | [], i, v, j, w, h => by simp [pm_st2] at h
  | x :: [], 0, v, 0, w, h => by simp [pm_st2] at h; exact Or.inl ⟨rfl, h.symm⟩
  | x :: [], 0, v, j + 1, w, h => by simp [pm_st2] at h
  | x :: y :: t, 0, v, 0, w, h => by simp [pm_st2] at h; exact Or.inl ⟨rfl, h.symm⟩
  | x :: y :: t, 0, v, 1, w, h => by simp [pm_st2] at h
  | x :: y :: t, 0, v, j + 2, w, h => by
    simp only [pm_st2, List.getElem?_cons_succ] at h
    exact Or.inr ⟨by omega, by omega, by simpa using h, by omega⟩
  | x :: t, 1, v, 0, w, h => by
    simp only [pm_st2, List.getElem?_cons_zero, Option.some.injEq] at h
    obtain ⟨h1, h2⟩ := pm_kl_some h
    exact Or.inr ⟨by omega, by omega, by simp [h1], fun _ => h2⟩
  | x :: t, 1, v, j + 1, w, h => by
    simp only [pm_st2, List.getElem?_cons_succ] at h
    rcases pm_st2_get t 0 v j w h with ⟨h1, h2⟩ | ⟨h1, h2, h3, h4⟩
    · exact Or.inl ⟨by omega, h2⟩
    · exact Or.inr ⟨by omega, by omega, by simpa using h3, by omega⟩
  | x :: t, i + 2, v, 0, w, h => by
    simp only [pm_st2, List.getElem?_cons_zero] at h
    exact Or.inr ⟨by omega, by omega, by simpa using h, by omega⟩
  | x :: t, i + 2, v, j + 1, w, h => by
    simp only [pm_st2, List.getElem?_cons_succ] at h
    rcases pm_st2_get t (i + 1) v j w h with ⟨h1, h2⟩ | ⟨h1, h2, h3, h4⟩
    · exact Or.inl ⟨by omega, h2⟩
    · exact Or.inr ⟨by omega, by omega, by simpa using h3, by omega⟩
/-- the listed values -/
def pm_as (X : pmX) : Nat → List (Option Value) → List (Nat × Value)
  | _, [] => []
  | i, some v :: t => (i, pm_tr X v) :: pm_as X (i + 1) t
  | i, none :: t => pm_as X (i + 1) t
theorem pm_as_mem (X : pmX) : ∀ (ls : List (Option Value)) (i j : Nat) (v : Value), ls[j]? = some (some v) → (i + j, pm_tr X v) ∈ pm_as X i ls
  | [], i, j, v, h => by simp at h
  | some u :: t, i, 0, v, h => by
    simp only [List.getElem?_cons_zero, Option.some.injEq] at h
    subst h
    exact List.mem_cons_self
  | none :: t, i, 0, v, h => by simp at h
  | some u :: t, i, j + 1, v, h => by
    have h2 := pm_as_mem X t (i + 1) j v (by simpa using h)
    have e : i + 1 + j = i + (j + 1) := by omega
    exact List.mem_cons_of_mem _ (e ▸ h2)
  | none :: t, i, j + 1, v, h => by
    have h2 := pm_as_mem X t (i + 1) j v (by simpa using h)
    have e : i + 1 + j = i + (j + 1) := by omega
    exact e ▸ h2
theorem pm_as_of (X : pmX) : ∀ (ls : List (Option Value)) (i : Nat) (q : Nat × Value), q ∈ pm_as X i ls → ∃ (j : Nat) (v : Value), ls[j]? = some (some v) ∧ q = (i + j, pm_tr X v)
  | [], i, q, h => by simp [pm_as] at h
  | some u :: t, i, q, h => by
    rcases List.mem_cons.mp h with rfl | h
    · exact ⟨0, u, rfl, rfl⟩
    · obtain ⟨j, v, h1, h2⟩ := pm_as_of X t (i + 1) q h
      exact ⟨j + 1, v, by simpa using h1, by rw [h2]; congr 1; omega⟩
  | none :: t, i, q, h => by
    obtain ⟨j, v, h1, h2⟩ := pm_as_of X t (i + 1) q h
    exact ⟨j + 1, v, by simpa using h1, by rw [h2]; congr 1; omega⟩
theorem pm_lv_has {X : pmX} {M : pmM} {ls : List (Option Value)} {lsK : Array Slot} (h : pm_lv X M ls lsK) : lv_has lsK ls.length (pm_as X 0 ls) := by
  refine ⟨h.2.1, h.2.2.1, fun q hq => ?_⟩
  obtain ⟨j, v, h1, rfl⟩ := pm_as_of X ls 0 q hq
  have := h.2.2.2 j v h1
  simpa using this
theorem pm_lv_st1 {X : pmX} {M : pmM} {ls : List (Option Value)} {lsK lsK' : Array Slot} {i : Nat} {v : Value} (h : pm_lv X M ls lsK) (h' : lv_has lsK' ls.length ((i, pm_tr X v) :: (pm_as X 0 ls).filter (fun q => !(q.1 == i) && !(q.1 + 1 == i && q.2.category == 2)))) : pm_lv X M (pm_st1 ls i v) lsK' := by
  refine ⟨(pm_st1_len ls i v).trans h.1, h'.1.trans (pm_st1_len ls i v).symm, h'.2.1, fun j w hj => ?_⟩
  rcases pm_st1_get ls i v j w hj with ⟨rfl, rfl⟩ | ⟨h1, h2, h3⟩
  · exact h'.2.2 _ List.mem_cons_self
  · have hm := pm_as_mem X ls 0 j w h2
    rw [Nat.zero_add] at hm
    refine h'.2.2 (j, pm_tr X w) (List.mem_cons_of_mem _ (List.mem_filter.mpr ⟨hm, ?_⟩))
    simp only [Bool.and_eq_true, Bool.not_eq_true', beq_eq_false_iff_ne, ne_eq, Bool.and_eq_false_iff, pm_trc]
    refine ⟨h1, ?_⟩
    by_cases h4 : j + 1 = i
    · exact Or.inr (h3 h4)
    · exact Or.inl h4
theorem pm_lv_st2 {X : pmX} {M : pmM} {ls : List (Option Value)} {lsK lsK' : Array Slot} {i : Nat} {v : Value} (h : pm_lv X M ls lsK) (h' : lv_has lsK' ls.length ((i, pm_tr X v) :: (pm_as X 0 ls).filter (fun q => !(q.1 == i) && (!(q.1 == i + 1) && !(q.1 + 1 == i && q.2.category == 2))))) : pm_lv X M (pm_st2 ls i v) lsK' := by
  refine ⟨(pm_st2_len ls i v).trans h.1, h'.1.trans (pm_st2_len ls i v).symm, h'.2.1, fun j w hj => ?_⟩
  rcases pm_st2_get ls i v j w hj with ⟨rfl, rfl⟩ | ⟨h1, h2, h3, h4⟩
  · exact h'.2.2 _ List.mem_cons_self
  · have hm := pm_as_mem X ls 0 j w h3
    rw [Nat.zero_add] at hm
    refine h'.2.2 (j, pm_tr X w) (List.mem_cons_of_mem _ (List.mem_filter.mpr ⟨hm, ?_⟩))
    simp only [Bool.and_eq_true, Bool.not_eq_true', beq_eq_false_iff_ne, ne_eq, Bool.and_eq_false_iff, pm_trc]
    refine ⟨h1, h2, ?_⟩
    by_cases h5 : j + 1 = i
    · exact Or.inr (h4 h5)
    · exact Or.inl h5
section PMT
variable {d : Nat} {M : pmM} {pc : Nat} {ls : List (Option Value)} {st : List Value} {m : pmMem} {Q : Option Value → pmMem → Prop}

theorem pm_istore_n {k : Fin 4} {i : Nat} {x : Int32} (hi : (k : Nat) = i) (hn : i < ls.length) (hd : decode M.2.1 pc = .ok (.istore_n k, 1)) (kk : pm_G d M (pc + 1) (pm_st1 ls i (.int x)) st m Q) : pm_G d M pc ls (.int x :: st) m Q := by
  intro X p l e R s mid args below meth c H locs cells slots QQ lsK hC hR hH hl hret
  exact lv_istore_n hC.1 hC.2.1 hd hi (pm_lv_has hl) hn rfl (fun ls' hl' => kk X p l e R s mid args below meth c H locs cells slots QQ ls' hC hR hH (pm_lv_st1 (v := .int x) hl hl') hret)
theorem pm_istore {i : Nat} {x : Int32} (hn : i < ls.length) (hd : decode M.2.1 pc = .ok (.istore i, 2)) (kk : pm_G d M (pc + 2) (pm_st1 ls i (.int x)) st m Q) : pm_G d M pc ls (.int x :: st) m Q := by
  intro X p l e R s mid args below meth c H locs cells slots QQ lsK hC hR hH hl hret
  exact lv_istore hC.1 hC.2.1 hd (pm_lv_has hl) hn rfl (fun ls' hl' => kk X p l e R s mid args below meth c H locs cells slots QQ ls' hC hR hH (pm_lv_st1 (v := .int x) hl hl') hret)
theorem pm_lstore_n {k : Fin 4} {i : Nat} {x : Int64} (hi : (k : Nat) = i) (hn : i + 1 < ls.length) (hd : decode M.2.1 pc = .ok (.lstore_n k, 1)) (kk : pm_G d M (pc + 1) (pm_st2 ls i (.long x)) st m Q) : pm_G d M pc ls (.long x :: st) m Q := by
  intro X p l e R s mid args below meth c H locs cells slots QQ lsK hC hR hH hl hret
  exact lv_lstore_n hC.1 hC.2.1 hd hi (pm_lv_has hl) hn rfl (fun ls' hl' => kk X p l e R s mid args below meth c H locs cells slots QQ ls' hC hR hH (pm_lv_st2 (v := .long x) hl hl') hret)
theorem pm_lstore {i : Nat} {x : Int64} (hn : i + 1 < ls.length) (hd : decode M.2.1 pc = .ok (.lstore i, 2)) (kk : pm_G d M (pc + 2) (pm_st2 ls i (.long x)) st m Q) : pm_G d M pc ls (.long x :: st) m Q := by
  intro X p l e R s mid args below meth c H locs cells slots QQ lsK hC hR hH hl hret
  exact lv_lstore hC.1 hC.2.1 hd (pm_lv_has hl) hn rfl (fun ls' hl' => kk X p l e R s mid args below meth c H locs cells slots QQ ls' hC hR hH (pm_lv_st2 (v := .long x) hl hl') hret)
theorem pm_astore_n {k : Fin 4} {i : Nat} {x : Nat} (hi : (k : Nat) = i) (hn : i < ls.length) (hd : decode M.2.1 pc = .ok (.astore_n k, 1)) (kk : pm_G d M (pc + 1) (pm_st1 ls i (.ref x)) st m Q) : pm_G d M pc ls (.ref x :: st) m Q := by
  intro X p l e R s mid args below meth c H locs cells slots QQ lsK hC hR hH hl hret
  exact lv_astore_n hC.1 hC.2.1 hd hi (pm_lv_has hl) hn rfl (fun ls' hl' => kk X p l e R s mid args below meth c H locs cells slots QQ ls' hC hR hH (pm_lv_st1 (v := .ref x) hl hl') hret)
theorem pm_astore {i : Nat} {x : Nat} (hn : i < ls.length) (hd : decode M.2.1 pc = .ok (.astore i, 2)) (kk : pm_G d M (pc + 2) (pm_st1 ls i (.ref x)) st m Q) : pm_G d M pc ls (.ref x :: st) m Q := by
  intro X p l e R s mid args below meth c H locs cells slots QQ lsK hC hR hH hl hret
  exact lv_astore hC.1 hC.2.1 hd (pm_lv_has hl) hn rfl (fun ls' hl' => kk X p l e R s mid args below meth c H locs cells slots QQ ls' hC hR hH (pm_lv_st1 (v := .ref x) hl hl') hret)
theorem pm_iinc {i : Nat} {n : Int} {x v : Int32} (h : ls[i]? = some (some (.int x))) (hv : x + Int32.ofInt n = v) (hd : decode M.2.1 pc = .ok (.iinc i n, 3)) (kk : pm_G d M (pc + 3) (pm_st1 ls i (.int v)) st m Q) : pm_G d M pc ls st m Q := by
  intro X p l e R s mid args below meth c H locs cells slots QQ lsK hC hR hH hl hret
  have hm := pm_as_mem X ls 0 i (.int x) h
  rw [Nat.zero_add] at hm
  obtain ⟨k, hk⟩ := List.getElem?_of_mem hm
  exact lv_iinc hC.1 hC.2.1 hd (pm_lv_has hl) hk hv (List.getElem?_eq_some_iff.mp h).1 rfl (fun ls' hl' => kk X p l e R s mid args below meth c H locs cells slots QQ ls' hC hR hH (pm_lv_st1 (v := .int v) hl hl') hret)

/-! the heap -/
theorem pm_fs_map {X : pmX} {l : List Value} {k : Nat} {v : Value} (h : l[k]? = some v) : (l.map (pm_tr X))[k]? = some (pm_tr X v) := by
  rw [List.getElem?_map, h]
  rfl
/-- a field read: v is what the cell's picture has there -/
theorem pm_get {a ci k index : Nat} {q : vw_C} {v : Value} (hd : decode M.2.1 pc = .ok (.getfield index, 3)) (hk : pm_kd a = ci) (hci : ci < 8) (hq : vwCl[ci]? = some q) (hw : ∀ w ∈ u_ws q.1 q.2.1 q.2.2, w ∈ pmBig) (hkq : k < q.2.2) (hlink : Cond.fieldLink M.2.2.2.2 index (q.2.1 k).1 (q.2.1 k).2.1 (q.2.1 k).2.2.1 ∈ pmBig) (hv : (pm_fs ci a (m.1 a) (m.2.2 a))[k]? = some v) (kk : pm_G d M (pc + 3) ls (v :: st) m Q) : pm_G d M pc ls (.ref a :: st) m Q := by
  intro X p l e R s mid args below meth c H locs cells slots QQ lsK hC hR hH hl hret
  have h8 := pm_kd_lt hk (by omega)
  exact va_get (ref := (q.2.1 k).1) hC.1 hC.2.1 hC.2.2.2.2.2.2.1 hw hC.2.2.2.2.2.1 hC.2.2.2.2.2.2.2.2.1 hH.1 a ((pm_ws_get h8).trans (by rw [pm_cell_o hk hci])) (by rw [hq]) k hkq (hC.2.2.2.2.2.2.1 _ hlink) (fun _ h => h) (pm_fs_map hv) hd (kk X p l e R s mid args below meth c H locs cells slots QQ lsK hC hR hH hl hret)
theorem pm_getN {a ci k index : Nat} {host : String} {q : vw_C} {v : Value} (hd : decode M.2.1 pc = .ok (.getfield index, 3)) (hk : pm_kd a = ci) (hci : ci < 8) (hq : vwCl[ci]? = some q) (hw : ∀ w ∈ u_ws q.1 q.2.1 q.2.2, w ∈ pmBig) (hkq : k < q.2.2) (hlink : Cond.fieldLinkNest M.2.2.2.2 index (q.2.1 k).1 (q.2.1 k).2.1 (q.2.1 k).2.2.1 host ∈ pmNest) (hv : (pm_fs ci a (m.1 a) (m.2.2 a))[k]? = some v) (kk : pm_G d M (pc + 3) ls (v :: st) m Q) : pm_G d M pc ls (.ref a :: st) m Q := by
  intro X p l e R s mid args below meth c H locs cells slots QQ lsK hC hR hH hl hret
  have h8 := pm_kd_lt hk (by omega)
  exact va_getN (ref := (q.2.1 k).1) hC.1 hC.2.1 hC.2.2.2.2.2.2.1 hw hC.2.2.2.2.2.1 hC.2.2.2.2.2.2.2.2.1 hH.1 a ((pm_ws_get h8).trans (by rw [pm_cell_o hk hci])) (by rw [hq]) k hkq (va_Nw.use rfl (hC.2.2.2.2.2.2.2.1 _ hlink)) (fun _ h => h) (pm_fs_map hv) hd (kk X p l e R s mid args below meth c H locs cells slots QQ lsK hC hR hH hl hret)
theorem pm_o1 {X : pmX} {m : pmMem} {a k : Nat} {v : Int32} (c' : Nat) (h : c' ≠ a) : pm_cell X (pm_setF m a k v) c' = pm_cell X m c' := pm_cell_eq (if_neg h) rfl rfl
theorem pm_o2 {X : pmX} {m : pmMem} {a : Nat} {l : List Int32} (c' : Nat) (h : c' ≠ a) : pm_cell X (pm_setA m a l) c' = pm_cell X m c' := pm_cell_eq rfl (if_neg h) rfl
theorem pm_o3 {X : pmX} {m : pmMem} {a k : Nat} {v : Int64} (c' : Nat) (h : c' ≠ a) : pm_cell X (pm_setL m a k v) c' = pm_cell X m c' := pm_cell_eq rfl rfl (if_neg h)
theorem pm_putI {a ci k index : Nat} {q : vw_C} {x : Int32} {ty0 : Nat → FieldType} (hd : decode M.2.1 pc = .ok (.putfield index, 3)) (hk : pm_kd a = ci) (hci : ci < 8) (hq : vwCl[ci]? = some q) (hw : ∀ w ∈ u_ws q.1 q.2.1 q.2.2, w ∈ pmBig) (hty : ∀ k, k < q.2.2 → parseFieldDescriptor (q.2.1 k).2.2.1 = some (ty0 k)) (hnm : ∀ a, a < q.2.2 → ∀ b, b < q.2.2 → a ≠ b → (q.2.1 a).2.1 ≠ (q.2.1 b).2.1) (hkq : k < q.2.2) (hlink : Cond.fieldLink M.2.2.2.2 index (q.2.1 k).1 (q.2.1 k).2.1 (q.2.1 k).2.2.1 ∈ pmBig) (hfin : (q.2.1 k).2.2.2 = false) (hdt : parseFieldDescriptor (q.2.1 k).2.2.1 = some .int) (hlen : k < (pm_fs ci a (m.1 a) (m.2.2 a)).length) (hset : pm_fs ci a (upd (m.1 a) k x) (m.2.2 a) = (pm_fs ci a (m.1 a) (m.2.2 a)).set k (.int x)) (kk : pm_G d M (pc + 3) ls st (pm_setF m a k x) Q) : pm_G d M pc ls (.int x :: .ref a :: st) m Q := by
  intro X p l e R s mid args below meth c H locs cells slots QQ lsK hC hR hH hl hret
  have h8 := pm_kd_lt hk (by omega)
  have hcell : pm_cell X (pm_setF m a k x) a = .inr (ci, ((pm_fs ci a (m.1 a) (m.2.2 a)).map (pm_tr X)).set k (.int x)) := by
    rw [pm_cell_o hk hci]
    congr 2
    rw [show (.int x : Value) = pm_tr X (.int x) from rfl, ← List.map_set, ← hset]
    simp [pm_setF]
  have hws := pm_ws_set (X := X) (m := m) h8 hcell (fun c' h => pm_o1 c' h)
  refine va_put (ref := (q.2.1 k).1) (ty := .int) (v := .int x) hC.1 hC.2.1 hC.2.2.2.2.2.2.1 hw ty0 hty hnm hC.2.2.2.2.2.1 hC.2.2.2.2.2.2.2.2.1 hH.1 hH.2.1 hH.2.2.1 a ((pm_ws_get h8).trans (by rw [pm_cell_o hk hci])) (by rw [hq]) k hkq (hC.2.2.2.2.2.2.1 _ hlink) (fun _ h => h) hfin hdt rfl rfl (by rw [List.length_map]; exact hlen) hd (fun H1 locs1 hP1 hD1 hS1 => ?_)
  rw [hws] at hP1 hD1
  exact kk X p l e R s mid args below meth c H1 locs1 cells slots QQ lsK hC hR ⟨hP1, hD1, hS1, hH.2.2.2⟩ hl hret
theorem pm_putIN {a ci k index : Nat} {host : String} {q : vw_C} {x : Int32} {ty0 : Nat → FieldType} (hd : decode M.2.1 pc = .ok (.putfield index, 3)) (hk : pm_kd a = ci) (hci : ci < 8) (hq : vwCl[ci]? = some q) (hw : ∀ w ∈ u_ws q.1 q.2.1 q.2.2, w ∈ pmBig) (hty : ∀ k, k < q.2.2 → parseFieldDescriptor (q.2.1 k).2.2.1 = some (ty0 k)) (hnm : ∀ a, a < q.2.2 → ∀ b, b < q.2.2 → a ≠ b → (q.2.1 a).2.1 ≠ (q.2.1 b).2.1) (hkq : k < q.2.2) (hlink : Cond.fieldLinkNest M.2.2.2.2 index (q.2.1 k).1 (q.2.1 k).2.1 (q.2.1 k).2.2.1 host ∈ pmNest) (hfin : (q.2.1 k).2.2.2 = false) (hdt : parseFieldDescriptor (q.2.1 k).2.2.1 = some .int) (hlen : k < (pm_fs ci a (m.1 a) (m.2.2 a)).length) (hset : pm_fs ci a (upd (m.1 a) k x) (m.2.2 a) = (pm_fs ci a (m.1 a) (m.2.2 a)).set k (.int x)) (kk : pm_G d M (pc + 3) ls st (pm_setF m a k x) Q) : pm_G d M pc ls (.int x :: .ref a :: st) m Q := by
  intro X p l e R s mid args below meth c H locs cells slots QQ lsK hC hR hH hl hret
  have h8 := pm_kd_lt hk (by omega)
  have hcell : pm_cell X (pm_setF m a k x) a = .inr (ci, ((pm_fs ci a (m.1 a) (m.2.2 a)).map (pm_tr X)).set k (.int x)) := by
    rw [pm_cell_o hk hci]
    congr 2
    rw [show (.int x : Value) = pm_tr X (.int x) from rfl, ← List.map_set, ← hset]
    simp [pm_setF]
  have hws := pm_ws_set (X := X) (m := m) h8 hcell (fun c' h => pm_o1 c' h)
  refine va_putN (ref := (q.2.1 k).1) (ty := .int) (v := .int x) hC.1 hC.2.1 hC.2.2.2.2.2.2.1 hw ty0 hty hnm hC.2.2.2.2.2.1 hC.2.2.2.2.2.2.2.2.1 hH.1 hH.2.1 hH.2.2.1 a ((pm_ws_get h8).trans (by rw [pm_cell_o hk hci])) (by rw [hq]) k hkq (va_Nw.use rfl (hC.2.2.2.2.2.2.2.1 _ hlink)) (fun _ h => h) hfin hdt rfl rfl (by rw [List.length_map]; exact hlen) hd (fun H1 locs1 hP1 hD1 hS1 => ?_)
  rw [hws] at hP1 hD1
  exact kk X p l e R s mid args below meth c H1 locs1 cells slots QQ lsK hC hR ⟨hP1, hD1, hS1, hH.2.2.2⟩ hl hret
theorem pm_putJ {a ci k index : Nat} {q : vw_C} {x : Int64} {ty0 : Nat → FieldType} (hd : decode M.2.1 pc = .ok (.putfield index, 3)) (hk : pm_kd a = ci) (hci : ci < 8) (hq : vwCl[ci]? = some q) (hw : ∀ w ∈ u_ws q.1 q.2.1 q.2.2, w ∈ pmBig) (hty : ∀ k, k < q.2.2 → parseFieldDescriptor (q.2.1 k).2.2.1 = some (ty0 k)) (hnm : ∀ a, a < q.2.2 → ∀ b, b < q.2.2 → a ≠ b → (q.2.1 a).2.1 ≠ (q.2.1 b).2.1) (hkq : k < q.2.2) (hlink : Cond.fieldLink M.2.2.2.2 index (q.2.1 k).1 (q.2.1 k).2.1 (q.2.1 k).2.2.1 ∈ pmBig) (hfin : (q.2.1 k).2.2.2 = false) (hdt : parseFieldDescriptor (q.2.1 k).2.2.1 = some .long) (hlen : k < (pm_fs ci a (m.1 a) (m.2.2 a)).length) (hset : pm_fs ci a (m.1 a) (vp_updL (m.2.2 a) k x) = (pm_fs ci a (m.1 a) (m.2.2 a)).set k (.long x)) (kk : pm_G d M (pc + 3) ls st (pm_setL m a k x) Q) : pm_G d M pc ls (.long x :: .ref a :: st) m Q := by
  intro X p l e R s mid args below meth c H locs cells slots QQ lsK hC hR hH hl hret
  have h8 := pm_kd_lt hk (by omega)
  have hcell : pm_cell X (pm_setL m a k x) a = .inr (ci, ((pm_fs ci a (m.1 a) (m.2.2 a)).map (pm_tr X)).set k (.long x)) := by
    rw [pm_cell_o hk hci]
    congr 2
    rw [show (.long x : Value) = pm_tr X (.long x) from rfl, ← List.map_set, ← hset]
    simp [pm_setL]
  have hws := pm_ws_set (X := X) (m := m) h8 hcell (fun c' h => pm_o3 c' h)
  refine va_put (ref := (q.2.1 k).1) (ty := .long) (v := .long x) hC.1 hC.2.1 hC.2.2.2.2.2.2.1 hw ty0 hty hnm hC.2.2.2.2.2.1 hC.2.2.2.2.2.2.2.2.1 hH.1 hH.2.1 hH.2.2.1 a ((pm_ws_get h8).trans (by rw [pm_cell_o hk hci])) (by rw [hq]) k hkq (hC.2.2.2.2.2.2.1 _ hlink) (fun _ h => h) hfin hdt rfl rfl (by rw [List.length_map]; exact hlen) hd (fun H1 locs1 hP1 hD1 hS1 => ?_)
  rw [hws] at hP1 hD1
  exact kk X p l e R s mid args below meth c H1 locs1 cells slots QQ lsK hC hR ⟨hP1, hD1, hS1, hH.2.2.2⟩ hl hret
theorem pm_putJN {a ci k index : Nat} {host : String} {q : vw_C} {x : Int64} {ty0 : Nat → FieldType} (hd : decode M.2.1 pc = .ok (.putfield index, 3)) (hk : pm_kd a = ci) (hci : ci < 8) (hq : vwCl[ci]? = some q) (hw : ∀ w ∈ u_ws q.1 q.2.1 q.2.2, w ∈ pmBig) (hty : ∀ k, k < q.2.2 → parseFieldDescriptor (q.2.1 k).2.2.1 = some (ty0 k)) (hnm : ∀ a, a < q.2.2 → ∀ b, b < q.2.2 → a ≠ b → (q.2.1 a).2.1 ≠ (q.2.1 b).2.1) (hkq : k < q.2.2) (hlink : Cond.fieldLinkNest M.2.2.2.2 index (q.2.1 k).1 (q.2.1 k).2.1 (q.2.1 k).2.2.1 host ∈ pmNest) (hfin : (q.2.1 k).2.2.2 = false) (hdt : parseFieldDescriptor (q.2.1 k).2.2.1 = some .long) (hlen : k < (pm_fs ci a (m.1 a) (m.2.2 a)).length) (hset : pm_fs ci a (m.1 a) (vp_updL (m.2.2 a) k x) = (pm_fs ci a (m.1 a) (m.2.2 a)).set k (.long x)) (kk : pm_G d M (pc + 3) ls st (pm_setL m a k x) Q) : pm_G d M pc ls (.long x :: .ref a :: st) m Q := by
  intro X p l e R s mid args below meth c H locs cells slots QQ lsK hC hR hH hl hret
  have h8 := pm_kd_lt hk (by omega)
  have hcell : pm_cell X (pm_setL m a k x) a = .inr (ci, ((pm_fs ci a (m.1 a) (m.2.2 a)).map (pm_tr X)).set k (.long x)) := by
    rw [pm_cell_o hk hci]
    congr 2
    rw [show (.long x : Value) = pm_tr X (.long x) from rfl, ← List.map_set, ← hset]
    simp [pm_setL]
  have hws := pm_ws_set (X := X) (m := m) h8 hcell (fun c' h => pm_o3 c' h)
  refine va_putN (ref := (q.2.1 k).1) (ty := .long) (v := .long x) hC.1 hC.2.1 hC.2.2.2.2.2.2.1 hw ty0 hty hnm hC.2.2.2.2.2.1 hC.2.2.2.2.2.2.2.2.1 hH.1 hH.2.1 hH.2.2.1 a ((pm_ws_get h8).trans (by rw [pm_cell_o hk hci])) (by rw [hq]) k hkq (va_Nw.use rfl (hC.2.2.2.2.2.2.2.1 _ hlink)) (fun _ h => h) hfin hdt rfl rfl (by rw [List.length_map]; exact hlen) hd (fun H1 locs1 hP1 hD1 hS1 => ?_)
  rw [hws] at hP1 hD1
  exact kk X p l e R s mid args below meth c H1 locs1 cells slots QQ lsK hC hR ⟨hP1, hD1, hS1, hH.2.2.2⟩ hl hret
theorem pm_nn {i : Int32} {n : Nat} (h : vp_in i n) : i.toNatClampNeg < n := Nat.not_le.mp fun q => h (Or.inr q)
theorem pm_iaload {a : Nat} {i : Int32} (hd : decode M.2.1 pc = .ok (.iaload, 1)) (hk : pm_kd a = 8) (hin : vp_in i (m.2.1 a).length) (kk : pm_G d M (pc + 1) ls (.int ((m.2.1 a).getD i.toNatClampNeg 0) :: st) m Q) : pm_G d M pc ls (.int i :: .ref a :: st) m Q := by
  intro X p l e R s mid args below meth c H locs cells slots QQ lsK hC hR hH hl hret
  exact va_iald (f := fun i => (m.2.1 a).getD i 0) hC.1 hC.2.1 hC.2.2.2.2.2.2.2.2.1 hH.1 a 0 ((pm_ws_get (pm_kd_lt hk (by omega))).trans (by rw [pm_cell_i hk])) rfl hin hd (kk X p l e R s mid args below meth c H locs cells slots QQ lsK hC hR hH hl hret)
theorem pm_zaload {a : Nat} {i : Int32} (hd : decode M.2.1 pc = .ok (.baload, 1)) (hk : pm_kd a = 9) (hin : vp_in i (m.2.1 a).length) (kk : pm_G d M (pc + 1) ls (.int ((m.2.1 a).getD i.toNatClampNeg 0) :: st) m Q) : pm_G d M pc ls (.int i :: .ref a :: st) m Q := by
  intro X p l e R s mid args below meth c H locs cells slots QQ lsK hC hR hH hl hret
  exact va_zald (f := fun i => (m.2.1 a).getD i 0) hC.1 hC.2.1 hC.2.2.2.2.2.2.2.2.1 hH.1 a 1 ((pm_ws_get (pm_kd_lt hk (by omega))).trans (by rw [pm_cell_z hk])) rfl hin hd (kk X p l e R s mid args below meth c H locs cells slots QQ lsK hC hR hH hl hret)
theorem pm_letload {i : Int32} (hd : decode M.2.1 pc = .ok (.iaload, 1)) (hin : vp_in i 6) (kk : pm_G d M (pc + 1) ls (.int (pm_let i.toNatClampNeg) :: st) m Q) : pm_G d M pc ls (.int i :: .ref 87 :: st) m Q := by
  intro X p l e R s mid args below meth c H locs cells slots QQ lsK hC hR hH hl hret
  exact va_ti hC.1 hC.2.1 hC.2.2.2.2.2.2.2.2.2.2.1 hH.2.2.1 hin rfl hd (kk X p l e R s mid args below meth c H locs cells slots QQ lsK hC hR hH hl hret)
theorem pm_aaload {a k : Nat} {i : Int32} (hd : decode M.2.1 pc = .ok (.aaload, 1)) (hk : pm_kd a = 10 + k) (hk3 : k < 3) (hin : vp_in i (pm_rl a)) (kk : pm_G d M (pc + 1) ls (.ref (pm_ra a i.toNatClampNeg) :: st) m Q) : pm_G d M pc ls (.int i :: .ref a :: st) m Q := by
  intro X p l e R s mid args below meth c H locs cells slots QQ lsK hC hR hH hl hret
  have hcell := (pm_ws_get (X := X) (m := m) (pm_kd_lt hk (by omega))).trans (by rw [pm_cell_r hk hk3])
  rcases (show k = 0 ∨ k = 1 ∨ k = 2 by omega) with rfl | rfl | rfl
  · exact va_aldq (C := RX5) hC.1 hC.2.1 hC.2.2.2.2.2.2.2.2.1 hH.1 a 2 hcell rfl hin hd (kk X p l e R s mid args below meth c H locs cells slots QQ lsK hC hR hH hl hret)
  · exact va_aldq (C := RX1) hC.1 hC.2.1 hC.2.2.2.2.2.2.2.2.1 hH.1 a 3 hcell rfl hin hd (kk X p l e R s mid args below meth c H locs cells slots QQ lsK hC hR hH hl hret)
  · exact va_aldq (C := RX0) hC.1 hC.2.1 hC.2.2.2.2.2.2.2.2.1 hH.1 a 4 hcell rfl hin hd (kk X p l e R s mid args below meth c H locs cells slots QQ lsK hC hR hH hl hret)
theorem pm_upd_list (l : List Int32) (i : Nat) (x : Int32) : (fun j => (l.set i x).getD j 0) = fun j => if i < l.length then upd (fun j => l.getD j 0) i x j else l.getD j 0 := by
  funext j
  by_cases hj : j = i
  · subst hj
    by_cases h : j < l.length
    · simp [List.getD_eq_getElem?_getD, h, upd]
    · simp [List.getD_eq_getElem?_getD, h]
  · by_cases h : i < l.length
    · simp [List.getD_eq_getElem?_getD, h, upd, hj, Ne.symm hj]
    · simp [List.getD_eq_getElem?_getD, h, Ne.symm hj]
theorem pm_iastore {a : Nat} {i x : Int32} (hd : decode M.2.1 pc = .ok (.iastore, 1)) (hk : pm_kd a = 8) (hin : vp_in i (m.2.1 a).length) (kk : pm_G d M (pc + 1) ls st (pm_setA m a ((m.2.1 a).set i.toNatClampNeg x)) Q) : pm_G d M pc ls (.int x :: .int i :: .ref a :: st) m Q := by
  intro X p l e R s mid args below meth c H locs cells slots QQ lsK hC hR hH hl hret
  have h8 := pm_kd_lt hk (by omega)
  have hlt := pm_nn hin
  have hcell : pm_cell X (pm_setA m a ((m.2.1 a).set i.toNatClampNeg x)) a = .inl (X.2.2.1 0, (m.2.1 a).length, .inl (upd (fun i => (m.2.1 a).getD i 0) i.toNatClampNeg x)) := by
    rw [pm_cell_i hk]
    simp only [pm_setA, if_true, List.length_set]
    rw [pm_upd_list]
    simp [hlt]
  have hws := pm_ws_set (X := X) (m := m) h8 hcell (fun c' h => pm_o2 c' h)
  refine va_iast hC.1 hC.2.1 hC.2.2.2.2.2.2.2.2.1 hH.1 hH.2.1 hH.2.2.1 a 0 ((pm_ws_get h8).trans (by rw [pm_cell_i hk])) rfl hin hd (fun H1 locs1 hP1 hD1 hS1 => ?_)
  rw [hws] at hP1 hD1
  exact kk X p l e R s mid args below meth c H1 locs1 cells slots QQ lsK hC hR ⟨hP1, hD1, hS1, pm_scr_A h8 hH.2.2.2⟩ hl hret
theorem pm_zastore {a : Nat} {i x : Int32} (hd : decode M.2.1 pc = .ok (.bastore, 1)) (hk : pm_kd a = 9) (hin : vp_in i (m.2.1 a).length) (hx : vp_nar .boolean x = x) (kk : pm_G d M (pc + 1) ls st (pm_setA m a ((m.2.1 a).set i.toNatClampNeg x)) Q) : pm_G d M pc ls (.int x :: .int i :: .ref a :: st) m Q := by
  intro X p l e R s mid args below meth c H locs cells slots QQ lsK hC hR hH hl hret
  have h8 := pm_kd_lt hk (by omega)
  have hlt := pm_nn hin
  have hcell : pm_cell X (pm_setA m a ((m.2.1 a).set i.toNatClampNeg x)) a = .inl (X.2.2.1 1, (m.2.1 a).length, .inl (upd (fun i => (m.2.1 a).getD i 0) i.toNatClampNeg (vp_nar .boolean x))) := by
    rw [pm_cell_z hk, hx]
    simp only [pm_setA, if_true, List.length_set]
    rw [pm_upd_list]
    simp [hlt]
  have hws := pm_ws_set (X := X) (m := m) h8 hcell (fun c' h => pm_o2 c' h)
  refine va_zast hC.1 hC.2.1 hC.2.2.2.2.2.2.2.2.1 hH.1 hH.2.1 hH.2.2.1 a 1 ((pm_ws_get h8).trans (by rw [pm_cell_z hk])) rfl hin hd (fun H1 locs1 hP1 hD1 hS1 => ?_)
  rw [hws] at hP1 hD1
  exact kk X p l e R s mid args below meth c H1 locs1 cells slots QQ lsK hC hR ⟨hP1, hD1, hS1, pm_scr_A h8 hH.2.2.2⟩ hl hret
theorem pm_alenI {a : Nat} {v : Int32} (hd : decode M.2.1 pc = .ok (.arraylength, 1)) (hk : pm_kd a = 8) (hv : Int32.ofNat (m.2.1 a).length = v) (kk : pm_G d M (pc + 1) ls (.int v :: st) m Q) : pm_G d M pc ls (.ref a :: st) m Q := by
  intro X p l e R s mid args below meth c H locs cells slots QQ lsK hC hR hH hl hret
  exact va_alen hC.1 hC.2.1 hC.2.2.2.2.2.2.2.2.1 hH.1 a 0 ((pm_ws_get (pm_kd_lt hk (by omega))).trans (by rw [pm_cell_i hk])) rfl hv hd (kk X p l e R s mid args below meth c H locs cells slots QQ lsK hC hR hH hl hret)
theorem pm_alenS {a : Nat} {v : Int32} (hd : decode M.2.1 pc = .ok (.arraylength, 1)) (hk : pm_kd a = 10) (hv : Int32.ofNat (pm_rl a) = v) (kk : pm_G d M (pc + 1) ls (.int v :: st) m Q) : pm_G d M pc ls (.ref a :: st) m Q := by
  intro X p l e R s mid args below meth c H locs cells slots QQ lsK hC hR hH hl hret
  exact va_alen hC.1 hC.2.1 hC.2.2.2.2.2.2.2.2.1 hH.1 a 2 ((pm_ws_get (pm_kd_lt hk (by omega))).trans (by rw [pm_cell_r (k := 0) hk (by omega)])) rfl hv hd (kk X p l e R s mid args below meth c H locs cells slots QQ lsK hC hR hH hl hret)
theorem pm_letters {index : Nat} (hd : decode M.2.1 pc = .ok (.getstatic index, 3)) (hlink : Cond.fieldLink M.2.2.2.2 index "HillSeer$Reader" "LETTERS" "[I" ∈ pmBig) (kk : pm_G d M (pc + 3) ls (.ref 87 :: st) m Q) : pm_G d M pc ls st m Q := by
  intro X p l e R s mid args below meth c H locs cells slots QQ lsK hC hR hH hl hret
  exact va_gets hC.1 hC.2.1 hC.2.2.2.2.2.2.2.2.2.1 hH.2.2.1 hC.2.2.2.2.2.1 (hC.2.2.2.2.2.2.1 _ hlink) (fun _ h => h) hd (kk X p l e R s mid args below meth c H locs cells slots QQ lsK hC hR hH hl hret)
theorem pm_sload {i : Int32} (hd : decode M.2.1 pc = .ok (.iaload, 1)) (hin : vp_in i (m.2.1 88).length) (kk : pm_G d M (pc + 1) ls (.int ((m.2.1 88).getD i.toNatClampNeg 0) :: st) m Q) : pm_G d M pc ls (.int i :: .ref 88 :: st) m Q := by
  intro X p l e R s mid args below meth c H locs cells slots QQ lsK hC hR hH hl hret
  have h1 := hH.2.2.2.1
  have h2 := hH.2.2.2.2
  exact va_ti hC.1 hC.2.1 hC.2.2.2.2.2.2.2.2.2.2.2 hH.2.2.1 (by rw [h1]; exact hin) (by rw [h2]; rfl) hd (kk X p l e R s mid args below meth c H locs cells slots QQ lsK hC hR hH hl hret)
theorem pm_slen {v : Int32} (hd : decode M.2.1 pc = .ok (.arraylength, 1)) (hv : Int32.ofNat (m.2.1 88).length = v) (kk : pm_G d M (pc + 1) ls (.int v :: st) m Q) : pm_G d M pc ls (.ref 88 :: st) m Q := by
  intro X p l e R s mid args below meth c H locs cells slots QQ lsK hC hR hH hl hret
  have h1 := hH.2.2.2.1
  obtain ⟨cell, c1, c2, c3, c4, c5, c6, c7⟩ := hC.2.2.2.2.2.2.2.2.2.2.2
  exact W.alen (n := v) hC.1 hC.2.1 (by rw [hH.2.2.1.2.1 _ (Array.getElem?_eq_some_iff.mp c1).1 c7]; exact c1) c2 (by rw [c5, h1]; exact hv) rfl rfl hd (kk X p l e R s mid args below meth c H locs cells slots QQ lsK hC hR hH hl hret)
theorem pm_cat (X : pmX) (l : List Value) : (l.map (pm_tr X)).map (fun v => v.category) = l.map (fun v => v.category) := by
  rw [List.map_map]
  exact List.map_congr_left (fun v _ => pm_trc X v)
theorem pm_mmax {index : Nat} {x y : Int32} (hd : decode M.2.1 pc = .ok (.invokestatic index, 3)) (h1 : Cond.methodLink M.2.2.2.2 index Lib.Math.max.name ∈ pmBig) (h2 : Cond.static Lib.Math.max.name ∈ pmBig) (h3 : Cond.initialized "java/lang/Math" ∈ pmBig) (h4 : Cond.code Lib.Math.max.name Lib.Math.max.code 2 (some .int) ∈ pmBig) (h5 : (st.map fun v => v.category).sum ≤ 8) (kk : pm_G (d + 1) M (pc + 3) ls (.int (if x < y then y else x) :: st) m Q) : pm_G (d + 1) M pc ls (.int y :: .int x :: st) m Q := by
  intro X p l e R s mid args below meth c H locs cells slots QQ lsK hC hR hH hl hret
  obtain ⟨r1, r2, r3, r4⟩ := id hR
  exact va_mmax hC.1 hC.2.1 (hC.2.2.2.2.1.trans (hl.1.symm.trans hl.2.1.symm)) hC.2.2.2.2.2.1 (hC.2.2.2.2.2.2.1 _ h1) (hC.2.2.2.2.2.2.1 _ h2) (hC.2.2.2.2.2.2.1 _ h3) (hC.2.2.2.2.2.2.1 _ h4) (by omega) (by rw [pm_cat]; omega) r3 r4 hd (kk X p l e R s mid args below meth c H locs cells slots QQ lsK hC hR hH hl hret)
theorem pm_mmin {index : Nat} {x y : Int32} (hd : decode M.2.1 pc = .ok (.invokestatic index, 3)) (h1 : Cond.methodLink M.2.2.2.2 index Lib.Math.min.name ∈ pmBig) (h2 : Cond.static Lib.Math.min.name ∈ pmBig) (h3 : Cond.initialized "java/lang/Math" ∈ pmBig) (h4 : Cond.code Lib.Math.min.name Lib.Math.min.code 2 (some .int) ∈ pmBig) (h5 : (st.map fun v => v.category).sum ≤ 8) (kk : pm_G (d + 1) M (pc + 3) ls (.int (if y < x then y else x) :: st) m Q) : pm_G (d + 1) M pc ls (.int y :: .int x :: st) m Q := by
  intro X p l e R s mid args below meth c H locs cells slots QQ lsK hC hR hH hl hret
  obtain ⟨r1, r2, r3, r4⟩ := id hR
  exact va_mmin hC.1 hC.2.1 (hC.2.2.2.2.1.trans (hl.1.symm.trans hl.2.1.symm)) hC.2.2.2.2.2.1 (hC.2.2.2.2.2.2.1 _ h1) (hC.2.2.2.2.2.2.1 _ h2) (hC.2.2.2.2.2.2.1 _ h3) (hC.2.2.2.2.2.2.1 _ h4) (by omega) (by rw [pm_cat]; omega) r3 r4 hd (kk X p l e R s mid args below meth c H locs cells slots QQ lsK hC hR hH hl hret)
/-- a stretch of a list into another -/
def pm_cpy (f g : List Int32) (sp dp n : Nat) : List Int32 := g.take dp ++ (f.drop sp).take n ++ g.drop (dp + n)
theorem pm_cpy_len {f g : List Int32} {sp dp n : Nat} (h1 : sp + n ≤ f.length) (h2 : dp + n ≤ g.length) : (pm_cpy f g sp dp n).length = g.length := by
  simp [pm_cpy]
  omega
theorem pm_cpy_get {f g : List Int32} {sp dp n : Nat} (h1 : sp + n ≤ f.length) (h2 : dp + n ≤ g.length) : (fun j => (pm_cpy f g sp dp n).getD j 0) = va_cpy (fun j => f.getD j 0) (fun j => g.getD j 0) sp dp n := by
  funext j
  unfold va_cpy pm_cpy
  simp only [List.getD_eq_getElem?_getD]
  by_cases a : dp ≤ j ∧ j < dp + n
  · rw [if_pos a, List.append_assoc, List.getElem?_append_right (by simp; omega), List.getElem?_append_left (by simp; omega)]
    rw [List.getElem?_take_of_lt (by simp; omega), List.getElem?_drop]
    congr 2
    simp
    omega
  · rw [if_neg a]
    by_cases b : j < dp
    · rw [List.append_assoc, List.getElem?_append_left (by simp; omega), List.getElem?_take_of_lt b]
    · rw [List.getElem?_append_right (by simp; omega), List.getElem?_drop]
      congr 2
      simp
      omega
theorem pm_copy {index a0 a : Nat} {sp dp n : Int32} (hd : decode M.2.1 pc = .ok (.invokestatic index, 3)) (w1 : Cond.methodLink M.2.2.2.2 index arraycopyName ∈ pmBig) (w2 : Cond.native arraycopyName ∈ pmBig) (w3 : Cond.static arraycopyName ∈ pmBig) (w4 : Cond.initialized "java/lang/System" ∈ pmBig) (hk0 : pm_kd a0 = 8) (hk : pm_kd a = 8) (h1 : ¬ sp < 0) (h2 : ¬ dp < 0) (h3 : ¬ n < 0) (h4 : sp.toNatClampNeg + n.toNatClampNeg ≤ (m.2.1 a0).length) (h5 : dp.toNatClampNeg + n.toNatClampNeg ≤ (m.2.1 a).length) (h6 : (st.map fun v => v.category).sum ≤ 8)
    (kk : pm_G (d + 1) M (pc + 3) ls st (pm_setA m a (pm_cpy (m.2.1 a0) (m.2.1 a) sp.toNatClampNeg dp.toNatClampNeg n.toNatClampNeg)) Q) : pm_G (d + 1) M pc ls (.int n :: .int dp :: .ref a :: .int sp :: .ref a0 :: st) m Q := by
  intro X p l e R s mid args below meth c H locs cells slots QQ lsK hC hR hH hl hret
  obtain ⟨r1, r2, r3, r4⟩ := id hR
  have h8 := pm_kd_lt hk (by omega)
  have h80 := pm_kd_lt hk0 (by omega)
  have hcell : pm_cell X (pm_setA m a (pm_cpy (m.2.1 a0) (m.2.1 a) sp.toNatClampNeg dp.toNatClampNeg n.toNatClampNeg)) a = .inl (X.2.2.1 0, (m.2.1 a).length, .inl (va_cpy (fun j => (m.2.1 a0).getD j 0) (fun j => (m.2.1 a).getD j 0) sp.toNatClampNeg dp.toNatClampNeg n.toNatClampNeg)) := by
    rw [pm_cell_i hk]
    simp only [pm_setA, if_true]
    rw [pm_cpy_len h4 h5, pm_cpy_get h4 h5]
  have hws := pm_ws_set (X := X) (m := m) h8 hcell (fun c' h => pm_o2 c' h)
  refine va_copyi hC.1 hC.2.1 (hC.2.2.2.2.1.trans (hl.1.symm.trans hl.2.1.symm)) hC.2.2.2.2.2.1 (hC.2.2.2.2.2.2.1 _ w1) (hC.2.2.2.2.2.2.1 _ w2) (hC.2.2.2.2.2.2.1 _ w3) (hC.2.2.2.2.2.2.1 _ w4) hC.2.2.2.2.2.2.2.2.1 hH.1 hH.2.1 hH.2.2.1 a0 a 0 0 (ty := .int) ((pm_ws_get h80).trans (by rw [pm_cell_i hk0])) ((pm_ws_get h8).trans (by rw [pm_cell_i hk])) rfl rfl rfl h1 h2 h3 h4 h5 (fun _ _ => rfl) (by omega) ?_ hd (fun H1 locs1 hP1 hD1 hS1 => ?_)
  · rw [pm_cat]
    have : nativeFrameWords "java/lang/System" "arraycopy" 5 = 7 := by decide +kernel
    omega
  · rw [hws] at hP1 hD1
    exact kk X p l e R s mid args below meth c H1 locs1 cells slots QQ lsK hC hR ⟨hP1, hD1, hS1, pm_scr_A h8 hH.2.2.2⟩ hl hret
end PMT

/-! calls -/
def pm_ex : List Value → List (Option Value)
  | [] => []
  | .long v :: t => some (.long v) :: none :: pm_ex t
  | .double v :: t => some (.double v) :: none :: pm_ex t
  | v :: t => some v :: pm_ex t
def pm_ent (M : pmM) (as : List Value) : List (Option Value) := pm_ex as ++ List.replicate (M.2.2.1 - (pm_ex as).length) none
def pm_psh (r : Option Value) (st : List Value) : List Value := match r with
  | some v => v :: st
  | none => st
def pm_num (r : Option Value) : Prop := match r with
  | none => True
  | some (.int _) => True
  | some (.long _) => True
  | _ => False
def pm_room (d : Nat) : Room := { frames := d, cells := 0, slots := 0, locals := 300 * d }
def pm_wsM (M : pmM) : List Cond := .code M.1 M.2.1 M.2.2.1 M.2.2.2.1 :: pmBig
def pm_Pc (X : pmX) (as : List Value) (m : pmMem) : Array Value → State → Prop := va_Pc (as.map (pm_tr X)) (fun U => pm_U X U U.heap ∧ va_P X.2.1 vwCl (pm_ws X m) U.heap ∧ va_D (pm_Ad X) (pm_ws X m) ∧ pm_scr X m)
def pm_Qc (X : pmX) (Q : Option Value → pmMem → Prop) : Array Value → State → Outcome → State → Prop := fun _ st oc t => (∃ (r : Option Value) (m' : pmMem), oc = .returned r ∧ pm_num r ∧ Q r m' ∧ va_P X.2.1 vwCl (pm_ws X m') t.heap ∧ va_D (pm_Ad X) (pm_ws X m') ∧ pm_scr X m') ∧ va_F (pm_Ad X) st t
theorem pm_ex_args (X : pmX) : ∀ (as : List Value) (i j : Nat) (v : Value), (pm_ex as)[j]? = some (some v) → (i + j, pm_tr X v) ∈ lv_args i (as.map (pm_tr X))
  | [], i, j, v, h => by simp [pm_ex] at h
  | a :: t, i, j, v, h => by
    by_cases hc : a.category = 2
    · have e1 : pm_ex (a :: t) = some a :: none :: pm_ex t := by cases a <;> simp [Value.category] at hc <;> rfl
      rw [e1] at h
      show (i + j, pm_tr X v) ∈ (i, pm_tr X a) :: lv_args (if (pm_tr X a).category = 2 then i + 2 else i + 1) (t.map (pm_tr X))
      rw [pm_trc, if_pos hc]
      match j, h with
      | 0, h =>
        simp only [List.getElem?_cons_zero, Option.some.injEq] at h
        subst h
        exact List.mem_cons_self
      | 1, h => simp at h
      | j + 2, h =>
        have h2 := pm_ex_args X t (i + 2) j v (by simpa using h)
        have e : i + 2 + j = i + (j + 2) := by omega
        exact List.mem_cons_of_mem _ (e ▸ h2)
    · have e1 : pm_ex (a :: t) = some a :: pm_ex t := by cases a <;> simp [Value.category] at hc <;> rfl
      rw [e1] at h
      show (i + j, pm_tr X v) ∈ (i, pm_tr X a) :: lv_args (if (pm_tr X a).category = 2 then i + 2 else i + 1) (t.map (pm_tr X))
      rw [pm_trc, if_neg hc]
      match j, h with
      | 0, h =>
        simp only [List.getElem?_cons_zero, Option.some.injEq] at h
        subst h
        exact List.mem_cons_self
      | j + 1, h =>
        have h2 := pm_ex_args X t (i + 1) j v (by simpa using h)
        have e : i + 1 + j = i + (j + 1) := by omega
        exact List.mem_cons_of_mem _ (e ▸ h2)
theorem pm_ex_len (X : pmX) : ∀ (as : List Value), (lg_sl (as.map (pm_tr X))).length = (pm_ex as).length
  | [] => rfl
  | a :: t => by
    have ih := pm_ex_len X t
    have e2 : lg_sl ((a :: t).map (pm_tr X)) = (if (pm_tr X a).category = 2 then [Slot.val (pm_tr X a), Slot.second] else [Slot.val (pm_tr X a)]) ++ lg_sl (t.map (pm_tr X)) := by simp [lg_sl]
    rw [e2, pm_trc]
    by_cases hc : a.category = 2
    · have e1 : pm_ex (a :: t) = some a :: none :: pm_ex t := by cases a <;> simp [Value.category] at hc <;> rfl
      rw [e1, if_pos hc]
      simp [ih]
      try omega
    · have e1 : pm_ex (a :: t) = some a :: pm_ex t := by cases a <;> simp [Value.category] at hc <;> rfl
      rw [e1, if_neg hc]
      simp [ih]
      try omega
theorem pm_ent_lv {X : pmX} {M : pmM} {as : List Value} (h : (pm_ex as).length ≤ M.2.2.1) : pm_lv X M (pm_ent M as) ((lg_sl (as.map (pm_tr X)) ++ List.replicate (M.2.2.1 - (lg_sl (as.map (pm_tr X))).length) Slot.unset).toArray) := by
  have hlen := pm_ex_len X as
  have he := lv_entry (as.map (pm_tr X)) (n := M.2.2.1) (by rw [hlen]; exact h)
  have hl : (pm_ent M as).length = M.2.2.1 := by
    simp [pm_ent]
    omega
  refine ⟨hl, he.1.trans hl.symm, he.2.1, fun j v hj => ?_⟩
  have hj2 : (pm_ex as)[j]? = some (some v) := by
    unfold pm_ent at hj
    by_cases hb : j < (pm_ex as).length
    · rwa [List.getElem?_append_left hb] at hj
    · rw [List.getElem?_append_right (by omega)] at hj
      simp [List.getElem?_replicate] at hj
  have := he.2.2 _ (pm_ex_args X as 0 j v hj2)
  simpa using this
theorem pm_num_of {M : pmM} {pc : Nat} {r : Option Value} (h : pm_ret M pc r) : pm_num r := by
  cases r with
  | none => trivial
  | some v => cases v <;> first | trivial | exact h.elim
/-- the method's contract, out of its walk -/
theorem pm_met {d : Nat} {M : pmM} {as : List Value} {m : pmMem} {Q : Option Value → pmMem → Prop} (X : pmX) (l : Launch) (hpl : plainName M.1.cls = true) (hcl : M.1.cls = M.2.2.2.2) (hlen : (pm_ex as).length ≤ M.2.2.1) (hG : pm_G d M 0 (pm_ent M as) [] m Q) : Met l M.1 (pm_wsM M) (pm_room d) (pm_Pc X as m) (pm_Qc X Q) 0 0 (pm_Ad X) := by
  refine Met.ofW (cc := M.2.1) (maxL := M.2.2.1) (ret := M.2.2.2.1) hpl rfl ?_
  intro p e s mid args below meth c s₁ B hml hv
  obtain ⟨rfl, hU, hP, hD, hsc⟩ := hv
  have hx := B.exec
  have hb := B.bytes
  have hr := B.returns
  have hts := atoms_spec (ws := pm_wsM M) B.pre
  have hown : s.vm.findClass M.1.cls = some mid.cls := findClass_of_methodNamed B.named
  have hlocks := B.notSynchronized
  rw [lg_entry_eq]
  refine hG X p l e (pm_room d) s mid _ below meth c s.heap [] 0 0 _ _ ⟨hx, hb, hr, hlocks, hml, hcl ▸ hown, fun w hw => hts w (List.mem_cons_of_mem _ hw), hU⟩ ⟨Nat.le_refl _, Nat.le_refl _, Nat.le_refl _, Nat.le_refl _⟩ ⟨hP, hD, va_S.rf, hsc⟩ (pm_ent_lv hlen) ?_
  intro H1 locs1 m1 pc1 ls1 r hq hH1 hrt
  have fin : ∀ t : State, t.heap = H1 → pm_Qc X Q ((as.map (pm_tr X)).toArray) s (.returned r) t := fun t ht => ⟨⟨r, m1, rfl, pm_num_of hrt, hq, by rw [ht]; exact hH1.1, hH1.2.1, hH1.2.2.2⟩, hH1.2.2.1.F ht⟩
  cases r with
  | none => exact W.vret hx hb (hr.trans hrt.1) (fun t ht _ => fin t ht) hH1.2.2.1.2.2 hrt.2
  | some v =>
    cases v with
    | int z =>
      obtain ⟨⟨ty, h1, h2⟩, h3⟩ := hrt
      exact W.zret hx hb (hr.trans h1) h2 (fun t ht _ => fin t ht) hH1.2.2.1.2.2 h3
    | long z => exact W.lret hx hb (hr.trans hrt.1) (fun t ht _ => fin t ht) hH1.2.2.1.2.2 hrt.2
    | _ => exact hrt.elim
theorem pm_U_moved {X : pmX} {s U : State} {H : Heap} (hW : s.WarmedH U.vm) (h : pm_U X s H) : pm_U X U H := by
  obtain ⟨h1, h2, h3, h4, h5⟩ := h
  refine ⟨fun w hw => ?_, va_K.moved hW.alike h2, va_Z.moved hW.alike h3, va_T.moved hW.alike h4, va_T.moved hW.alike h5⟩
  have hw2 := (List.mem_filter.mp hw).2
  have h0 := h1 w hw
  cases w <;> first | (simp [pm_isN] at hw2; done) | exact va_Nw.warmF hW h0 | exact va_Nw.warmM hW h0
theorem pm_U_kept {X : pmX} {s : State} {H : Heap} {locs : List Loc} (hS : va_S (pm_Ad X) s.heap H locs) (h : pm_U X s s.heap) : pm_U X s H := by
  obtain ⟨h1, h2, h3, h4, h5⟩ := h
  exact ⟨h1, h2, h3.kept (fun a ha hA => hS.2.1 a ha hA), h4.kept (fun a ha hA => hS.2.1 a ha hA), h5.kept (fun a ha hA => hS.2.1 a ha hA)⟩
theorem pm_U_blind {X : pmX} {as : List Value} {m : pmMem} : FrameBlind (pm_Pc X as m) := by
  intro a U g mk h
  obtain ⟨h1, ⟨n1, n2, n3, n4, n5⟩, h3, h4, h5⟩ := h
  have hal : U.vm.Alike (U.calling g mk a).vm := Vm.Alike.refl U.vm
  refine ⟨h1, ⟨fun w hw => ?_, va_K.moved hal n2, va_Z.moved hal n3, va_T.moved hal n4, va_T.moved hal n5⟩, h3, h4, h5⟩
  have hw2 := (List.mem_filter.mp hw).2
  have h0 := n1 w hw
  refine va_Nw.same ?_ (rfl : U.vm = (U.calling g mk a).vm) h0
  cases w <;> first | (simp [pm_isN] at hw2; done) | rfl
/-- behind a call -/
theorem pm_cont {X : pmX} {p : Program} {l : Launch} {e : Env} {R : Room} {s : State} {mid : MethodId} {args a : Array Value} {below : List Frame} {meth : Method} {c : Code} {H : Heap} {locs : List Loc} {cells slots pc : Nat} {QQ : State → Prop} {lsK : Array Slot} {st0 rest : List Value} {Q : Option Value → pmMem → Prop}
    (hr : va_Run p l e R s mid args below meth c H locs cells slots 0 0 (F0 mid pc lsK st0) rest (pm_Qc X Q a) (pm_Ad X)) (hS : va_S (pm_Ad X) s.heap H locs)
    (kk : ∀ (r : Option Value) (m' : pmMem) (H1 : Heap) (locs1 : List Loc), pm_num r → Q r m' → pm_H X s m' H1 locs1 → W p l e R s mid args below meth c H1 locs1 cells slots QQ (F0 mid (pc + 3) lsK (r.toList ++ rest))) : W p l e R s mid args below meth c H locs cells slots QQ (F0 mid pc lsK st0) := by
  intro T hT XX
  obtain ⟨v, st₀, t, T', L, h0, X', hL, e1, e2, ⟨⟨r, m', hv, hn, hq, hP, hD, hsc⟩, hz, hk⟩, st⟩ := hr T hT XX
  cases hv
  rw [h0] at hz hk
  obtain ⟨t2, a1, b1⟩ := kk v m' T'.heap (locs ++ L) hn hq ⟨by rw [e1]; exact hP, hD, ⟨Nat.le_trans hS.1 (by rw [e1]; exact hz), fun q h1 h2 => by rw [e1, hk q (Nat.lt_of_lt_of_le h1 hS.1) h2]; exact hS.2.1 q h1 h2, fun q hq => by
      rcases List.mem_append.mp hq with h | h
      · exact hS.2.2 q h
      · exact hL q h⟩, hsc⟩ T' rfl X'
  exact ⟨t2, st t2 a1, b1⟩
theorem pm_good {M : pmM} (hc : Cond.code M.1 M.2.1 M.2.2.1 M.2.2.2.1 ∈ pmBig) : GoodIn pmBig (pm_wsM M) := by
  intro w hw
  have h : w ∈ pmBig := by
    rcases List.mem_cons.mp hw with rfl | h
    · exact hc
    · exact h
  exact ⟨h, good_of_word (List.mem_filter.mp h).2⟩
theorem pm_num_map {X : pmX} {r : Option Value} (h : pm_num r) (st : List Value) : r.toList ++ st.map (pm_tr X) = (pm_psh r st).map (pm_tr X) := by
  cases r with
  | none => rfl
  | some v => cases v <;> first | rfl | exact h.elim
/-- what a callee must be -/
def pm_J (J : pmM) (n : Nat) : Prop := plainName J.1.cls = true ∧ J.1.cls = J.2.2.2.2 ∧ J.2.2.1 ≤ 200 ∧ (J.1.cls ≠ "java/lang/invoke/MethodHandle" ∧ J.1.cls ≠ "java/lang/invoke/VarHandle" ∧ (parseMethodDescriptor J.1.desc).map (fun d => d.parameters.length) = some n) ∧ Cond.code J.1 J.2.1 J.2.2.1 J.2.2.2.1 ∈ pmBig ∧ Cond.initialized J.1.cls ∈ pmBig
section PMC
variable {d : Nat} {M : pmM} {pc : Nat} {ls : List (Option Value)} {st : List Value} {m : pmMem} {Q : Option Value → pmMem → Prop}

theorem pm_callV {J : pmM} {index n : Nat} {b ci : Nat} {q : vw_C} (hlink : Cond.methodLink M.2.2.2.2 index J.1 ∈ pmBig) (hJ : pm_J J n) (hkb : pm_kd b = ci) (hci : ci < 8) (hq : vwCl[ci]? = some q) (hqc : q.1 = J.1.cls) (hin : Cond.instanceMethod J.1 ∈ pmBig) (hsel : Cond.selects J.1.cls J.1 J.1 ∈ pmBig) (As : List Value) (hn : As.length = n) (hlen : (pm_ex (.ref b :: As)).length ≤ J.2.2.1) (hd : decode M.2.1 pc = .ok (.invokevirtual index, 3)) (h8 : (st.map fun v => v.category).sum ≤ 8) (kk : pm_G d J 0 (pm_ent J (.ref b :: As)) [] m (fun r m' => pm_G (d + 1) M (pc + 3) ls (pm_psh r st) m' Q)) : pm_G (d + 1) M pc ls (As.reverse ++ .ref b :: st) m Q := by
  intro X p l e R s mid args below meth c H locs cells slots QQ lsK hC hR hH hl hret
  obtain ⟨j1, j2, j3, j4, j5, j6⟩ := hJ
  obtain ⟨r1, r2, r3, r4⟩ := id hR
  have hM := pm_met X l j1 j2 hlen kk
  have hts := hC.2.2.2.2.2.2.1
  have hrecv : ∃ cellB : Cell, H[X.1 b]? = some cellB ∧ cellB.vm.isStatics = false ∧ s.vm.findClass J.1.cls = some cellB.cls := by
    rw [← hqc]
    exact va_recv hC.2.2.2.2.2.2.2.2.1 hH.1 hq ((pm_ws_get (pm_kd_lt hkb (by omega))).trans (by rw [pm_cell_o hkb hci]))
  have hrun := va_runV (C := J.1.cls) (b := X.1 b) (As := As.map (pm_tr X)) (rest := st.map (pm_tr X)) (g := F0 mid pc lsK ((As.reverse ++ .ref b :: st).map (pm_tr X))) (cells := cells) (slots := slots) (locs := locs) (H := H) (below := below) (meth := meth) (e := e) (R := R) (⟨hC.1, hC.2.1, hC.2.2.2.2.1, hC.2.2.2.2.2.1, hts⟩ : CallFix p mid c M.2.1 M.2.2.1 s args pmBig M.2.2.2.2) hM (⟨callB_of (mc := 0) (ms := 0) n hts (pm_good j5) rfl rfl rfl (hts _ j6) (hts _ hlink) j4 ⟨by show d + 1 ≤ _; omega, by show 8 + (J.2.2.1 + 11) + 300 * d ≤ _; omega⟩, hts _ hin, hts _ hsel⟩) ⟨pm_U_blind, hrecv, fun U hU hW => ⟨by simp [List.map_cons, pm_tr], by rw [hU]; exact pm_U_moved hW (pm_U_kept hH.2.2.1 hC.2.2.2.2.2.2.2), by rw [hU]; exact hH.1, hH.2.1, hH.2.2.2⟩⟩ rfl (by rw [List.length_map]; exact hn) (hl.2.1.trans hl.1) (by simp [List.map_append, List.map_reverse, pm_tr]) (lv_room (by rw [pm_cat]; exact h8)) hd ⟨by omega, by omega⟩
  refine pm_cont hrun hH.2.2.1 (fun r m' H1 locs1 hnum hq' hH' => ?_)
  rw [pm_num_map hnum]
  exact hq' X p l e R s mid args below meth c H1 locs1 cells slots QQ lsK hC hR hH' hl hret
theorem pm_callS {J : pmM} {index n : Nat} (hlink : Cond.methodLink M.2.2.2.2 index J.1 ∈ pmBig) (hJ : pm_J J n) (hst : Cond.static J.1 ∈ pmBig) (As : List Value) (hn : As.length = n) (hlen : (pm_ex As).length ≤ J.2.2.1) (hd : decode M.2.1 pc = .ok (.invokestatic index, 3)) (h8 : (st.map fun v => v.category).sum ≤ 8) (kk : pm_G d J 0 (pm_ent J As) [] m (fun r m' => pm_G (d + 1) M (pc + 3) ls (pm_psh r st) m' Q)) : pm_G (d + 1) M pc ls (As.reverse ++ st) m Q := by
  intro X p l e R s mid args below meth c H locs cells slots QQ lsK hC hR hH hl hret
  obtain ⟨j1, j2, j3, j4, j5, j6⟩ := hJ
  obtain ⟨r1, r2, r3, r4⟩ := id hR
  have hM := pm_met X l j1 j2 hlen kk
  have hts := hC.2.2.2.2.2.2.1
  have hrun := va_runS (As := As.map (pm_tr X)) (rest := st.map (pm_tr X)) (g := F0 mid pc lsK ((As.reverse ++ st).map (pm_tr X))) (cells := cells) (slots := slots) (locs := locs) (H := H) (below := below) (meth := meth) (e := e) (R := R) (⟨hC.1, hC.2.1, hC.2.2.2.2.1, hC.2.2.2.2.2.1, hts⟩ : CallFix p mid c M.2.1 M.2.2.1 s args pmBig M.2.2.2.2) hM (⟨callB_of (mc := 0) (ms := 0) n hts (pm_good j5) rfl rfl rfl (hts _ j6) (hts _ hlink) j4 ⟨by show d + 1 ≤ _; omega, by show 8 + (J.2.2.1 + 11) + 300 * d ≤ _; omega⟩, hts _ hst⟩) ⟨pm_U_blind, fun U hU hW => ⟨by simp [List.map_cons, pm_tr], by rw [hU]; exact pm_U_moved hW (pm_U_kept hH.2.2.1 hC.2.2.2.2.2.2.2), by rw [hU]; exact hH.1, hH.2.1, hH.2.2.2⟩⟩ rfl (by rw [List.length_map]; exact hn) (hl.2.1.trans hl.1) (by simp [List.map_append, List.map_reverse]) (lv_room (by rw [pm_cat]; exact h8)) hd ⟨by omega, by omega⟩
  refine pm_cont hrun hH.2.2.1 (fun r m' H1 locs1 hnum hq' hH' => ?_)
  rw [pm_num_map hnum]
  exact hq' X p l e R s mid args below meth c H1 locs1 cells slots QQ lsK hC hR hH' hl hret
theorem pm_callVN {J : pmM} {index n : Nat} {b ci : Nat} {q : vw_C} {host : String} (hlink : Cond.methodLinkNest M.2.2.2.2 index J.1 host ∈ pmNest) (hJ : pm_J J n) (hkb : pm_kd b = ci) (hci : ci < 8) (hq : vwCl[ci]? = some q) (hqc : q.1 = J.1.cls) (hin : Cond.instanceMethod J.1 ∈ pmBig) (hsel : Cond.selects J.1.cls J.1 J.1 ∈ pmBig) (As : List Value) (hn : As.length = n) (hlen : (pm_ex (.ref b :: As)).length ≤ J.2.2.1) (hd : decode M.2.1 pc = .ok (.invokevirtual index, 3)) (h8 : (st.map fun v => v.category).sum ≤ 8) (kk : pm_G d J 0 (pm_ent J (.ref b :: As)) [] m (fun r m' => pm_G (d + 1) M (pc + 3) ls (pm_psh r st) m' Q)) : pm_G (d + 1) M pc ls (As.reverse ++ .ref b :: st) m Q := by
  intro X p l e R s mid args below meth c H locs cells slots QQ lsK hC hR hH hl hret
  obtain ⟨j1, j2, j3, j4, j5, j6⟩ := hJ
  obtain ⟨r1, r2, r3, r4⟩ := id hR
  have hM := pm_met X l j1 j2 hlen kk
  have hts := hC.2.2.2.2.2.2.1
  have hrecv : ∃ cellB : Cell, H[X.1 b]? = some cellB ∧ cellB.vm.isStatics = false ∧ s.vm.findClass J.1.cls = some cellB.cls := by
    rw [← hqc]
    exact va_recv hC.2.2.2.2.2.2.2.2.1 hH.1 hq ((pm_ws_get (pm_kd_lt hkb (by omega))).trans (by rw [pm_cell_o hkb hci]))
  have hrun := va_runVN (C := J.1.cls) (b := X.1 b) (As := As.map (pm_tr X)) (rest := st.map (pm_tr X)) (g := F0 mid pc lsK ((As.reverse ++ .ref b :: st).map (pm_tr X))) (cells := cells) (slots := slots) (locs := locs) (H := H) (below := below) (meth := meth) (e := e) (R := R) (⟨hC.1, hC.2.1, hC.2.2.2.2.1, hC.2.2.2.2.2.1, hts⟩ : CallFix p mid c M.2.1 M.2.2.1 s args pmBig M.2.2.2.2) hM (⟨va_cnB (mc := 0) (ms := 0) n hts (pm_good j5) rfl rfl rfl (hC.2.2.2.2.2.2.2.1 _ hlink) (hts _ j6) j4 ⟨by show d + 1 ≤ _; omega, by show 8 + (J.2.2.1 + 11) + 300 * d ≤ _; omega⟩, hts _ hin, hts _ hsel⟩) ⟨pm_U_blind, hrecv, fun U hU hW => ⟨by simp [List.map_cons, pm_tr], by rw [hU]; exact pm_U_moved hW (pm_U_kept hH.2.2.1 hC.2.2.2.2.2.2.2), by rw [hU]; exact hH.1, hH.2.1, hH.2.2.2⟩⟩ rfl (by rw [List.length_map]; exact hn) (hl.2.1.trans hl.1) (by simp [List.map_append, List.map_reverse, pm_tr]) (lv_room (by rw [pm_cat]; exact h8)) hd ⟨by omega, by omega⟩
  refine pm_cont hrun hH.2.2.1 (fun r m' H1 locs1 hnum hq' hH' => ?_)
  rw [pm_num_map hnum]
  exact hq' X p l e R s mid args below meth c H1 locs1 cells slots QQ lsK hC hR hH' hl hret
theorem pm_callSN {J : pmM} {index n : Nat} {host : String} (hlink : Cond.methodLinkNest M.2.2.2.2 index J.1 host ∈ pmNest) (hJ : pm_J J n) (hst : Cond.static J.1 ∈ pmBig) (As : List Value) (hn : As.length = n) (hlen : (pm_ex As).length ≤ J.2.2.1) (hd : decode M.2.1 pc = .ok (.invokestatic index, 3)) (h8 : (st.map fun v => v.category).sum ≤ 8) (kk : pm_G d J 0 (pm_ent J As) [] m (fun r m' => pm_G (d + 1) M (pc + 3) ls (pm_psh r st) m' Q)) : pm_G (d + 1) M pc ls (As.reverse ++ st) m Q := by
  intro X p l e R s mid args below meth c H locs cells slots QQ lsK hC hR hH hl hret
  obtain ⟨j1, j2, j3, j4, j5, j6⟩ := hJ
  obtain ⟨r1, r2, r3, r4⟩ := id hR
  have hM := pm_met X l j1 j2 hlen kk
  have hts := hC.2.2.2.2.2.2.1
  have hrun := va_runSN (As := As.map (pm_tr X)) (rest := st.map (pm_tr X)) (g := F0 mid pc lsK ((As.reverse ++ st).map (pm_tr X))) (cells := cells) (slots := slots) (locs := locs) (H := H) (below := below) (meth := meth) (e := e) (R := R) (⟨hC.1, hC.2.1, hC.2.2.2.2.1, hC.2.2.2.2.2.1, hts⟩ : CallFix p mid c M.2.1 M.2.2.1 s args pmBig M.2.2.2.2) hM (⟨va_cnB (mc := 0) (ms := 0) n hts (pm_good j5) rfl rfl rfl (hC.2.2.2.2.2.2.2.1 _ hlink) (hts _ j6) j4 ⟨by show d + 1 ≤ _; omega, by show 8 + (J.2.2.1 + 11) + 300 * d ≤ _; omega⟩, hts _ hst, trivial⟩) ⟨pm_U_blind, fun U hU hW => ⟨by simp [List.map_cons, pm_tr], by rw [hU]; exact pm_U_moved hW (pm_U_kept hH.2.2.1 hC.2.2.2.2.2.2.2), by rw [hU]; exact hH.1, hH.2.1, hH.2.2.2⟩⟩ rfl (by rw [List.length_map]; exact hn) (hl.2.1.trans hl.1) (by simp [List.map_append, List.map_reverse]) (lv_room (by rw [pm_cat]; exact h8)) hd ⟨by omega, by omega⟩
  refine pm_cont hrun hH.2.2.1 (fun r m' H1 locs1 hnum hq' hH' => ?_)
  rw [pm_num_map hnum]
  exact hq' X p l e R s mid args below meth c H1 locs1 cells slots QQ lsK hC hR hH' hl hret
end PMC

theorem pm_lc {x y : Int64} : (lg_cmp x y < 0 ↔ x < y) ∧ (0 < lg_cmp x y ↔ y < x) ∧ (lg_cmp x y = 0 ↔ x = y) := by
  unfold lg_cmp
  by_cases h1 : y < x
  · rw [if_pos h1]
    refine ⟨⟨fun h => absurd h (by decide), fun h => ?_⟩, ⟨fun _ => h1, fun _ => by decide⟩, ⟨fun h => absurd h (by decide), fun h => ?_⟩⟩
    · rw [Int64.lt_iff_toInt_lt] at h h1; omega
    · rw [Int64.lt_iff_toInt_lt, h] at h1; omega
  · rw [if_neg h1]
    by_cases h2 : x = y
    · rw [if_pos h2]
      refine ⟨⟨fun h => absurd h (by decide), fun h => ?_⟩, ⟨fun h => absurd h (by decide), fun h => absurd h h1⟩, ⟨fun _ => h2, fun _ => rfl⟩⟩
      rw [Int64.lt_iff_toInt_lt, h2] at h; omega
    · rw [if_neg h2]
      refine ⟨⟨fun _ => ?_, fun _ => by decide⟩, ⟨fun h => absurd h (by decide), fun h => absurd h h1⟩, ⟨fun h => absurd h (by decide), fun h => absurd h h2⟩⟩
      rw [Int64.lt_iff_toInt_lt] at h1 ⊢
      have h3 : x.toInt ≠ y.toInt := fun h => h2 (Int64.toInt_inj.mp h)
      omega
theorem pm_lc_ge {x y : Int64} : 0 ≤ lg_cmp x y ↔ y ≤ x := by
  rw [← Int32.not_lt, pm_lc.1, Int64.not_lt]
theorem pm_lc_le {x y : Int64} : lg_cmp x y ≤ 0 ↔ x ≤ y := by
  rw [← Int32.not_lt, pm_lc.2.1, Int64.not_lt]
section PML
variable {d : Nat} {M : pmM} {pc : Nat} {ls : List (Option Value)} {st : List Value} {m : pmMem} {Q : Option Value → pmMem → Prop}

theorem pm_l_eq {x y : Int64} {off : Int} {tgt : Nat} (hd : decode M.2.1 pc = .ok (.lcmp, 1)) (hd2 : decode M.2.1 (pc + 1) = .ok (.ifCond .eq off, 3)) (ht : ((pc + 1 : Nat) : Int) + off = (tgt : Int)) (kt : x = y → pm_G d M tgt ls st m Q) (kf : ¬ x = y → pm_G d M (pc + 4) ls st m Q) : pm_G d M pc ls (.long y :: .long x :: st) m Q :=
  pm_lcmp hd (pm_if_eq hd2 ht (fun h => kt (pm_lc.2.2.mp h)) (fun h => kf (fun z => h (pm_lc.2.2.mpr z))))
theorem pm_l_ne {x y : Int64} {off : Int} {tgt : Nat} (hd : decode M.2.1 pc = .ok (.lcmp, 1)) (hd2 : decode M.2.1 (pc + 1) = .ok (.ifCond .ne off, 3)) (ht : ((pc + 1 : Nat) : Int) + off = (tgt : Int)) (kt : ¬ x = y → pm_G d M tgt ls st m Q) (kf : x = y → pm_G d M (pc + 4) ls st m Q) : pm_G d M pc ls (.long y :: .long x :: st) m Q :=
  pm_lcmp hd (pm_if_ne hd2 ht (fun h => kt ((not_congr pm_lc.2.2).mp h)) (fun h => kf (pm_lc.2.2.mp h)))
theorem pm_l_lt {x y : Int64} {off : Int} {tgt : Nat} (hd : decode M.2.1 pc = .ok (.lcmp, 1)) (hd2 : decode M.2.1 (pc + 1) = .ok (.ifCond .lt off, 3)) (ht : ((pc + 1 : Nat) : Int) + off = (tgt : Int)) (kt : x < y → pm_G d M tgt ls st m Q) (kf : ¬ x < y → pm_G d M (pc + 4) ls st m Q) : pm_G d M pc ls (.long y :: .long x :: st) m Q :=
  pm_lcmp hd (pm_if_lt hd2 ht (fun h => kt (pm_lc.1.mp h)) (fun h => kf (fun z => h (pm_lc.1.mpr z))))
theorem pm_l_ge {x y : Int64} {off : Int} {tgt : Nat} (hd : decode M.2.1 pc = .ok (.lcmp, 1)) (hd2 : decode M.2.1 (pc + 1) = .ok (.ifCond .ge off, 3)) (ht : ((pc + 1 : Nat) : Int) + off = (tgt : Int)) (kt : y ≤ x → pm_G d M tgt ls st m Q) (kf : ¬ y ≤ x → pm_G d M (pc + 4) ls st m Q) : pm_G d M pc ls (.long y :: .long x :: st) m Q :=
  pm_lcmp hd (pm_if_ge hd2 ht (fun h => kt (pm_lc_ge.mp h)) (fun h => kf (fun z => h (pm_lc_ge.mpr z))))
theorem pm_l_gt {x y : Int64} {off : Int} {tgt : Nat} (hd : decode M.2.1 pc = .ok (.lcmp, 1)) (hd2 : decode M.2.1 (pc + 1) = .ok (.ifCond .gt off, 3)) (ht : ((pc + 1 : Nat) : Int) + off = (tgt : Int)) (kt : y < x → pm_G d M tgt ls st m Q) (kf : ¬ y < x → pm_G d M (pc + 4) ls st m Q) : pm_G d M pc ls (.long y :: .long x :: st) m Q :=
  pm_lcmp hd (pm_if_gt hd2 ht (fun h => kt (pm_lc.2.1.mp h)) (fun h => kf (fun z => h (pm_lc.2.1.mpr z))))
theorem pm_l_le {x y : Int64} {off : Int} {tgt : Nat} (hd : decode M.2.1 pc = .ok (.lcmp, 1)) (hd2 : decode M.2.1 (pc + 1) = .ok (.ifCond .le off, 3)) (ht : ((pc + 1 : Nat) : Int) + off = (tgt : Int)) (kt : x ≤ y → pm_G d M tgt ls st m Q) (kf : ¬ x ≤ y → pm_G d M (pc + 4) ls st m Q) : pm_G d M pc ls (.long y :: .long x :: st) m Q :=
  pm_lcmp hd (pm_if_le hd2 ht (fun h => kt (pm_lc_le.mp h)) (fun h => kf (fun z => h (pm_lc_le.mpr z))))
end PML
theorem pm_all {P : Nat → Prop} [DecidablePred P] (h : ∀ c, c < 87 → P c) (h99 : ∀ c, 87 ≤ c → P c) (c : Nat) : P c := by
  by_cases hc : c < 87
  · exact h c hc
  · exact h99 c (by omega)
theorem pm_kd_99 {c : Nat} (h : 87 ≤ c) : pm_kd c = 99 := by
  unfold pm_kd
  rw [List.getD_eq_getElem?_getD, List.getElem?_eq_none (by rw [pm_kds_len]; omega)]
  rfl
theorem pm_kc (a : Nat) (h : pm_kd a = 0) : pm_kd (a + 1) = 8 ∧ pm_kd (a + 2) = 8 ∧ pm_kd (a + 3) = 8 := by
  have hl : a < 87 := pm_kd_lt h (by omega)
  have key : ∀ a, a < 87 → pm_kd a = 0 → pm_kd (a + 1) = 8 ∧ pm_kd (a + 2) = 8 ∧ pm_kd (a + 3) = 8 := by decide +kernel
  exact key a hl h
theorem pm_ks (a : Nat) (h : pm_kd a = 5) : pm_kd (a + 1) = 8 := by
  have hl : a < 87 := pm_kd_lt h (by omega)
  have key : ∀ a, a < 87 → pm_kd a = 5 → pm_kd (a + 1) = 8 := by decide +kernel
  exact key a hl h
theorem pm_krS {a : Nat} {i : Int32} (h : pm_kd a = 10) (hin : vp_in i (pm_rl a)) : pm_kd (pm_ra a i.toNatClampNeg) = 5 := by
  have hl : a < 87 := pm_kd_lt h (by omega)
  have key : ∀ a, a < 87 → pm_kd a = 10 → ∀ i, i < pm_rl a → pm_kd (pm_ra a i) = 5 := by decide +kernel
  exact key a hl h _ (pm_nn hin)
theorem pm_krH {a : Nat} {i : Int32} (h : pm_kd a = 11) (hin : vp_in i (pm_rl a)) : pm_kd (pm_ra a i.toNatClampNeg) = 1 := by
  have hl : a < 87 := pm_kd_lt h (by omega)
  have key : ∀ a, a < 87 → pm_kd a = 11 → ∀ i, i < pm_rl a → pm_kd (pm_ra a i) = 1 := by decide +kernel
  exact key a hl h _ (pm_nn hin)
theorem pm_krC {a : Nat} {i : Int32} (h : pm_kd a = 12) (hin : vp_in i (pm_rl a)) : pm_kd (pm_ra a i.toNatClampNeg) = 0 := by
  have hl : a < 87 := pm_kd_lt h (by omega)
  have key : ∀ a, a < 87 → pm_kd a = 12 → ∀ i, i < pm_rl a → pm_kd (pm_ra a i) = 0 := by decide +kernel
  exact key a hl h _ (pm_nn hin)

