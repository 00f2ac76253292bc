/-! how the cells are made: each field and element shows nothing till it is set, and then what it will be -/
def pm_lns : List Nat := [0, 0, 0, 0, 12, 6, 6, 6, 0, 0, 0, 0, 0, 0, 0, 0, 0, 12, 12, 40, 0, 12, 12, 40, 0, 3, 0, 6, 6, 6, 6, 6, 6, 0, 40, 0, 40, 0, 40, 0, 40, 0, 40, 0, 40, 0, 60, 0, 60, 0, 60, 0, 60, 0, 12, 12, 40, 0, 12, 12, 40, 0, 12, 12, 40, 0, 240, 6, 240, 4, 6, 6, 6, 12, 40, 120, 3, 12, 12, 12, 12, 6, 18, 12, 6, 12, 12]
def pm_ln (c : Nat) : Nat := pm_lns.getD c 0
def mFi (c j : Nat) : Int32 := if pm_kd c = 5 ∧ j = 1 then -1 else if pm_kd c = 1 ∧ j = 2 then 1 else if c = 26 ∧ j = 8 then -1 else if c = 26 ∧ j = 9 then 13 else 0
def mFr (c : Nat) : List Int32 := List.replicate (pm_ln c) (if c = 67 ∨ c = 69 ∨ c = 76 then -1 else 0)
def mFl (c j : Nat) : Int64 := if (c = 0 ∧ j = 13) ∨ (c = 65 ∧ j = 21) then 1 else 0
def dfl (v : Value) : Value := match v with
  | .int _ => .int 0
  | .long _ => .long 0
  | .ref _ => .null
  | v => v
def shF (N : Nat → Bool) : Nat → List Value → List Value
  | _, [] => []
  | j, v :: t => (if N j then v else dfl v) :: shF N (j + 1) t
def stN (N : Nat → Nat → Bool) (c j : Nat) : Nat → Nat → Bool := fun c' j' => (c' == c && j' == j) || N c' j'
def cellN (X : pmX) (N : Nat → Nat → Bool) (c : Nat) : va_E := match pm_kd c with
  | 8 => .inl (X.2.2.1 0, pm_ln c, .inl (fun i => if N c i then (mFr c).getD i 0 else 0))
  | 9 => .inl (X.2.2.1 1, pm_ln c, .inl (fun i => if N c i then (mFr c).getD i 0 else 0))
  | 10 => .inl (X.2.2.1 2, pm_rl c, .inr (.inr (.inr (.inr (fun i => if N c i then some (X.1 (pm_ra c i)) else none)))))
  | 11 => .inl (X.2.2.1 3, pm_rl c, .inr (.inr (.inr (.inr (fun i => if N c i then some (X.1 (pm_ra c i)) else none)))))
  | 12 => .inl (X.2.2.1 4, pm_rl c, .inr (.inr (.inr (.inr (fun i => if N c i then some (X.1 (pm_ra c i)) else none)))))
  | k => .inr (k, (shF (N c) 0 (pm_fs k c (mFi c) (mFl c))).map (pm_tr X))
theorem cellN_i {X : pmX} {N : Nat → Nat → Bool} {c : Nat} (h : pm_kd c = 8) : cellN X N c = .inl (X.2.2.1 0, pm_ln c, .inl (fun i => if N c i then (mFr c).getD i 0 else 0)) := by simp [cellN, h]
theorem cellN_z {X : pmX} {N : Nat → Nat → Bool} {c : Nat} (h : pm_kd c = 9) : cellN X N c = .inl (X.2.2.1 1, pm_ln c, .inl (fun i => if N c i then (mFr c).getD i 0 else 0)) := by simp [cellN, h]
theorem cellN_r {X : pmX} {N : Nat → Nat → Bool} {c k : Nat} (h : pm_kd c = 10 + k) (hk : k < 3) : cellN X N c = .inl (X.2.2.1 (2 + k), pm_rl c, .inr (.inr (.inr (.inr (fun i => if N c i then some (X.1 (pm_ra c i)) else none))))) := by
  rcases (show k = 0 ∨ k = 1 ∨ k = 2 by omega) with rfl | rfl | rfl <;> simp [cellN, h]
theorem cellN_o {X : pmX} {N : Nat → Nat → Bool} {c k : Nat} (h : pm_kd c = k) (hk : k < 8) : cellN X N c = .inr (k, (shF (N c) 0 (pm_fs k c (mFi c) (mFl c))).map (pm_tr X)) := by
  rcases (show k = 0 ∨ k = 1 ∨ k = 2 ∨ k = 3 ∨ k = 4 ∨ k = 5 ∨ k = 6 ∨ k = 7 by omega) with rfl | rfl | rfl | rfl | rfl | rfl | rfl | rfl <;> simp [cellN, h]
theorem cellN_eq {X : pmX} {N N' : Nat → Nat → Bool} {c : Nat} (h : N' c = N c) : cellN X N' c = cellN X N c := by
  unfold cellN; rw [h]
theorem stN_o {N : Nat → Nat → Bool} {c j c' : Nat} (h : c' ≠ c) : stN N c j c' = N c' := by
  funext j'
  unfold stN
  simp [h]
theorem stN_s {N : Nat → Nat → Bool} {c j j' : Nat} : stN N c j c j' = (j' == j || N c j') := by
  unfold stN; simp
theorem shF_len (N : Nat → Bool) : ∀ (j : Nat) (l : List Value), (shF N j l).length = l.length
  | _, [] => rfl
  | j, v :: t => by simp [shF, shF_len N (j + 1) t]
theorem shF_get (N : Nat → Bool) : ∀ (j i : Nat) (l : List Value), (shF N j l)[i]? = (l[i]?).map (fun v => if N (j + i) then v else dfl v)
  | _, _, [] => by simp [shF]
  | j, 0, v :: t => by simp [shF]
  | j, i + 1, v :: t => by
    simp only [shF, List.getElem?_cons_succ]
    rw [shF_get N (j + 1) i t, show j + 1 + i = j + (i + 1) by omega]
theorem shF_set {N N' : Nat → Bool} {l : List Value} {j : Nat} {v : Value} (hv : l[j]? = some v) (hN : ∀ i, N' i = (i == j || N i)) : shF N' 0 l = (shF N 0 l).set j v := by
  apply List.ext_getElem?
  intro i
  rw [shF_get, Nat.zero_add]
  by_cases c : i = j
  · subst c
    rw [List.getElem?_set_self (by rw [shF_len]; exact (List.getElem?_eq_some_iff.mp hv).1), hv, hN]
    simp
  · rw [List.getElem?_set_ne (Ne.symm c), shF_get, Nat.zero_add, hN]
    simp [c]
theorem shF_none {N : Nat → Bool} (h : ∀ i, N i = false) : ∀ (j : Nat) (l : List Value), shF N j l = l.map dfl
  | _, [] => rfl
  | j, v :: t => by simp [shF, h, shF_none h (j + 1) t]
def wsN (X : pmX) (k : Nat) (N : Nat → Nat → Bool) : va_W := (List.range k).map (fun c => (X.1 c, cellN X N c))
theorem wsN_get {X : pmX} {N : Nat → Nat → Bool} {k c : Nat} (h : c < k) : (wsN X k N)[c]? = some (X.1 c, cellN X N c) := by
  simp [wsN, h]
theorem wsN_push {X : pmX} {N : Nat → Nat → Bool} {k : Nat} : wsN X (k + 1) N = wsN X k N ++ [(X.1 k, cellN X N k)] := by
  unfold wsN; rw [List.range_succ, List.map_append]; rfl
theorem wsN_set {X : pmX} {N N' : Nat → Nat → Bool} {k c : Nat} {e : va_E} (h : c < k) (he : cellN X N' c = e) (ho : ∀ c', c' ≠ c → N' c' = N c') : (wsN X k N).set c (X.1 c, e) = wsN X k N' := by
  apply List.ext_getElem?
  intro i
  by_cases hi : i = c
  · subst hi
    rw [List.getElem?_set_self (by simp [wsN, h]), wsN_get h, he]
  · rw [List.getElem?_set_ne (Ne.symm hi)]
    by_cases h8 : i < k
    · rw [wsN_get h8, wsN_get h8, cellN_eq (ho i hi)]
    · rw [List.getElem?_eq_none (by simp [wsN]; omega), List.getElem?_eq_none (by simp [wsN]; omega)]
def pm_UB (X : pmX) (U : State) (H : Heap) : Prop := pm_U X U H ∧ va_AO RX5 U ∧ va_AO RX1 U ∧ va_AO RX0 U
def pm_CB (X : pmX) (M : pmM) (p : Program) (s : State) (mid : MethodId) (args : Array Value) (meth : Method) (c : Code) : Prop :=
  p.tables.exec = Jvm.exec ∧ c.code = M.2.1 ∧ meth.sig.returnType = M.2.2.2.1 ∧ meth.locks = false ∧ c.maxLocals = M.2.2.1 ∧ s.vm.findClass M.2.2.2.2 = some mid.cls ∧ (∀ w ∈ pmBig, w.before args s = true) ∧ pm_UB X s s.heap ∧ (M.1.name = "<init>" → meth.name = "<init>")
def pm_HB (X : pmX) (s : State) (k : Nat) (N : Nat → Nat → Bool) (H : Heap) (locs : List Loc) : Prop := va_P X.2.1 vwCl (wsN X k N) H ∧ va_D (pm_Ad X) (wsN X k N) ∧ va_S (pm_Ad X) s.heap H locs ∧ H.size = X.1 0 + k ∧ (∀ c, c < 87 → X.1 c = X.1 0 + c) ∧ (∀ c j, k ≤ c → N c j = false)
def pm_RB (d : Nat) (R : Room) (mc ms : Nat) : Prop := d ≤ R.frames ∧ 300 * d ≤ R.locals ∧ mc ≤ R.cells ∧ ms ≤ R.slots
def pm_B (d : Nat) (M : pmM) (pc : Nat) (ls : List (Option Value)) (st : List Value) (k : Nat) (N : Nat → Nat → Bool) (cl sl mc ms : Nat) (Q : Nat → (Nat → Nat → Bool) → Nat → List (Option Value) → Prop) : Prop :=
  ∀ (X : pmX) (p : Program) (l : Launch) (e : Env) (R : Room) (s : State) (mid : MethodId) (args : Array Value) (below : List Frame) (meth : Method) (c : Code) (H : Heap) (locs : List Loc) (QQ : State → Prop) (lsK : Array Slot),
    pm_CB X M p s mid args meth c → pm_RB d R mc ms → pm_HB X s k N H locs → pm_lv X M ls lsK →
    (∀ (H1 : Heap) (locs1 : List Loc) (k1 : Nat) (N1 : Nat → Nat → Bool) (pc1 : Nat) (lsA : List (Option Value)) (ls1 : Array Slot), Q k1 N1 pc1 lsA → pm_HB X s k1 N1 H1 locs1 → pm_lv X M lsA ls1 → W p l e R s mid args below meth c H1 locs1 mc ms QQ (F0 mid pc1 ls1 [])) →
    W p l e R s mid args below meth c H locs cl sl QQ (F0 mid pc lsK (st.map (pm_tr X)))
section BORN
variable {d : Nat} {M : pmM} {pc : Nat} {ls : List (Option Value)} {st : List Value} {k cl sl mc ms : Nat} {N : Nat → Nat → Bool} {Q : Nat → (Nat → Nat → Bool) → Nat → List (Option Value) → Prop}
theorem B_iconst {n : Int} {v : Int32} (hv : Int32.ofInt n = v) (hd : decode M.2.1 pc = .ok (.iconst n, 1)) (kk : pm_B d M (pc + 1) ls (.int v :: st) k N cl sl mc ms Q) : pm_B d M pc ls st k N cl sl mc ms Q := by
  intro X p l e R s mid args below meth c H locs QQ lsK hC hR hH hl hret
  exact lv_iconst hC.1 hC.2.1 hd hv (kk X p l e R s mid args below meth c H locs QQ lsK hC hR hH hl hret)
theorem B_bipush {n : Int} {v : Int32} (hv : (Int8.ofInt n).toInt32 = v) (hd : decode M.2.1 pc = .ok (.bipush n, 2)) (kk : pm_B d M (pc + 2) ls (.int v :: st) k N cl sl mc ms Q) : pm_B d M pc ls st k N cl sl mc ms Q := by
  intro X p l e R s mid args below meth c H locs QQ lsK hC hR hH hl hret
  exact lv_bipush hC.1 hC.2.1 hd hv (kk X p l e R s mid args below meth c H locs QQ lsK hC hR hH hl hret)
theorem B_sipush {n : Int} {v : Int32} (hv : (Int16.ofInt n).toInt32 = v) (hd : decode M.2.1 pc = .ok (.sipush n, 3)) (kk : pm_B d M (pc + 3) ls (.int v :: st) k N cl sl mc ms Q) : pm_B d M pc ls st k N cl sl mc ms Q := by
  intro X p l e R s mid args below meth c H locs QQ lsK hC hR hH hl hret
  exact lv_sipush hC.1 hC.2.1 hd hv (kk X p l e R s mid args below meth c H locs QQ lsK hC hR hH hl hret)
theorem B_lconst {n : Fin 2} {v : Int64} (hv : Int64.ofNat (n : Nat) = v) (hd : decode M.2.1 pc = .ok (.lconst n, 1)) (kk : pm_B d M (pc + 1) ls (.long v :: st) k N cl sl mc ms Q) : pm_B d M pc ls st k N cl sl mc ms Q := by
  intro X p l e R s mid args below meth c H locs QQ lsK hC hR hH hl hret
  exact lv_lconst hC.1 hC.2.1 hd hv (kk X p l e R s mid args below meth c H locs QQ lsK hC hR hH hl hret)
theorem B_aload_n {n : Fin 4} {i x : Nat} (hi : (n : Nat) = i) (h : ls[i]? = some (some (.ref x))) (hd : decode M.2.1 pc = .ok (.aload_n n, 1)) (kk : pm_B d M (pc + 1) ls (.ref x :: st) k N cl sl mc ms Q) : pm_B d M pc ls st k N cl sl mc ms Q := by
  intro X p l e R s mid args below meth c H locs QQ lsK hC hR hH hl hret
  exact lv_aload_n hC.1 hC.2.1 hd hi (hl.2.2.2 _ _ h) (kk X p l e R s mid args below meth c H locs QQ lsK hC hR hH hl hret)
theorem B_iload_n {n : Fin 4} {i : Nat} {x : Int32} (hi : (n : Nat) = i) (h : ls[i]? = some (some (.int x))) (hd : decode M.2.1 pc = .ok (.iload_n n, 1)) (kk : pm_B d M (pc + 1) ls (.int x :: st) k N cl sl mc ms Q) : pm_B d M pc ls st k N cl sl mc ms Q := by
  intro X p l e R s mid args below meth c H locs QQ lsK hC hR hH hl hret
  exact lv_iload_n hC.1 hC.2.1 hd hi (hl.2.2.2 _ _ h) (kk X p l e R s mid args below meth c H locs QQ lsK hC hR hH hl hret)
theorem B_istore_n {n : Fin 4} {i : Nat} {x : Int32} (hi : (n : Nat) = i) (hn : i < ls.length) (hd : decode M.2.1 pc = .ok (.istore_n n, 1)) (kk : pm_B d M (pc + 1) (pm_st1 ls i (.int x)) st k N cl sl mc ms Q) : pm_B d M pc ls (.int x :: st) k N cl sl mc ms Q := by
  intro X p l e R s mid args below meth c H locs QQ lsK hC hR hH hl hret
  exact lv_istore_n hC.1 hC.2.1 hd hi (pm_lv_has hl) hn rfl (fun ls' hl' => kk X p l e R s mid args below meth c H locs QQ ls' hC hR hH (pm_lv_st1 (v := .int x) hl hl') hret)
theorem B_astore_n {n : Fin 4} {i x : Nat} (hi : (n : Nat) = i) (hn : i < ls.length) (hd : decode M.2.1 pc = .ok (.astore_n n, 1)) (kk : pm_B d M (pc + 1) (pm_st1 ls i (.ref x)) st k N cl sl mc ms Q) : pm_B d M pc ls (.ref x :: st) k N cl sl mc ms Q := by
  intro X p l e R s mid args below meth c H locs QQ lsK hC hR hH hl hret
  exact lv_astore_n hC.1 hC.2.1 hd hi (pm_lv_has hl) hn rfl (fun ls' hl' => kk X p l e R s mid args below meth c H locs QQ ls' hC hR hH (pm_lv_st1 (v := .ref x) hl hl') hret)
theorem B_iinc {i : Nat} {n : Int} {x v : Int32} (h : ls[i]? = some (some (.int x))) (hv : x + Int32.ofInt n = v) (hd : decode M.2.1 pc = .ok (.iinc i n, 3)) (kk : pm_B d M (pc + 3) (pm_st1 ls i (.int v)) st k N cl sl mc ms Q) : pm_B d M pc ls st k N cl sl mc ms Q := by
  intro X p l e R s mid args below meth c H locs QQ lsK hC hR hH hl hret
  have hm := pm_as_mem X ls 0 i (.int x) h
  rw [Nat.zero_add] at hm
  obtain ⟨q, hq⟩ := List.getElem?_of_mem hm
  exact lv_iinc hC.1 hC.2.1 hd (pm_lv_has hl) hq hv (List.getElem?_eq_some_iff.mp h).1 rfl (fun ls' hl' => kk X p l e R s mid args below meth c H locs QQ ls' hC hR hH (pm_lv_st1 (v := .int v) hl hl') hret)
theorem B_dup {v : Value} (hv : v.category = 1) (hd : decode M.2.1 pc = .ok (.dup, 1)) (kk : pm_B d M (pc + 1) ls (v :: v :: st) k N cl sl mc ms Q) : pm_B d M pc ls (v :: st) k N cl sl mc ms Q := by
  intro X p l e R s mid args below meth c H locs QQ lsK hC hR hH hl hret
  exact lv_dup hC.1 hC.2.1 hd ((pm_trc X v).trans hv) (kk X p l e R s mid args below meth c H locs QQ lsK hC hR hH hl hret)
theorem B_goto {off : Int} {tgt : Nat} (hd : decode M.2.1 pc = .ok (.goto off, 3)) (ht : (pc : Int) + off = (tgt : Int)) (kk : pm_B d M tgt ls st k N cl sl mc ms Q) : pm_B d M pc ls st k N cl sl mc ms Q := by
  intro X p l e R s mid args below meth c H locs QQ lsK hC hR hH hl hret
  exact lv_goto hC.1 hC.2.1 hd ht (kk X p l e R s mid args below meth c H locs QQ lsK hC hR hH hl hret)
theorem B_ge_t {x y : Int32} {off : Int} {tgt : Nat} (h : y ≤ x) (hd : decode M.2.1 pc = .ok (.if_icmp .ge off, 3)) (ht : (pc : Int) + off = (tgt : Int)) (kk : pm_B d M tgt ls st k N cl sl mc ms Q) : pm_B d M pc ls (.int y :: .int x :: st) k N cl sl mc ms Q := by
  intro X p l e R s mid args below meth c H locs QQ lsK hC hR hH hl hret
  exact lv_icmp_ge hC.1 hC.2.1 hd ht (fun _ => kk X p l e R s mid args below meth c H locs QQ lsK hC hR hH hl hret) (fun z => absurd h z)
theorem B_ge_f {x y : Int32} {off : Int} {tgt : Nat} (h : ¬ y ≤ x) (hd : decode M.2.1 pc = .ok (.if_icmp .ge off, 3)) (ht : (pc : Int) + off = (tgt : Int)) (kk : pm_B d M (pc + 3) ls st k N cl sl mc ms Q) : pm_B d M pc ls (.int y :: .int x :: st) k N cl sl mc ms Q := by
  intro X p l e R s mid args below meth c H locs QQ lsK hC hR hH hl hret
  exact lv_icmp_ge hC.1 hC.2.1 hd ht (fun z => absurd z h) (fun _ => kk X p l e R s mid args below meth c H locs QQ lsK hC hR hH hl hret)
theorem B_exit (hc : cl ≤ mc) (hs : sl ≤ ms) (kk : Q k N pc ls) : pm_B d M pc ls [] k N cl sl mc ms Q := by
  intro X p l e R s mid args below meth c H locs QQ lsK hC hR hH hl hret
  exact W.widen hc hs (hret H locs k N pc ls lsK kk hH hl)
def Qr (M : pmM) (Q : Nat → (Nat → Nat → Bool) → Prop) : Nat → (Nat → Nat → Bool) → Nat → List (Option Value) → Prop := fun k N pc _ => M.2.2.2.1 = none ∧ decode M.2.1 pc = .ok (.return_, 1) ∧ Q k N
theorem B_return {Q : Nat → (Nat → Nat → Bool) → Prop} (hd : decode M.2.1 pc = .ok (.return_, 1)) (hr : M.2.2.2.1 = none) (hc : cl ≤ mc) (hs : sl ≤ ms) (kk : Q k N) : pm_B d M pc ls [] k N cl sl mc ms (Qr M Q) := B_exit hc hs ⟨hr, hd, kk⟩
theorem B_objInit {a index : Nat} (hlink : Cond.methodLink M.2.2.2.2 index Lib.objectInit ∈ pmBig) (hin : Cond.instanceMethod Lib.objectInit ∈ pmBig) (hcd : Cond.code Lib.objectInit ⟨#[0xb1]⟩ 1 none ∈ pmBig) (hd : decode M.2.1 pc = .ok (.invokespecial index, 3)) (kk : pm_B (d + 1) M (pc + 3) ls [] k N cl sl mc ms Q) : pm_B (d + 1) M pc ls [.ref a] k N cl sl mc ms Q := by
  intro X p l e R s mid args below meth c H locs QQ lsK hC hR hH hl hret
  obtain ⟨r1, r2, r3, r4⟩ := id hR
  refine W.objInit (a := X.1 a) (rest := []) (g := F0 mid pc lsK [.ref (X.1 a)]) hC.1 hC.2.1 hC.2.2.2.2.2.1 (hC.2.2.2.2.2.2.1 _ hlink) (hC.2.2.2.2.2.2.1 _ hin) (hC.2.2.2.2.2.2.1 _ hcd) rfl ((hl.2.1.trans hl.1).trans hC.2.2.2.2.1.symm) rfl hd (by omega) (Nat.le_trans (Nat.add_le_add_right (lv_room (st := []) (Nat.zero_le 8)) 12) (by omega)) ?_
  exact kk X p l e R s mid args below meth c H locs QQ lsK hC hR hH hl hret
end BORN
