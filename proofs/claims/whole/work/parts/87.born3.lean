section BORN3
variable {d : Nat} {M : pmM} {pc : Nat} {ls : List (Option Value)} {st : List Value} {k cl sl mc ms : Nat} {N : Nat → Nat → Bool} {Q : Nat → (Nat → Nat → Bool) → Nat → List (Option Value) → Prop}
/-- a field is set: what the cell shows then -/
theorem cellN_put {X : pmX} {a ci j : Nat} {v : Value} (hk : pm_kd a = ci) (hci : ci < 8) (hv : (pm_fs ci a (mFi a) (mFl a))[j]? = some v) : cellN X (stN N a j) a = .inr (ci, ((shF (N a) 0 (pm_fs ci a (mFi a) (mFl a))).map (pm_tr X)).set j (pm_tr X v)) := by
  rw [cellN_o hk hci, shF_set hv (fun i => stN_s), List.map_set]
theorem B_put {a ci j index : Nat} {q : vw_C} {v : Value} {ty0 : Nat → FieldType} {ty : FieldType} (hd : decode M.2.1 pc = .ok (.putfield index, 3)) (hk : pm_kd a = ci) (hci : ci < 8) (hq : vwCl[ci]? = some q) (hw : ∀ w ∈ u_ws q.1 q.2.1 q.2.2, w ∈ pmBig) (hty : ∀ k, k < q.2.2 → parseFieldDescriptor (q.2.1 k).2.2.1 = some (ty0 k)) (hnm : ∀ a, a < q.2.2 → ∀ b, b < q.2.2 → a ≠ b → (q.2.1 a).2.1 ≠ (q.2.1 b).2.1) (hkq : j < q.2.2) (hlink : Cond.fieldLink M.2.2.2.2 index (q.2.1 j).1 (q.2.1 j).2.1 (q.2.1 j).2.2.1 ∈ pmBig) (hfin : (q.2.1 j).2.2.2 = false) (hdt : parseFieldDescriptor (q.2.1 j).2.2.1 = some ty) (hv : (pm_fs ci a (mFi a) (mFl a))[j]? = some v) (hn : ∀ X : pmX, narrow ty (pm_tr X v) = pm_tr X v) (hfit : ∀ X : pmX, fits ty (pm_tr X v) = true) (hak : a < k) (kk : pm_B d M (pc + 3) ls st k (stN N a j) cl sl mc ms Q) : pm_B d M pc ls (v :: .ref a :: st) k N cl sl mc ms Q := by
  intro X p l e R s mid args below meth c H locs QQ lsK hC hR hH hl hret
  have hts := hC.2.2.2.2.2.2.1
  have hK := hC.2.2.2.2.2.2.2.1.1.2.1
  have hap := va_apart (own := M.2.2.2.2) hts hw ty0 hty hnm hK hq
  have he : (wsN X k N)[a]? = some (X.1 a, .inr (ci, (shF (N a) 0 (pm_fs ci a (mFi a) (mFl a))).map (pm_tr X))) := (wsN_get hak).trans (by rw [cellN_o hk hci])
  obtain ⟨r, h1, cell, q1, q2, q3, q4⟩ := hH.1 a _ he
  have hr : r = q := Option.some.inj (h1.symm.trans hq)
  subst hr
  obtain ⟨hS, hfc, kC, hkC, hkind⟩ := hK.1 ci _ hq
  obtain ⟨cf, kf, fi, f, hi, hsl⟩ := hS j hkq
  have hlay := hts _ (hw _ (u_in_lay hkq))
  unfold u_lay at hlay
  rw [if_neg (by rw [hfin]; decide)] at hlay
  have hst := (u_facts hfc hkC (u_lays hts hw hkq) hi).1
  have h6 := u_store hfc hkC hkind hlay hi hdt (hn X) (hfit X)
  have hlen : j < ((shF (N a) 0 (pm_fs ci a (mFi a) (mFl a))).map (pm_tr X)).length := by rw [List.length_map, shF_len]; exact (List.getElem?_eq_some_iff.mp hv).1
  refine W.putK hC.1 hC.2.1 (f := f) ⟨hC.2.2.2.2.2.1, hts _ hlink, ⟨_, _, _, hi⟩, hst⟩ (by rw [q2]; exact h6) q1 q3 (by rw [hsl]; exact k2_hasslot (q4 j hkq)) rfl rfl hd (fun H' e1 e2 e3 => ?_)
  rw [hsl] at e1 ⊢
  exact kk X p l e R s mid args below meth c H' _ QQ lsK hC hR (HB_set hH hak e2 (cellN_put hk hci hv) (fun c' h => stN_o h) (hH.1.set hH.2.1 he ⟨_, hq, t_OB.to (V := updV (vp_V _) j (pm_tr X v)) ⟨_, e1, q2, q3, t_set q4 hap hkq (pm_tr X v)⟩ (fun i _ => vp_updV_set hlen (pm_tr X v) i)⟩ e3) (hH.2.1.set he) (hH.2.2.1.put e2 e3 (hH.2.1.2 a _ he))) hl hret
theorem B_putF {a ci j index : Nat} {q : vw_C} {v : Value} {ty0 : Nat → FieldType} {ty : FieldType} (hd : decode M.2.1 pc = .ok (.putfield index, 3)) (hk : pm_kd a = ci) (hci : ci < 8) (hq : vwCl[ci]? = some q) (hw : ∀ w ∈ u_ws q.1 q.2.1 q.2.2, w ∈ pmBig) (hty : ∀ k, k < q.2.2 → parseFieldDescriptor (q.2.1 k).2.2.1 = some (ty0 k)) (hnm : ∀ a, a < q.2.2 → ∀ b, b < q.2.2 → a ≠ b → (q.2.1 a).2.1 ≠ (q.2.1 b).2.1) (hkq : j < q.2.2) (hlink : Cond.fieldLink M.2.2.2.2 index (q.2.1 j).1 (q.2.1 j).2.1 (q.2.1 j).2.2.1 ∈ pmBig) (hfin : (q.2.1 j).2.2.2 = true) (hin2 : M.1.name = "<init>") (hdecl : (q.2.1 j).1 = M.2.2.2.2) (hdt : parseFieldDescriptor (q.2.1 j).2.2.1 = some ty) (hv : (pm_fs ci a (mFi a) (mFl a))[j]? = some v) (hn : ∀ X : pmX, narrow ty (pm_tr X v) = pm_tr X v) (hfit : ∀ X : pmX, fits ty (pm_tr X v) = true) (hak : a < k) (kk : pm_B d M (pc + 3) ls st k (stN N a j) cl sl mc ms Q) : pm_B d M pc ls (v :: .ref a :: st) k N cl sl mc ms Q := by
  intro X p l e R s mid args below meth c H locs QQ lsK hC hR hH hl hret
  have hts := hC.2.2.2.2.2.2.1
  have hown := hC.2.2.2.2.2.1
  have hK := hC.2.2.2.2.2.2.2.1.1.2.1
  have hap := va_apart (own := M.2.2.2.2) hts hw ty0 hty hnm hK hq
  have he : (wsN X k N)[a]? = some (X.1 a, .inr (ci, (shF (N a) 0 (pm_fs ci a (mFi a) (mFl a))).map (pm_tr X))) := (wsN_get hak).trans (by rw [cellN_o hk hci])
  obtain ⟨r, h1, cell, q1, q2, q3, q4⟩ := hH.1 a _ he
  have hr : r = q := Option.some.inj (h1.symm.trans hq)
  subst hr
  obtain ⟨hS, hfc, kC, hkC, hkind⟩ := hK.1 ci _ hq
  obtain ⟨cf, kf, fi, f, hi, hsl⟩ := hS j hkq
  have hlay := hts _ (hw _ (u_in_lay hkq))
  unfold u_lay at hlay
  rw [if_pos hfin] at hlay
  have hst := (u_facts hfc hkC (u_lays hts hw hkq) hi).1
  have hcf : mid.cls = cf := by
    obtain ⟨_, _, c', _, _, _, -, -, hf', -, -, -, hown2, -⟩ := Cond.laysFinal_spec hlay
    have e1 : c' = cf := by have := hi.symm.trans hf'; simp at this; exact this.1.symm
    rw [hdecl] at hown2
    rw [← e1]; exact Option.some.inj (hown.symm.trans hown2)
  have h6 := u_fits hfc hkC hkind (Or.inr hlay) hi hdt (hn X) (hfit X)
  have hlen : j < ((shF (N a) 0 (pm_fs ci a (mFi a) (mFl a))).map (pm_tr X)).length := by rw [List.length_map, shF_len]; exact (List.getElem?_eq_some_iff.mp hv).1
  refine W.putFinK hC.1 hC.2.1 hown (hts _ hlink) hi hst hcf (hC.2.2.2.2.2.2.2.2 hin2) (by rw [q2]; exact h6) q1 q3 (by rw [hsl]; exact k2_hasslot (q4 j hkq)) rfl rfl hd (fun H' e1 e2 e3 => ?_)
  rw [hsl] at e1 ⊢
  exact kk X p l e R s mid args below meth c H' _ QQ lsK hC hR (HB_set hH hak e2 (cellN_put hk hci hv) (fun c' h => stN_o h) (hH.1.set hH.2.1 he ⟨_, hq, t_OB.to (V := updV (vp_V _) j (pm_tr X v)) ⟨_, e1, q2, q3, t_set q4 hap hkq (pm_tr X v)⟩ (fun i _ => vp_updV_set hlen (pm_tr X v) i)⟩ e3) (hH.2.1.set he) (hH.2.2.1.put e2 e3 (hH.2.1.2 a _ he))) hl hret
theorem B_get {a ci j index : Nat} {q : vw_C} {v : Value} (hd : decode M.2.1 pc = .ok (.getfield index, 3)) (hk : pm_kd a = ci) (hci : ci < 8) (hq : vwCl[ci]? = some q) (hw : ∀ w ∈ u_ws q.1 q.2.1 q.2.2, w ∈ pmBig) (hkq : j < q.2.2) (hlink : Cond.fieldLink M.2.2.2.2 index (q.2.1 j).1 (q.2.1 j).2.1 (q.2.1 j).2.2.1 ∈ pmBig) (hv : (pm_fs ci a (mFi a) (mFl a))[j]? = some v) (hN : N a j = true) (hak : a < k) (kk : pm_B d M (pc + 3) ls (v :: st) k N cl sl mc ms Q) : pm_B d M pc ls (.ref a :: st) k N cl sl mc ms Q := by
  intro X p l e R s mid args below meth c H locs QQ lsK hC hR hH hl hret
  have hg : ((shF (N a) 0 (pm_fs ci a (mFi a) (mFl a))).map (pm_tr X))[j]? = some (pm_tr X v) := by
    rw [List.getElem?_map, shF_get, hv, Nat.zero_add, hN]; rfl
  exact va_get (ref := (q.2.1 j).1) hC.1 hC.2.1 hC.2.2.2.2.2.2.1 hw hC.2.2.2.2.2.1 hC.2.2.2.2.2.2.2.1.1.2.1 hH.1 a ((wsN_get hak).trans (by rw [cellN_o hk hci])) (by rw [hq]) j hkq (hC.2.2.2.2.2.2.1 _ hlink) (fun _ h => h) hg hd (kk X p l e R s mid args below meth c H locs QQ lsK hC hR hH hl hret)
theorem B_iast {a : Nat} {i x : Int32} (hd : decode M.2.1 pc = .ok (.iastore, 1)) (hk : pm_kd a = 8) (hin : vp_in i (pm_ln a)) (hx : (mFr a).getD i.toNatClampNeg 0 = x) (hak : a < k) (kk : pm_B d M (pc + 1) ls st k (stN N a i.toNatClampNeg) cl sl mc ms Q) : pm_B d M pc ls (.int x :: .int i :: .ref a :: st) k N cl sl mc ms Q := by
  intro X p l e R s mid args below meth c H locs QQ lsK hC hR hH hl hret
  have hK := hC.2.2.2.2.2.2.2.1.1.2.1
  have ha : (wsN X k N)[a]? = some (X.1 a, .inl (X.2.2.1 0, pm_ln a, .inl (fun i => if N a i then (mFr a).getD i 0 else 0))) := (wsN_get hak).trans (by rw [cellN_i hk])
  refine W.iast hC.1 hC.2.1 (hH.1 a _ ha) ((hK.2 0 _ rfl).1 (pm_ln a) (fun j => .int (if N a j then (mFr a).getD j 0 else 0))) (fun q => by cases q) (by show ¬ (i < 0 ∨ (arrV _ _ _).slots.size ≤ _); rw [arrV_size]; exact hin) rfl rfl hd (fun H1 e1 z oq => ?_)
  refine kk X p l e R s mid args below meth c H1 _ QQ lsK hC hR (HB_set hH hak z (cellN_i hk) (fun c' h => stN_o h) (hH.1.set hH.2.1 ha ?_ oq) (hH.2.1.set ha) (hH.2.2.1.put z oq (hH.2.1.2 a _ ha))) hl hret
  show H1[X.1 a]? = some (vp_cell _ _)
  rw [e1, vp_cell_i, vp_cell_i, arrV_store]
  congr 2
  funext j
  rw [stN_s]
  by_cases hj : j = i.toNatClampNeg
  · subst hj
    simp only [updV, if_true, beq_self_eq_true, Bool.true_or]
    rw [hx]
  · simp [updV, hj]
theorem B_aast {a t b ci : Nat} {i : Int32} {q : vw_C} (hd : decode M.2.1 pc = .ok (.aastore, 1)) (hk : pm_kd a = 10 + t) (ht : t < 3) (hin : vp_in i (pm_rl a)) (hb : pm_ra a i.toNatClampNeg = b) (hkb : pm_kd b = ci) (hci : ci < 8) (hq : vwCl[ci]? = some q) (h3 : (t = 0 ∧ q.1 = RX5) ∨ (t = 1 ∧ q.1 = RX1) ∨ (t = 2 ∧ q.1 = RX0)) (hak : a < k) (hbk : b < k) (kk : pm_B d M (pc + 1) ls st k (stN N a i.toNatClampNeg) cl sl mc ms Q) : pm_B d M pc ls (.ref b :: .int i :: .ref a :: st) k N cl sl mc ms Q := by
  intro X p l e R s mid args below meth c H locs QQ lsK hC hR hH hl hret
  have hK := hC.2.2.2.2.2.2.2.1.1.2.1
  have ha : (wsN X k N)[a]? = some (X.1 a, .inl (X.2.2.1 (2 + t), pm_rl a, .inr (.inr (.inr (.inr (fun i => if N a i then some (X.1 (pm_ra a i)) else none)))))) := (wsN_get hak).trans (by rw [cellN_r hk ht])
  have hv : (wsN X k N)[b]? = some (X.1 b, .inr (ci, (shF (N b) 0 (pm_fs ci b (mFi b) (mFl b))).map (pm_tr X))) := (wsN_get hbk).trans (by rw [cellN_o hkb hci])
  have htt : (pm_tys X)[2 + t]? = some (X.2.2.1 (2 + t), .object q.1) := by
    rcases h3 with ⟨rfl, h⟩ | ⟨rfl, h⟩ | ⟨rfl, h⟩ <;> rw [h] <;> rfl
  have hlt : i.toNatClampNeg < pm_rl a := Nat.not_le.mp fun z => hin (Or.inr z)
  have h0 : ¬ i < 0 := fun z => hin (Or.inl z)
  obtain ⟨r', hr', cellV, g1, g2, g3, -⟩ := hH.1 b _ hv
  have hcls := (hK.1 ci q hq).2
  obtain ⟨kA, comp, k1, k2, k3, -⟩ := (hK.2 (2 + t) _ htt).2
  have hcomp : comp = X.2.1.1 ci := Option.some.inj (k3.symm.trans hcls.1)
  subst hcomp
  obtain ⟨kC, hkC, -⟩ := hcls.2
  refine W.aast hC.1 hC.2.1 (hH.1 a _ ha) (fun q h => by cases h) (fun h => by cases h) k1 k2 rfl hkC ⟨h0, by show _ < (arrV _ _ _).slots.size; rw [arrV_size]; exact hlt⟩ g1 (fun q h => by rw [g3] at h; cases h) (by rw [g2]; exact hkC) (by rw [g2]; exact va_assign hcls) rfl rfl hd (fun H1 e1 z oq => ?_)
  refine kk X p l e R s mid args below meth c H1 _ QQ lsK hC hR (HB_set hH hak z (cellN_r hk ht) (fun c' h => stN_o h) (hH.1.set hH.2.1 ha ?_ oq) (hH.2.1.set ha) (hH.2.2.1.put z oq (hH.2.1.2 a _ ha))) hl hret
  show H1[X.1 a]? = some (vp_cell _ _)
  rw [e1, vp_cell_q, vp_cell_q, arrV_store]
  congr 2
  funext j
  rw [stN_s]
  by_cases hj : j = i.toNatClampNeg
  · subst hj
    simp [updV, va_rf, hb]
  · simp [updV, hj]
/-! calls of constructors -/
def pm_roomB (d mc ms : Nat) : Room := { frames := d, cells := mc, slots := ms, locals := 300 * d }
def pm_PcB (X : pmX) (as : List Value) (k : Nat) (N : Nat → Nat → Bool) : Array Value → State → Prop := va_Pc (as.map (pm_tr X)) (fun U => pm_UB X U U.heap ∧ va_P X.2.1 vwCl (wsN X k N) U.heap ∧ va_D (pm_Ad X) (wsN X k N) ∧ U.heap.size = X.1 0 + k ∧ (∀ c, c < 87 → X.1 c = X.1 0 + c) ∧ (∀ c j, k ≤ c → N c j = false))
def pm_QcB (X : pmX) (Q : Nat → (Nat → Nat → Bool) → Prop) : Array Value → State → Outcome → State → Prop := fun _ st oc t => (∃ (k' : Nat) (N' : Nat → Nat → Bool), oc = .returned none ∧ Q k' N' ∧ va_P X.2.1 vwCl (wsN X k' N') t.heap ∧ va_D (pm_Ad X) (wsN X k' N') ∧ t.heap.size = X.1 0 + k' ∧ (∀ c j, k' ≤ c → N' c j = false)) ∧ va_F (pm_Ad X) st t
theorem pm_metB {Q : Nat → (Nat → Nat → Bool) → Prop} {as : List Value} (X : pmX) (l : Launch) (hpl : plainName M.1.cls = true) (hcl : M.1.cls = M.2.2.2.2) (hlen : (pm_ex as).length ≤ M.2.2.1) (hG : pm_B d M 0 (pm_ent M as) [] k N 0 0 mc ms (Qr M Q)) : Met l M.1 (pm_wsM M) (pm_roomB d mc ms) (pm_PcB X as k N) (pm_QcB X Q) mc ms (pm_Ad X) := by
  refine Met.ofW (cc := M.2.1) (maxL := M.2.2.1) (ret := M.2.2.2.1) hpl rfl ?_
  intro p e s mid args below meth c s₁ B hml hv
  obtain ⟨rfl, hU, hP, hD, hz, hX, hf⟩ := hv
  have hx := B.exec
  have hb := B.bytes
  have hr := B.returns
  have hts := atoms_spec (ws := pm_wsM M) B.pre
  have hown : s.vm.findClass M.1.cls = some mid.cls := findClass_of_methodNamed B.named
  have hlocks := B.notSynchronized
  have hnm : meth.name = M.1.name := (name_of_methodNamed B.named B.method).1
  rw [lg_entry_eq]
  refine hG X p l e (pm_roomB d mc ms) s mid _ below meth c s.heap [] _ _ ⟨hx, hb, hr, hlocks, hml, hcl ▸ hown, fun w hw => hts w (List.mem_cons_of_mem _ hw), hU, fun h => hnm.trans h⟩ ⟨Nat.le_refl _, Nat.le_refl _, Nat.le_refl _, Nat.le_refl _⟩ ⟨hP, hD, va_S.rf, hz, hX, hf⟩ (pm_ent_lv hlen) ?_
  intro H1 locs1 k1 N1 pc1 lsA ls1 hqq hH1 _
  obtain ⟨hrn, hrt, hq⟩ := hqq
  exact W.vret hx hb (hr.trans hrn) (fun t ht _ => ⟨⟨k1, N1, rfl, hq, by rw [ht]; exact hH1.1, hH1.2.1, by rw [ht]; exact hH1.2.2.2.1, hH1.2.2.2.2.2⟩, hH1.2.2.1.F ht⟩) hH1.2.2.1.2.2 hrt
theorem pm_UB_moved {X : pmX} {s U : State} {H : Heap} (hW : s.WarmedH U.vm) (h : pm_UB X s H) : pm_UB X U H := ⟨pm_U_moved hW h.1, va_AO.moved hW.alike h.2.1, va_AO.moved hW.alike h.2.2.1, va_AO.moved hW.alike h.2.2.2⟩
theorem pm_UB_kept {X : pmX} {s : State} {H : Heap} {locs : List Loc} (hS : va_S (pm_Ad X) s.heap H locs) (h : pm_UB X s s.heap) : pm_UB X s H := ⟨pm_U_kept hS h.1, h.2⟩
theorem pm_UB_blind {X : pmX} {as : List Value} : FrameBlind (pm_PcB X as k N) := by
  intro a U g mk h
  obtain ⟨h1, ⟨⟨n1, n2, n3, n4, n5⟩, b1, b2, b3⟩, h3⟩ := h
  have hal : U.vm.Alike (U.calling g mk a).vm := Vm.Alike.refl U.vm
  refine ⟨h1, ⟨⟨fun w hw => ?_, va_K.moved hal n2, va_Z.moved hal n3, va_T.moved hal n4, va_T.moved hal n5⟩, va_AO.moved hal b1, va_AO.moved hal b2, va_AO.moved hal b3⟩, h3⟩
  have hw2 := (List.mem_filter.mp hw).2
  have h0 := n1 w hw
  refine va_Nw.same ?_ (rfl : U.vm = (U.calling g mk a).vm) h0
  cases w <;> first | (simp [pm_isN] at hw2; done) | rfl
theorem pm_contB {Q : Nat → (Nat → Nat → Bool) → Prop} {X : pmX} {p : Program} {l : Launch} {e : Env} {R : Room} {s : State} {mid : MethodId} {args a : Array Value} {below : List Frame} {meth : Method} {c : Code} {H : Heap} {locs : List Loc} {pc mc' ms' : Nat} {QQ : State → Prop} {lsK : Array Slot} {st0 rest : List Value}
    (hr : va_Run p l e R s mid args below meth c H locs cl sl mc' ms' (F0 mid pc lsK st0) rest (pm_QcB X Q a) (pm_Ad X)) (hH : pm_HB X s k N H locs)
    (kk : ∀ (k' : Nat) (N' : Nat → Nat → Bool) (H1 : Heap) (locs1 : List Loc), Q k' N' → pm_HB X s k' N' H1 locs1 → W p l e R s mid args below meth c H1 locs1 (cl + mc') (sl + ms') QQ (F0 mid (pc + 3) lsK rest)) : W p l e R s mid args below meth c H locs cl sl QQ (F0 mid pc lsK st0) := by
  intro T hT XX
  have hS := hH.2.2.1
  obtain ⟨v, st₀, t, T', L, h0, X', hL, e1, e2, ⟨⟨k', N', hv, hq, hP, hD, hsz, hf⟩, hz, hk⟩, st⟩ := hr T hT XX
  cases hv
  rw [h0] at hz hk
  obtain ⟨t2, a1, b1⟩ := kk k' N' T'.heap (locs ++ L) hq ⟨by rw [e1]; exact hP, hD, ⟨Nat.le_trans hS.1 (by rw [e1]; exact hz), fun q h1 h2 => by rw [e1, hk q (Nat.lt_of_lt_of_le h1 hS.1) h2]; exact hS.2.1 q h1 h2, fun q hq => by
      rcases List.mem_append.mp hq with h | h
      · exact hS.2.2 q h
      · exact hL q h⟩, by rw [e1]; exact hsz, hH.2.2.2.2.1, hf⟩ T' rfl X'
  exact ⟨t2, st t2 a1, b1⟩
theorem B_callI {J : pmM} {index n b mc' ms' : Nat} (hlink : Cond.methodLink M.2.2.2.2 index J.1 ∈ pmBig) (hJ : pm_J J n) (hin : Cond.instanceMethod J.1 ∈ pmBig) (hnm : J.1.name = "<init>") (hret : J.2.2.2.1 = none) (As : List Value) (hn : As.length = n) (hlen : (pm_ex (.ref b :: As)).length ≤ J.2.2.1) (hd : decode M.2.1 pc = .ok (.invokespecial index, 3)) (h8 : (st.map fun v => v.category).sum ≤ 8) (hc : cl + mc' ≤ mc) (hs : sl + ms' ≤ ms) (kk : pm_B d J 0 (pm_ent J (.ref b :: As)) [] k N 0 0 mc' ms' (Qr J (fun k' N' => pm_B (d + 1) M (pc + 3) ls st k' N' (cl + mc') (sl + ms') mc ms Q))) : pm_B (d + 1) M pc ls (As.reverse ++ .ref b :: st) k N cl sl mc ms Q := by
  intro X p l e R s mid args below meth c H locs QQ lsK hC hR hH hl hret'
  obtain ⟨j1, j2, j3, j4, j5, j6⟩ := hJ
  obtain ⟨r1, r2, r3, r4⟩ := id hR
  have hM := pm_metB X l j1 j2 hlen kk
  have hts := hC.2.2.2.2.2.2.1
  have hw : pm_wsM J = Cond.code J.1 J.2.1 J.2.2.1 none :: pmBig := by unfold pm_wsM; rw [hret]
  have hrun := va_runI (b := X.1 b) (As := As.map (pm_tr X)) (rest := st.map (pm_tr X)) (g := F0 mid pc lsK ((As.reverse ++ .ref b :: st).map (pm_tr X))) (cells := cl) (slots := sl) (locs := locs) (H := H) (below := below) (meth := meth) (e := e) (R := R) (⟨hC.1, hC.2.1, hC.2.2.2.2.1, hC.2.2.2.2.2.1, hts⟩ : CallFix p mid c M.2.1 M.2.2.1 s args pmBig M.2.2.2.2) hM (⟨callB_of (mc := mc') (ms := ms') n hts (pm_good j5) hw rfl rfl (hts _ j6) (hts _ hlink) j4 ⟨by show d + 1 ≤ _; omega, by show 8 + (J.2.2.1 + 11) + 300 * d ≤ _; omega⟩, hnm, hts _ hin⟩) ⟨pm_UB_blind, fun U hU hW => ⟨by simp [List.map_cons, pm_tr], by rw [hU]; exact pm_UB_moved hW (pm_UB_kept hH.2.2.1 hC.2.2.2.2.2.2.2.1), by rw [hU]; exact hH.1, hH.2.1, by rw [hU]; exact hH.2.2.2.1, hH.2.2.2.2⟩⟩ rfl (by rw [List.length_map]; exact hn) (hl.2.1.trans hl.1) (by simp [List.map_append, List.map_reverse, pm_tr]) (lv_room (by rw [pm_cat]; exact h8)) hd ⟨by omega, by omega⟩
  refine pm_contB hrun hH (fun k' N' H1 locs1 hq' hH' => ?_)
  exact hq' X p l e R s mid args below meth c H1 locs1 QQ lsK hC hR hH' hl hret'
theorem B_callIN {J : pmM} {index n b mc' ms' : Nat} {host : String} (hlink : Cond.methodLinkNest M.2.2.2.2 index J.1 host ∈ pmNest) (hJ : pm_J J n) (hin : Cond.instanceMethod J.1 ∈ pmBig) (hnm : J.1.name = "<init>") (hret : J.2.2.2.1 = none) (As : List Value) (hn : As.length = n) (hlen : (pm_ex (.ref b :: As)).length ≤ J.2.2.1) (hd : decode M.2.1 pc = .ok (.invokespecial index, 3)) (h8 : (st.map fun v => v.category).sum ≤ 8) (hc : cl + mc' ≤ mc) (hs : sl + ms' ≤ ms) (kk : pm_B d J 0 (pm_ent J (.ref b :: As)) [] k N 0 0 mc' ms' (Qr J (fun k' N' => pm_B (d + 1) M (pc + 3) ls st k' N' (cl + mc') (sl + ms') mc ms Q))) : pm_B (d + 1) M pc ls (As.reverse ++ .ref b :: st) k N cl sl mc ms Q := by
  intro X p l e R s mid args below meth c H locs QQ lsK hC hR hH hl hret'
  obtain ⟨j1, j2, j3, j4, j5, j6⟩ := hJ
  obtain ⟨r1, r2, r3, r4⟩ := id hR
  have hM := pm_metB X l j1 j2 hlen kk
  have hts := hC.2.2.2.2.2.2.1
  have hw : pm_wsM J = Cond.code J.1 J.2.1 J.2.2.1 none :: pmBig := by unfold pm_wsM; rw [hret]
  have hrun := va_runIN (b := X.1 b) (As := As.map (pm_tr X)) (rest := st.map (pm_tr X)) (g := F0 mid pc lsK ((As.reverse ++ .ref b :: st).map (pm_tr X))) (cells := cl) (slots := sl) (locs := locs) (H := H) (below := below) (meth := meth) (e := e) (R := R) (⟨hC.1, hC.2.1, hC.2.2.2.2.1, hC.2.2.2.2.2.1, hts⟩ : CallFix p mid c M.2.1 M.2.2.1 s args pmBig M.2.2.2.2) hM (⟨va_cnB (mc := mc') (ms := ms') n hts (pm_good j5) hw rfl rfl (hC.2.2.2.2.2.2.2.1.1.1 _ hlink) (hts _ j6) j4 ⟨by show d + 1 ≤ _; omega, by show 8 + (J.2.2.1 + 11) + 300 * d ≤ _; omega⟩, hnm, hts _ hin⟩) ⟨pm_UB_blind, fun U hU hW => ⟨by simp [List.map_cons, pm_tr], by rw [hU]; exact pm_UB_moved hW (pm_UB_kept hH.2.2.1 hC.2.2.2.2.2.2.2.1), by rw [hU]; exact hH.1, hH.2.1, by rw [hU]; exact hH.2.2.2.1, hH.2.2.2.2⟩⟩ rfl (by rw [List.length_map]; exact hn) (hl.2.1.trans hl.1) (by simp [List.map_append, List.map_reverse, pm_tr]) (lv_room (by rw [pm_cat]; exact h8)) hd ⟨by omega, by omega⟩
  refine pm_contB hrun hH (fun k' N' H1 locs1 hq' hH' => ?_)
  exact hq' X p l e R s mid args below meth c H1 locs1 QQ lsK hC hR hH' hl hret'
end BORN3
