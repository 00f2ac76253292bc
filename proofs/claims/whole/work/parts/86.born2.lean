theorem pm_Ad_k {X : pmX} {k : Nat} (h : k < 87) : pm_Ad X (X.1 k) := ⟨k, h, rfl⟩
section BORN2
variable {d : Nat} {M : pmM} {pc : Nat} {ls : List (Option Value)} {st : List Value} {k cl sl mc ms : Nat} {N : Nat → Nat → Bool} {Q : Nat → (Nat → Nat → Bool) → Nat → List (Option Value) → Prop}
/-- a cell comes -/
theorem HB_push {X : pmX} {s : State} {H H1 : Heap} {locs : List Loc} (hH : pm_HB X s k N H locs) (hk : k < 87) (z1 : H1.size = X.1 k + 1) (o1 : ∀ q, q < X.1 k → H1[q]? = H[q]?) (hat : va_at X.2.1 vwCl (X.1 k, cellN X N k) H1) : pm_HB X s (k + 1) N H1 locs := by
  obtain ⟨hP, hD, hS, hz, hX, hf⟩ := hH
  have ek : X.1 k = H.size := by rw [hX k hk, hz]
  have o2 : ∀ q : Nat, q < H.size → H1[q]? = H[q]? := fun q hq => o1 q (by rw [ek]; exact hq)
  have hkept : ∀ (j : Nat) (x : Nat × va_E), (wsN X k N)[j]? = some x → H1[x.1]? = H[x.1]? := fun j x hx => o2 x.1 ((hP j x hx).lt)
  refine ⟨?_, ?_, ⟨Nat.le_trans hS.1 (by rw [z1, ek]; omega), fun x h1 h2 => (o2 x (Nat.lt_of_lt_of_le h1 hS.1)).trans (hS.2.1 x h1 h2), hS.2.2⟩, by rw [z1, hX k hk]; omega, hX, fun c j hc => hf c j (by omega)⟩
  · rw [wsN_push]
    refine (hP.kept hkept).app (fun j x hx => ?_)
    have hj : j < 1 := (List.getElem?_eq_some_iff.mp hx).1
    rw [show j = 0 by omega] at hx
    cases hx
    exact hat
  · rw [wsN_push]
    exact hD.push hP ek (pm_Ad_k hk)
theorem B_new {ci index : Nat} {q : vw_C} {ty : Nat → FieldType} (hd : decode M.2.1 pc = .ok (.new index, 3)) (hk : pm_kd k = ci) (hci : ci < 8) (hq : vwCl[ci]? = some q) (hw : ∀ w ∈ u_ws q.1 q.2.1 q.2.2, w ∈ pmBig) (hty : ∀ k, k < q.2.2 → parseFieldDescriptor (q.2.1 k).2.2.1 = some (ty k)) (hcl : Cond.classLink M.2.2.2.2 index q.1 ∈ pmBig) (hinst : Cond.instantiable q.1 q.2.2 ∈ pmBig) (hini : Cond.initialized q.1 ∈ pmBig) (hfs : ∀ (X : pmX) (j : Nat), j < q.2.2 → defaultValue (ty j) = vp_V (((pm_fs ci k (mFi k) (mFl k)).map dfl).map (pm_tr X)) j) (hc : cl + 1 ≤ mc) (hs : sl + q.2.2 ≤ ms) (kk : pm_B d M (pc + 3) ls (.ref k :: st) (k + 1) N (cl + 1) (sl + q.2.2) mc ms Q) : pm_B d M pc ls st k N cl sl mc ms Q := by
  intro X p l e R s mid args below meth c H locs QQ lsK hC hR hH hl hret
  have h8 := pm_kd_lt hk (by omega)
  obtain ⟨r1, r2, r3, r4⟩ := id hR
  have hts := hC.2.2.2.2.2.2.1
  have hKn := hC.2.2.2.2.2.2.2.1.1.2.1.1 ci q hq
  have ek : H.size = X.1 k := by rw [hH.2.2.2.1, hH.2.2.2.2.1 k h8]
  refine W.newcK hC.1 hC.2.1 hC.2.2.2.2.2.1 (hts _ hcl) (hts _ hinst) (hts _ hini) (g := F0 mid pc lsK (st.map (pm_tr X))) rfl hd (by omega) (by omega) hKn.2.1 ek (fun H1 kC hkC e1 z1 o1 => ?_)
  refine kk X p l e R s mid args below meth c H1 locs QQ lsK hC hR (HB_push hH h8 z1 (fun q hq => by rw [o1 q hq]) ?_) hl hret
  rw [cellN_o hk hci, shF_none (fun i => hH.2.2.2.2.2 k i (Nat.le_refl _))]
  exact ⟨_, hq, (u_born ty hts hw hKn hkC e1 hty).to (fun j hj => hfs X j hj)⟩
theorem B_newi {n : Int32} (hd : decode M.2.1 pc = .ok (.newarray .int, 2)) (hk : pm_kd k = 8) (harr : Cond.arrayClass .int ∈ pmBig) (hn : n = nI (pm_ln k)) (hn2 : pm_ln k ≤ 300) (hc : cl + 1 ≤ mc) (hs : sl + pm_ln k ≤ ms) (kk : pm_B d M (pc + 2) ls (.ref k :: st) (k + 1) N (cl + 1) (sl + pm_ln k) mc ms Q) : pm_B d M pc ls (.int n :: st) k N cl sl mc ms Q := by
  intro X p l e R s mid args below meth c H locs QQ lsK hC hR hH hl hret
  have h8 := pm_kd_lt hk (by omega)
  obtain ⟨r1, r2, r3, r4⟩ := id hR
  have hts := hC.2.2.2.2.2.2.1
  have ek : H.size = X.1 k := by rw [hH.2.2.2.1, hH.2.2.2.2.1 k h8]
  have hra := (hC.2.2.2.2.2.2.2.1.1.2.1.2 0 _ rfl).2
  subst hn
  refine va_newaK (atype := .int) hC.1 hC.2.1 (hts _ harr) (g := F0 mid pc lsK (.int (nI (pm_ln k)) :: st.map (pm_tr X))) rfl hd rfl (nI_pos (by omega)) (ni_cl (by omega)) (by show pm_ln k * 4 ≤ _; omega) (by omega) (by omega) ek (fun H1 cA e1 z1 o1 hAr hNm => ?_)
  have ec : cA = X.2.2.1 0 := Option.some.inj (hNm.symm.trans hra)
  refine kk X p l e R s mid args below meth c H1 locs QQ lsK hC hR (HB_push hH h8 z1 (fun q hq => by rw [o1 q hq]) ?_) hl hret
  rw [cellN_i hk]
  show H1[X.1 k]? = some (vp_cell _ _)
  rw [e1, ec, vp_cell_i]
  congr 2
  funext j
  rw [hH.2.2.2.2.2 k j (Nat.le_refl _)]
  rfl
theorem B_newz {n : Int32} (hd : decode M.2.1 pc = .ok (.newarray .boolean, 2)) (hk : pm_kd k = 9) (harr : Cond.arrayClass .boolean ∈ pmBig) (hn : n = nI (pm_ln k)) (hn2 : pm_ln k ≤ 300) (hc : cl + 1 ≤ mc) (hs : sl + pm_ln k ≤ ms) (kk : pm_B d M (pc + 2) ls (.ref k :: st) (k + 1) N (cl + 1) (sl + pm_ln k) mc ms Q) : pm_B d M pc ls (.int n :: st) k N cl sl mc ms Q := by
  intro X p l e R s mid args below meth c H locs QQ lsK hC hR hH hl hret
  have h8 := pm_kd_lt hk (by omega)
  obtain ⟨r1, r2, r3, r4⟩ := id hR
  have hts := hC.2.2.2.2.2.2.1
  have ek : H.size = X.1 k := by rw [hH.2.2.2.1, hH.2.2.2.2.1 k h8]
  have hra := (hC.2.2.2.2.2.2.2.1.1.2.1.2 1 _ rfl).2
  subst hn
  refine va_newaK (atype := .boolean) hC.1 hC.2.1 (hts _ harr) (g := F0 mid pc lsK (.int (nI (pm_ln k)) :: st.map (pm_tr X))) rfl hd rfl (nI_pos (by omega)) (ni_cl (by omega)) (by show pm_ln k * 1 ≤ _; omega) (by omega) (by omega) ek (fun H1 cA e1 z1 o1 hAr hNm => ?_)
  have ec : cA = X.2.2.1 1 := Option.some.inj (hNm.symm.trans hra)
  refine kk X p l e R s mid args below meth c H1 locs QQ lsK hC hR (HB_push hH h8 z1 (fun q hq => by rw [o1 q hq]) ?_) hl hret
  rw [cellN_z hk]
  show H1[X.1 k]? = some (vp_cell _ _)
  rw [e1, ec, vp_cell_i]
  congr 2
  funext j
  rw [hH.2.2.2.2.2 k j (Nat.le_refl _)]
  rfl
theorem B_anew {n : Int32} {index t : Nat} {C : String} (hd : decode M.2.1 pc = .ok (.anewarray index, 3)) (hk : pm_kd k = 10 + t) (ht : t < 3) (hcl : Cond.classLink M.2.2.2.2 index C ∈ pmBig) (hC3 : (t = 0 ∧ C = RX5) ∨ (t = 1 ∧ C = RX1) ∨ (t = 2 ∧ C = RX0)) (hn : n = nI (pm_rl k)) (hn2 : pm_rl k ≤ 300) (hc : cl + 1 ≤ mc) (hs : sl + pm_rl k ≤ ms) (kk : pm_B d M (pc + 3) ls (.ref k :: st) (k + 1) N (cl + 1) (sl + pm_rl k) mc ms Q) : pm_B d M pc ls (.int n :: st) k N cl sl mc ms Q := by
  intro X p l e R s mid args below meth c H locs QQ lsK hC hR hH hl hret
  have h8 := pm_kd_lt hk (by omega)
  obtain ⟨r1, r2, r3, r4⟩ := id hR
  have hts := hC.2.2.2.2.2.2.1
  have ek : H.size = X.1 k := by rw [hH.2.2.2.1, hH.2.2.2.2.1 k h8]
  have hU := hC.2.2.2.2.2.2.2.1
  have hover : va_AO C s ∧ s.vm.findClass ("[" ++ (FieldType.object C).toString) = some (X.2.2.1 (2 + t)) := by
    rcases hC3 with ⟨rfl, rfl⟩ | ⟨rfl, rfl⟩ | ⟨rfl, rfl⟩
    · exact ⟨hU.2.1, (hU.1.2.1.2 2 _ rfl).2.choose_spec.choose_spec.2.2.2⟩
    · exact ⟨hU.2.2.1, (hU.1.2.1.2 3 _ rfl).2.choose_spec.choose_spec.2.2.2⟩
    · exact ⟨hU.2.2.2, (hU.1.2.1.2 4 _ rfl).2.choose_spec.choose_spec.2.2.2⟩
  subst hn
  have ecl : (nI (pm_rl k)).toNatClampNeg = pm_rl k := ni_cl (by omega)
  refine W.anew hC.1 hC.2.1 hC.2.2.2.2.2.1 (hts _ hcl) (va_AO.use hover.1) (g := F0 mid pc lsK (.int (nI (pm_rl k)) :: st.map (pm_tr X))) rfl hd rfl (nI_pos (by omega)) (by rw [ecl]; omega) (by omega) (by rw [ecl]; omega) (fun cA kA comp f1 f2 f3 f4 => ?_)
  have ec : cA = X.2.2.1 (2 + t) := Option.some.inj (f1.symm.trans hover.2)
  rw [ecl]
  generalize hH1 : H.push ({ cls := cA, slots := Array.replicate (pm_rl k) .null, vm := .none } : Cell) = H1
  have z1 : H1.size = X.1 k + 1 := by rw [← hH1, Array.size_push, ek]
  have e1 : H1[X.1 k]? = some (arrV cA (pm_rl k) (fun _ => .null)) := by rw [← hH1, ← ek, Array.getElem?_push_size, ← arrV_new]
  have o1 : ∀ q : Nat, q < X.1 k → H1[q]? = H[q]? := fun q hq => by rw [← hH1, Array.getElem?_push, if_neg (by rw [ek]; omega)]
  rw [ek]
  refine kk X p l e R s mid args below meth c H1 locs QQ lsK hC hR (HB_push hH h8 z1 o1 ?_) hl hret
  rw [cellN_r hk ht]
  show H1[X.1 k]? = some (vp_cell _ _)
  rw [e1, ec, vp_cell_q]
  congr 2
  funext j
  rw [hH.2.2.2.2.2 k j (Nat.le_refl _)]
  rfl
/-- a cell changes -/
theorem HB_set {X : pmX} {s : State} {H1 : Heap} {locs locs1 : List Loc} {H : Heap} {N' : Nat → Nat → Bool} {a : Nat} {e : va_E} (hH : pm_HB X s k N H locs) (ha : a < k) (hz : H1.size = H.size) (he : cellN X N' a = e) (ho : ∀ c', c' ≠ a → N' c' = N c') (hP1 : va_P X.2.1 vwCl ((wsN X k N).set a (X.1 a, e)) H1) (hD1 : va_D (pm_Ad X) ((wsN X k N).set a (X.1 a, e))) (hS1 : va_S (pm_Ad X) s.heap H1 locs1) : pm_HB X s k N' H1 locs1 := by
  rw [wsN_set ha he ho] at hP1 hD1
  refine ⟨hP1, hD1, hS1, by rw [hz]; exact hH.2.2.2.1, hH.2.2.2.2.1, fun c j hc => ?_⟩
  rw [ho c (by omega)]; exact hH.2.2.2.2.2 c j hc
end BORN2
