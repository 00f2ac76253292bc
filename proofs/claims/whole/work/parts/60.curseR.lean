def stA (L : Ld) (s : Cs) (o : Option (Nat × List Nat)) (p : List Nat) : Option (Nat × List Nat) := if upW o (cnt (ordS L s p).2.2.2.2) then some (cnt (ordS L s p).2.2.2.2, p) else o
def stB (L : Ld) (s : Cs) (o : Option (Nat × List Nat)) (p : List Nat) : Option (Nat × List Nat) := if dnW o (cnt (ordS L s p).2.2.2.2) then some (cnt (ordS L s p).2.2.2.2, p) else o
def stC (L : Ld) (s : Cs) (t : Nat) (o : Nat × Nat) (p : List Nat) : Nat × Nat := if cnt (ordS L s p).2.2.2.2 = t then (o.1 + 1, o.2 &&& (ordS L s p).2.2.2.2) else o
theorem wgh_parts (L : Ld) (s : Cs) (t : Nat) (W : OW) (p : List Nat) : wgh L s t W p = (stA L s W.1 p, stB L s W.2.1 p, stC L s t W.2.2 p) := by
  unfold wgh wC stA stB stC
  have b1 : ∀ W v, (wB W v p).1 = W.1 := fun W v => by unfold wB; split <;> rfl
  have b2 : ∀ W v, (wB W v p).2.1 = if dnW W.2.1 v then some (v, p) else W.2.1 := fun W v => by unfold wB; split <;> rfl
  have b3 : ∀ W v, (wB W v p).2.2 = W.2.2 := fun W v => by unfold wB; split <;> rfl
  have a1 : ∀ W v, (wA W v p).1 = if upW W.1 v then some (v, p) else W.1 := fun W v => by unfold wA; split <;> rfl
  have a2 : ∀ W v, (wA W v p).2 = W.2 := fun W v => by unfold wA; split <;> rfl
  split
  · rw [b1, b2, b3, a1, a2]
  · refine Prod.ext ?_ (Prod.ext ?_ ?_)
    · rw [b1, a1]
    · rw [b2, a2]
    · rw [b3, a2]
theorem fold_parts (L : Ld) (s : Cs) (t : Nat) : ∀ (l : List (List Nat)) (W : OW), l.foldl (wgh L s t) W = (l.foldl (stA L s) W.1, l.foldl (stB L s) W.2.1, l.foldl (stC L s t) W.2.2)
  | [], W => rfl
  | p :: l, W => by
    rw [List.foldl_cons, fold_parts L s t l, wgh_parts]; rfl
theorem l6_eq : ∀ {l : List Int32}, l.length = 6 → (∀ j, j < 6 → l.getD j 0 = nI j) → l = ([0, 1, 2, 3, 4, 5] : List Nat).map nI
  | [a, b, c, d, e, f], _, hv => by
    have h0 : a = nI 0 := hv 0 (by omega)
    have h1 : b = nI 1 := hv 1 (by omega)
    have h2 : c = nI 2 := hv 2 (by omega)
    have h3 : d = nI 3 := hv 3 (by omega)
    have h4 : e = nI 4 := hv 4 (by omega)
    have h5 : f = nI 5 := hv 5 (by omega)
    rw [h0, h1, h2, h3, h4, h5]; rfl
theorem take_gd {p : List Nat} {i : Nat} (h : i < p.length) : p.take (i + 1) = p.take i ++ [p.getD i 0] := by
  rw [List.take_succ, List.getD_eq_getElem?_getD, List.getElem?_eq_getElem h]; rfl
theorem gd_app {p q : List Nat} {i : Nat} (h : i < p.length) : (p ++ q).getD i 0 = p.getD i 0 := by
  rw [List.getD_eq_getElem?_getD, List.getD_eq_getElem?_getD, List.getElem?_append_left h]
def okP (n : Nat) (p : List Nat) : Prop := p.length = n ∧ ∀ i, i < n → p.getD i 0 < n
theorem ords_okP {n : Nat} (h : n ≤ 6) (h0 : n ≠ 0) : ∀ p ∈ ords n, okP n p := by
  have := (ords_ok n (by omega) (by omega)).2.2
  rw [List.all_eq_true] at this
  intro p hp
  have q := this p hp
  rw [Bool.and_eq_true, decide_eq_true_eq, List.all_eq_true] at q
  refine ⟨q.1, fun i hi => ?_⟩
  have : p.getD i 0 ∈ p := by
    rw [List.getD_eq_getElem?_getD, List.getElem?_eq_getElem (by omega)]
    exact List.getElem_mem _
  exact of_decide_eq_true (q.2 _ this)
theorem tl_len {n : Nat} : (tlO n).length = 6 - n := by unfold tlO; rw [List.length_map, List.length_range]
theorem tl_gd {n i : Nat} (hn : n ≤ 6) : (tlO n).getD i 0 < 100 := by
  unfold tlO
  rw [List.getD_eq_getElem?_getD]
  cases e : ((List.range (6 - n)).map (fun i => n + i))[i]? with
  | none => show 0 < 100; omega
  | some x =>
    obtain ⟨y, h1, h2⟩ := List.mem_map.mp (List.mem_of_getElem? e)
    have := List.mem_range.mp h1
    show x < 100; omega
theorem pt_gd {n : Nat} {p : List Nat} (hn : n ≤ 6) (h : okP n p) : ∀ i, (p ++ tlO n).getD i 0 < 100 := by
  intro i
  by_cases c : i < p.length
  · rw [gd_app c]; have := h.2 i (by rw [← h.1]; exact c); omega
  · have e : (p ++ tlO n).getD i 0 = (tlO n).getD (i - p.length) 0 := by
      rw [List.getD_eq_getElem?_getD, List.getD_eq_getElem?_getD, List.getElem?_append_right (by omega)]
    rw [e]; exact tl_gd hn
theorem pt_len {n : Nat} {p : List Nat} (hn : n ≤ 6) (h : okP n p) : (p ++ tlO n).length = 6 := by
  rw [List.length_append, tl_len, h.1]; omega
section CURSER
variable {d : Nat} {m : pmMem} {Q : Option Value → pmMem → Prop} {S : Sg} {p : List Nat}
theorem RR_84 {m' : pmMem} (h : RR S m) (ha : agA only84 m m') (hl : (m'.2.1 84).length = 6) : RR S m' := by
  have h7 := h.2.2.2.2.2.2.1
  refine RR_scr h ha (fun c z => by unfold only84 at z; omega) ⟨?_, ?_, ?_, ?_, hl, ?_, ?_⟩
  · rw [ha.2.2 79 (by unfold only84; omega)]; exact h7.1
  · rw [ha.2.2 80 (by unfold only84; omega)]; exact h7.2.1
  · rw [ha.2.2 82 (by unfold only84; omega)]; exact h7.2.2.1
  · rw [ha.2.2 83 (by unfold only84; omega)]; exact h7.2.2.2.1
  · rw [ha.2.2 85 (by unfold only84; omega)]; exact h7.2.2.2.2.2.1
  · rw [ha.2.2 86 (by unfold only84; omega)]; exact h7.2.2.2.2.2.2
theorem c7_firstOrder {l1 : Option Value} (hl : (m.2.1 84).length = 6) (K : ∀ m', agA only84 m m' → m'.2.1 84 = ([0, 1, 2, 3, 4, 5] : List Nat).map nI → Q none m') : pm_G d mX7_firstOrder 0 [some (.ref 65), l1] [] m Q := by
  have loop : ∀ (k i : Nat) (m1 : pmMem), i + k = 6 → agA only84 m m1 → (m1.2.1 84).length = 6 → (∀ j, j < i → (m1.2.1 84).getD j 0 = nI j) → pm_G d mX7_firstOrder 2 [some (.ref 65), some (.int (nI i))] [] m1 Q := by
    intro k
    induction k with
    | zero =>
      intro i m1 hi a1 l1 inv
      have e : i = 6 := by omega
      subst e
      exact gX7_firstOrder_2 (fun z => absurd (by decide) z) (fun _ => K m1 a1 (l6_eq l1 inv)) (fun z => absurd (by decide) z)
    | succ k ih =>
      intro i m1 hi a1 l1 inv
      refine gX7_firstOrder_2 (fun _ => by rw [l1]; exact ni_in (by omega) (by omega)) (fun z => absurd z (nle_ni (k := 6) (by omega) (by omega))) (fun _ m2 e2 => ?_)
      rw [ni_cl (by omega)] at e2
      have x2 : m2.2.1 84 = (m1.2.1 84).set i (nI i) := by rw [e2, pm_rA, if_pos rfl]
      rw [nI_1]
      refine ih (i + 1) m2 (by omega) (by rw [e2]; exact agA_A a1 rfl) (by rw [x2, List.length_set]; exact l1) (fun j hj => ?_)
      rw [x2, getD_set (by omega)]
      by_cases c : j = i
      · rw [if_pos c, c]
      · rw [if_neg c]; exact inv j (by omega)
  exact gX7_firstOrder_0 (loop 6 0 m (by omega) (agA_refl _ _) hl (fun j hj => absurd hj (by omega)))
theorem c7_cursedBy {l1 : Option Value} (h : RR S m) (hp : okP (sL S).1 p) (h84 : m.2.1 84 = (p ++ tlO (sL S).1).map nI) (K : ∀ m', RR S m' → m'.2.1 84 = (p ++ tlO (sL S).1).map nI → ag (fun c => 65 ≤ c) m m' → Q (some (.int (nI (ordS (sL S) (sS S) p).2.2.2.2))) m') : pm_G (d + 5) mX7_cursedBy 0 [some (.ref 65), l1] [] m Q := by
  have hL6 := h.2.2.1.2.1
  have ok : csOk (sS S) := h.2.2.2.2.1.2.2.2.2
  have d0 : dj (sS S) := dj_replay _ _ _
  have hd : (sS S).2.1 < 1000 := by have := ok.2.1; omega
  have l84 : (m.2.1 84).length = 6 := by rw [h84, List.length_map]; exact pt_len hL6 hp
  have N0 := h.2.2.2.2.1
  have s7 := h.2.2.2.2.2.2.1
  refine gX7_cursedBy_0 (c7_aside N0.1 N0.2.2.2.2.1 N0.2.1 (fun i => fate_le _ i) s7.1 s7.2.1 (fun m1 hG1 a1 => gX7_cursedBy_4 ?_))
  have loop : ∀ (k i : Nat) (m2 : pmMem), i + k = (sL S).1 → agA scrR m m2 → asideG (sS S).1 (fateC (ordS (sL S) (sS S) (p.take i))) m2 → pm_G (d + 5) mX7_cursedBy 6 [some (.ref 65), some (.int (nI i))] [] m2 Q := by
    intro k
    induction k with
    | zero =>
      intro i m2 hi a2 hG2
      have e : i = (sL S).1 := by omega
      subst e
      have hL2 := landR_scr h.2.2.1 a2
      have le : m2.1 65 4 ≤ nI (sL S).1 := by rw [hL2.1]; exact Int32.le_refl _
      rw [List.take_of_length_le (by rw [hp.1]; exact Nat.le_refl _)] at hG2
      refine gX7_cursedBy_6 (fun z => absurd le z) (fun _ => c7_cursedAside hG2 (gX7_cursedBy_52 ?_)) (fun z => absurd le z)
      rw [show curS (fateC (ordS (sL S) (sS S) p)) = (ordS (sL S) (sS S) p).2.2.2.2 from dj_fate (ordS_dj _ _ _ d0) (ordS_ok _ _ _ ok).2.2.2]
      exact K m2 (RR_aside h a2 hG2) (by rw [a2.2.2 84 (by unfold scrR; omega)]; exact h84) (ag_mono (fun c z => by unfold scrR at z; omega) a2.ag)
    | succ k ih =>
      intro i m2 hi a2 hG2
      have hL2 := landR_scr h.2.2.1 a2
      have nle : ¬ m2.1 65 4 ≤ nI i := by rw [hL2.1]; exact nle_ni (by omega) (by omega)
      have e84 : m2.2.1 84 = m.2.1 84 := a2.2.2 84 (by unfold scrR; omega)
      have f15 : m2.1 65 15 = nI (sS S).2.1 := by rw [a2.1]; exact N0.2.2.1
      have ip : i < p.length := by rw [hp.1]; omega
      have val : (m2.2.1 84).getD (nI i).toNatClampNeg 0 = nI (p.getD i 0) := by
        rw [e84, h84, ni_cl (by omega), map_gd, gd_app ip]
      have hh := hp.2 i (by omega)
      have w3 : wordC (sL S) (sS S) (p.getD i 0) < 3 := wordI_lt _
      refine gX7_cursedBy_6 (fun _ => by rw [e84, l84]; exact ni_in (by omega) (by omega)) (fun z => absurd z nle) (fun _ => ?_)
      rw [val, f15]
      refine c7_wordFrom hL2 hG2.1 hG2.2.1 hh hd (gX7_cursedBy_39 ?_)
      refine c7_say hL2 hG2 hh hd w3 (fun m3 hG3 a3 => gX7_cursedBy_42 ?_)
      rw [nI_1]
      refine ih (i + 1) m3 (by omega) (agA_trans a2 a3) ?_
      rw [take_gd ip, ordS_snoc, ← sayK_fate, ordS_seen, ordS_word]
      exact hG3
  exact loop (sL S).1 0 m1 (by omega) a1 hG1
def stR (S : Sg) (r : Nat) (o : Option (Nat × List Nat)) : Sg := match o with
  | none => S
  | some v => setR S r (some (v.2.map nI))
theorem stR_L (S : Sg) (r : Nat) (o : Option (Nat × List Nat)) : sL (stR S r o) = sL S ∧ sS (stR S r o) = sS S ∧ sT (stR S r o) = sT S ∧ sP (stR S r o) = sP S ∧ sD (stR S r o) = sD S ∧ sK (stR S r o) = sK S ∧ sTel (stR S r o) = sTel S ∧ sFnd (stR S r o) = sFnd S := by
  cases o <;> exact ⟨rfl, rfl, rfl, rfl, rfl, rfl, rfl, rfl⟩
theorem stR_o {S : Sg} {r q : Nat} {o : Option (Nat × List Nat)} (h : q ≠ r) : sR (stR S r o) q = sR S q := by
  cases o with
  | none => rfl
  | some v => show upo S.1 r _ q = _; unfold upo; rw [if_neg h]
theorem l7_rowOrder {r n : Nat} {x1 x2 x3 x4 x5 x6 : Int32} {S2 S3 : Sg} (h : RR S2 m) (hr : r < 6) (hx : x1 = nI r) (h4 : m.1 65 4 = nI n) (hn : n ≤ 6) (hz : sR S2 r = some (List.replicate n 0)) (e3 : S3 = setR S2 r (some (p.map nI))) (hpl : p.length = n) (h84 : m.2.1 84 = (p ++ tlO n).map nI) (hl84 : (m.2.1 84).length = 6) (K : ∀ m', RR S3 m' → m'.2.1 84 = (p ++ tlO n).map nI → ag (fun c => 65 ≤ c) m m' → pm_G d mX7_nextOrder 0 [some (.ref 65), none, none, none, none, none] [] m' (fun q m2 => pm_G (d + 1) mX7_bestOrder 117 [some (.ref 65), some (.int x1), some (.int x2), some (.int x3), some (.int x4), some (.int x5), some (.int x6), some (.int (nI n))] (pm_psh q []) m2 Q)) : pm_G (d + 1) mX7_bestOrder 79 [some (.ref 65), some (.int x1), some (.int x2), some (.int x3), some (.int x4), some (.int x5), some (.int x6), some (.int 0)] [] m Q := by
  obtain ⟨q1, q2, q3⟩ := h.1
  have g := q3 r hr
  rw [hz] at g
  have loop : ∀ (k i : Nat) (m1 : pmMem), i + k = n → agA (fun c => c = 66) m m1 → (m1.2.1 66).length = 240 → (∀ y, (m1.2.1 66).getD y 0 = if 40 * r ≤ y ∧ y < 40 * r + i then nI (p.getD (y - 40 * r) 0) else (m.2.1 66).getD y 0) → pm_G (d + 1) mX7_bestOrder 79 [some (.ref 65), some (.int x1), some (.int x2), some (.int x3), some (.int x4), some (.int x5), some (.int x6), some (.int (nI i))] [] m1 Q := by
    intro k
    induction k with
    | zero =>
      intro i m1 hi a1 l1 inv
      have e : i = n := by omega
      subst e
      have le : m1.1 65 4 ≤ nI i := by rw [a1.1, h4]; exact Int32.le_refl _
      have e67 : m1.2.1 67 = m.2.1 67 := a1.2.2 67 (by omega)
      refine gX7_bestOrder_79 (fun z => absurd le z) (fun z => absurd le z) (fun _ => K m1 ?_ (by rw [a1.2.2 84 (by omega)]; exact h84) (ag_mono (fun c z => by omega) a1.ag)) (fun z => absurd le z)
      have ar : agR (fun c => c = 66) (fun _ => False) (fun _ => False) m m1 := agR_agA (agR_refl _ _ _ _) a1 (fun _ => id)
      subst e3
      refine RR_upd h ar (Or.inr ⟨l1, by rw [e67]; exact q2, fun q hq => ?_⟩) (Or.inl ⟨rfl, by omega, by omega⟩) (Or.inl ⟨rfl, id, by omega, by omega, by omega⟩) (Or.inl ⟨rfl, rfl, by omega, by omega, id⟩) (Or.inl ⟨rfl, rfl, rfl, by omega, by omega, id, id⟩) (Or.inl ⟨rfl, by omega, by omega⟩) (Or.inl fun c z => by omega) (Or.inl ⟨rfl, id, id, id⟩) (Or.inl ⟨rfl, id, by omega⟩) h.2.2.2.2.2.2.2.2.2
      show gridM (upo S2.1 r (some (p.map nI)) q) 40 q (m1.2.1 67) (m1.2.1 66)
      unfold upo
      rw [e67]
      by_cases c : q = r
      · subst c
        rw [if_pos rfl]
        refine ⟨?_, ?_, fun j hj => ?_⟩
        · rw [List.length_map, hpl]
          have := g.1
          rw [List.length_replicate] at this
          exact this
        · rw [List.length_map, hpl]; omega
        · rw [List.length_map, hpl] at hj
          rw [inv, if_pos (by omega), Nat.add_sub_cancel_left, map_gd]
      · rw [if_neg c]
        have gq := q3 q hq
        have hsr : S2.1 q = sR S2 q := rfl
        rw [hsr]
        cases ho : sR S2 q with
        | none => rw [ho] at gq; exact gq
        | some l =>
          rw [ho] at gq
          refine ⟨gq.1, gq.2.1, fun j hj => ?_⟩
          have := gq.2.1
          rw [inv, if_neg (by omega)]
          exact gq.2.2 j hj
    | succ k ih =>
      intro i m1 hi a1 l1 inv
      have nle : ¬ m1.1 65 4 ≤ nI i := by rw [a1.1, h4]; exact nle_ni (by omega) (by omega)
      have e84 : m1.2.1 84 = m.2.1 84 := a1.2.2 84 (by omega)
      have ix : ((40 : Int32) * x1) + nI i = nI (40 * r + i) := by rw [hx]; exact g_ix (cap := 40) (by omega) hr (by omega)
      refine gX7_bestOrder_79 (fun _ => by rw [ix, l1]; exact ni_in (by omega) (by omega)) (fun _ => by rw [e84, hl84]; exact ni_in (by omega) (by omega)) (fun z => absurd z nle) (fun _ m2 e2 => ?_)
      rw [ix, ni_cl (by omega), ni_cl (by omega), e84, h84, map_gd, gd_app (by omega)] at e2
      have x66 : m2.2.1 66 = (m1.2.1 66).set (40 * r + i) (nI (p.getD i 0)) := by rw [e2, pm_rA, if_pos rfl]
      rw [nI_1]
      refine ih (i + 1) m2 (by omega) (by rw [e2]; exact agA_A a1 rfl) (by rw [x66, List.length_set]; exact l1) (fun y => ?_)
      rw [x66, getD_set (by omega), inv]
      by_cases c : y = 40 * r + i
      · rw [if_pos c, if_pos (by omega), c, Nat.add_sub_cancel_left]
      · rw [if_neg c]
        by_cases c2 : 40 * r ≤ y ∧ y < 40 * r + i
        · rw [if_pos c2, if_pos (by omega)]
        · rw [if_neg c2, if_neg (by omega)]
  exact loop n 0 m (by omega) (agA_refl _ _) q1 (fun y => by rw [if_neg (by omega)])
end CURSER
