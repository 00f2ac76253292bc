theorem getD_set {l : List Int32} {j k : Nat} {v : Int32} (hj : j < l.length) : (l.set j v).getD k 0 = if k = j then v else l.getD k 0 := by
  rw [List.getD_eq_getElem?_getD, List.getD_eq_getElem?_getD]
  by_cases h : k = j
  · subst h
    rw [List.getElem?_set_self hj, if_pos rfl]; rfl
  · rw [List.getElem?_set_ne (Ne.symm h), if_neg h]
theorem getD_repl {n i : Nat} {v : Int32} (h : i < n) : (List.replicate n v).getD i 0 = v := by
  simp [h]
theorem RR_tell {S : Sg} {m : pmMem} {v : Int32} (h : RR S m) : RR (tell S v) (pm_setF m 65 19 v) := by
  have h8 := h.2.2.2.2.2.2.2.1
  refine RR_upd h (agR_F (D := fun _ => False) (E := fun k => k = 19) (G := fun _ => False) (agR_refl _ _ _ _) rfl) (Or.inl ⟨rfl, id, id⟩) (Or.inl ⟨rfl, id, id⟩) (Or.inl ⟨rfl, by omega, id, id, id⟩) (Or.inl ⟨rfl, rfl, id, id, by omega⟩) (Or.inl ⟨rfl, rfl, rfl, id, id, by omega, by omega⟩) (Or.inl ⟨rfl, id, id⟩) (Or.inl fun _ _ => id) (Or.inr ⟨?_, h8.2.1, h8.2.2⟩) (Or.inl ⟨rfl, by omega, id⟩) h.2.2.2.2.2.2.2.2.2
  rw [pm_rF, if_pos ⟨rfl, rfl⟩]; rfl
theorem RR_rows {S : Sg} {m m' : pmMem} {R' : Nat → Option (List Int32)} (h : RR S m) (ha : agR (fun c => c = 66 ∨ c = 67) (fun _ => False) (fun _ => False) m m') (hr : rowsR R' m') : RR (R', S.2) m' :=
  RR_upd h ha (Or.inr hr) (Or.inl ⟨rfl, by omega, by omega⟩) (Or.inl ⟨rfl, id, by omega, by omega, by omega⟩) (Or.inl ⟨rfl, rfl, by omega, by omega, id⟩) (Or.inl ⟨rfl, rfl, rfl, by omega, by omega, id, id⟩) (Or.inl ⟨rfl, by omega, by omega⟩) (Or.inl fun c z => by omega) (Or.inl ⟨rfl, id, id, id⟩) (Or.inl ⟨rfl, id, by omega⟩) h.2.2.2.2.2.2.2.2.2
theorem RR_texts {S : Sg} {m m' : pmMem} {T' : Nat → Option (List Int32)} (h : RR S m) (ha : agR (fun c => c = 68 ∨ c = 69) (fun _ => False) (fun _ => False) m m') (hr : textsR T' m') : RR (S.1, T', S.2.2) m' :=
  RR_upd h ha (Or.inl ⟨rfl, by omega, by omega⟩) (Or.inr hr) (Or.inl ⟨rfl, id, by omega, by omega, by omega⟩) (Or.inl ⟨rfl, rfl, by omega, by omega, id⟩) (Or.inl ⟨rfl, rfl, rfl, by omega, by omega, id, id⟩) (Or.inl ⟨rfl, by omega, by omega⟩) (Or.inl fun c z => by omega) (Or.inl ⟨rfl, id, id, id⟩) (Or.inl ⟨rfl, id, by omega⟩) h.2.2.2.2.2.2.2.2.2
section OPR1
variable {d : Nat} {m : pmMem} {Q : Option Value → pmMem → Prop} {S : Sg}
theorem c7_in {v lo hi : Int64} {l1 l3 l5 : Option Value} (kt : lo.toInt ≤ v.toInt → v.toInt ≤ hi.toInt → Q (some (.int 1)) m) (kf : ¬ (lo.toInt ≤ v.toInt ∧ v.toInt ≤ hi.toInt) → Q (some (.int 0)) m) : pm_G d mX7_in 0 [some (.long v), l1, some (.long lo), l3, some (.long hi), l5] [] m Q := by
  refine gX7_in_0 ?_ ?_ ?_ <;> simp only [Int64.lt_iff_toInt_lt]
  · intro h; exact kf (by omega)
  · intro _ h; exact kf (by omega)
  · intro h1 h2; exact kt (by omega) (by omega)
theorem t64 (x : Int32) : x.toInt64.toInt = x.toInt := by simp
theorem n64_0 : (0 : Int64).toInt = 0 := by decide
theorem n64_5 : (5 : Int64).toInt = 5 := by decide
theorem n64_3 : (3 : Int64).toInt = 3 := by decide
theorem nb1 : narrow .boolean (.int (1 : Int32)) = .int 1 := rfl
theorem nb0 : narrow .boolean (.int (0 : Int32)) = .int 0 := rfl
theorem c7_isRow {x : Int32} (kt : ∀ r, idx 6 x = some r → r < 6 → x = nI r → Q (some (.int 1)) m) (kf : idx 6 x = none → Q (some (.int 0)) m) : pm_G (d + 1) mX7_isRow 0 [some (.int x)] [] m Q := by
  refine gX7_isRow_0 (c7_in (fun h1 h2 => ?_) (fun h => ?_))
  · rw [t64, n64_0] at h1
    rw [t64, n64_5] at h2
    obtain ⟨r, a, b, c⟩ := idx_some (n := 6) (x := x) (by omega) (by omega) (by omega)
    exact gX7_isRow_9 nb1 (kt r a b c)
  · rw [t64, n64_0, n64_5] at h
    exact gX7_isRow_9 nb0 (kf (idx_none (by omega)))
theorem c7_isText {x : Int32} (kt : ∀ r, idx 4 x = some r → r < 4 → x = nI r → Q (some (.int 1)) m) (kf : idx 4 x = none → Q (some (.int 0)) m) : pm_G (d + 1) mX7_isText 0 [some (.int x)] [] m Q := by
  refine gX7_isText_0 (c7_in (fun h1 h2 => ?_) (fun h => ?_))
  · rw [t64, n64_0] at h1
    rw [t64, n64_3] at h2
    obtain ⟨r, a, b, c⟩ := idx_some (n := 4) (x := x) (by omega) (by omega) (by omega)
    exact gX7_isText_9 nb1 (kt r a b c)
  · rw [t64, n64_0, n64_3] at h
    exact gX7_isText_9 nb0 (kf (idx_none (by omega)))
theorem sub1 {n : Nat} (hn : n < 1000) : (nI n - 1).toInt = (n : Int) - 1 := by
  have key : ∀ n, n < 1000 → (nI n - 1).toInt = (n : Int) - 1 := by
    intro n hn
    cases n with
    | zero => decide
    | succ k => rw [nI_pred, nI_toInt (by omega)]; omega
  exact key n hn
theorem c7_isHill {x : Int32} {L : Ld} (hL : landR L m) (kt : ∀ r, idx L.1 x = some r → r < L.1 → x = nI r → Q (some (.int 1)) m) (kf : idx L.1 x = none → Q (some (.int 0)) m) : pm_G (d + 1) mX7_isHill 0 [some (.ref 65), some (.int x)] [] m Q := by
  have h6 := hL.2.1
  have e : ((m.1 65 4) - 1).toInt = (L.1 : Int) - 1 := by rw [hL.1]; exact sub1 (by omega)
  refine gX7_isHill_0 (c7_in (fun h1 h2 => ?_) (fun h => ?_))
  · rw [t64, n64_0] at h1
    rw [t64, t64, e] at h2
    obtain ⟨r, a, b, c⟩ := idx_some (n := L.1) (x := x) (by omega) (by omega) (by omega)
    exact gX7_isHill_13 nb1 (kt r a b c)
  · rw [t64, n64_0, t64, e] at h
    exact gX7_isHill_13 nb0 (kf (idx_none (by omega)))
theorem c7_find {f : Nat} (hf : 1 ≤ f) (hf2 : f ≤ 5) (h : RR S m) (K : okR (-3, find S f) m Q) : pm_G d mX7_find 0 [some (.ref 65), some (.int (nI f))] [] m Q := by
  have h9 := h.2.2.2.2.2.2.2.2.1
  refine gX7_find_0 (fun m1 e1 => ?_) (fun m1 e1 m2 e2 => ?_)
  · rw [e1]
    show vp_in (nI f) (m.2.1 81).length
    rw [h9.2.1, h9.2.2]; exact ni_in (by omega) (by omega)
  · have a2 : agR (fun c => c = 81) (fun k => k = 22) (fun _ => False) m m2 := by rw [e2, e1]; exact agR_A (agR_F (agR_refl _ _ _ _) rfl) rfl
    refine K m2 ?_ (agR_ag a2 (by omega))
    refine RR_upd h a2 (Or.inl ⟨rfl, by omega, by omega⟩) (Or.inl ⟨rfl, by omega, by omega⟩) (Or.inl ⟨rfl, by omega, by omega, by omega, by omega⟩) (Or.inl ⟨rfl, rfl, by omega, by omega, by omega⟩) (Or.inl ⟨rfl, rfl, rfl, by omega, by omega, by omega, by omega⟩) (Or.inl ⟨rfl, by omega, by omega⟩) (Or.inl fun c z => by omega) (Or.inl ⟨rfl, by omega, id, id⟩) (Or.inr ⟨?_, ?_, ?_⟩) h.2.2.2.2.2.2.2.2.2
    · rw [e2, e1]; show (pm_setF m 65 22 (nI f)).1 65 22 = _; rw [pm_rF, if_pos ⟨rfl, rfl⟩]; rfl
    · rw [e2, pm_rA, if_pos rfl, e1, ni_cl (by omega)]
      show (m.2.1 81).set f ((m.2.1 81).getD f 0 + 1) = _
      rw [h9.2.1]; rfl
    · show ((sFnd S).2.set f _).length = 6
      rw [List.length_set]; exact h9.2.2
theorem i0le {n : Nat} (hn : n < 1000) : (0 : Int32) ≤ nI n := (ni_le (a := 0) (by omega) (by omega)).mpr (by omega)
theorem c7_wrongAt {r : Nat} {x i : Int32} (h : RR S m) (hr : r < 6) (hx : x = nI r) (K : Q (some (.int (nI (placeF (sR S r) i)))) m) : pm_G (d + 1) mX7_wrongAt 0 [some (.ref 65), some (.int x), some (.int i)] [] m Q := by
  obtain ⟨q1, q2, q3⟩ := h.1
  have g := q3 r hr
  have hin : vp_in x (m.2.1 67).length := by rw [hx, q2]; exact ni_in hr (by omega)
  have hcl : x.toNatClampNeg = r := by rw [hx]; exact ni_cl (by omega)
  refine gX7_wrongAt_0 (fun _ => hin) hin ?_ ?_ <;> rw [hcl]
  · intro h0
    cases ho : sR S r with
    | none =>
      rw [ho] at g
      rw [show (m.2.1 67).getD r 0 = -1 from g] at h0
      exact absurd h0 (by decide)
    | some l =>
      rw [ho] at g K
      rw [g.1]
      have gl := g.2.1
      have e := sub1 (n := l.length) (by omega)
      refine c7_in (fun h1 h2 => ?_) (fun hn => ?_)
      · rw [t64, n64_0] at h1
        rw [t64, t64, e] at h2
        obtain ⟨j, a, b, c⟩ := idx_some (n := l.length) (x := i) (by omega) (by omega) (by omega)
        simp only [placeF, a] at K
        exact gX7_wrongAt_28 (fun z => absurd z (by decide)) (fun _ => K)
      · rw [t64, n64_0, t64, e] at hn
        simp only [placeF, idx_none (n := l.length) (x := i) (by omega)] at K
        exact gX7_wrongAt_28 (fun _ => K) (fun z => absurd rfl z)
  · intro h0
    cases ho : sR S r with
    | none => rw [ho] at K; exact K
    | some l =>
      rw [ho] at g
      rw [g.1] at h0
      exact absurd (i0le (by have := g.2.1; omega)) h0
/-- an index of a grid -/
theorem g_ix {cap r i : Nat} (hc : cap ≤ 60) (hr : r < 6) (hi : i < 60) : (nI cap * nI r) + nI i = nI (cap * r + i) := by rw [pk_mul, nI_add]
theorem R_at {x i : Int32} (h : RR S m) (K : okR (o_at S x i) m Q) : pm_G (d + 3) mX7_at 0 [some (.ref 65), some (.int x), some (.int i)] [] m Q := by
  obtain ⟨q1, q2, q3⟩ := h.1
  refine gX7_at_0 (c7_isRow (fun r hi hr hx => ?_) (fun hi => ?_))
  · simp only [o_at, hi] at K
    refine gX7_at_4 (fun _ => c7_wrongAt h hr hx ?_) (fun z => absurd z (by decide))
    have g := q3 r hr
    cases ho : sR S r with
    | none =>
      rw [ho] at K
      refine gX7_at_15 (fun z => absurd z (show ¬ nI 1 = 0 by decide)) (fun z => absurd z (show ¬ nI 1 = 0 by decide)) (fun _ => c7_wrongAt h hr hx ?_)
      rw [ho]
      exact gX7_at_25 (c7_find (f := 1) (by omega) (by omega) h (fun m' a b => gX7_at_28 (K m' a b)))
    | some l =>
      rw [ho] at g K
      cases hj : idx l.length i with
      | none =>
        simp only [hj] at K
        simp only [placeF, hj]
        refine gX7_at_15 (fun z => absurd z (by decide)) (fun z => absurd z (by decide)) (fun _ => c7_wrongAt h hr hx ?_)
        simp only [ho, placeF, hj]
        exact gX7_at_25 (c7_find (f := 2) (by omega) (by omega) h (fun m' a b => gX7_at_28 (K m' a b)))
      | some j =>
        simp only [hj] at K
        simp only [placeF, hj]
        have gl := g.2.1
        have hij := idx_spec (n := l.length) (by omega) hj
        have ix : ((40 : Int32) * x) + i = nI (40 * r + j) := by rw [hx, hij.2]; exact g_ix (cap := 40) (by omega) hr (by omega)
        refine gX7_at_15 (fun _ => ?_) (fun _ m1 e1 => ?_) (fun z => absurd rfl z)
        · rw [ix, q1]; exact ni_in (by omega) (by omega)
        · rw [ix, ni_cl (by omega), g.2.2 j hij.1] at e1
          rw [e1]
          exact K _ (RR_tell h) (agR_ag (agR_F (D := fun _ => False) (E := fun _ => True) (G := fun _ => False) (agR_refl _ _ _ _) trivial) (fun c z => z.elim))
  · simp only [o_at, hi] at K
    exact gX7_at_4 (fun z => absurd rfl z) (fun _ => K m h (ag_refl _ _))
theorem R_lay {x i v : Int32} (h : RR S m) (K : okR (o_lay S x i v) m Q) : pm_G (d + 3) mX7_lay 0 [some (.ref 65), some (.int x), some (.int i), some (.int v)] [] m Q := by
  obtain ⟨q1, q2, q3⟩ := h.1
  refine gX7_lay_0 (c7_isRow (fun r hi hr hx => ?_) (fun hi => ?_))
  · simp only [o_lay, hi] at K
    refine gX7_lay_4 (fun _ => c7_wrongAt h hr hx ?_) (fun z => absurd z (by decide))
    have g := q3 r hr
    cases ho : sR S r with
    | none =>
      rw [ho] at K
      refine gX7_lay_15 (fun z => absurd z (show ¬ nI 1 = 0 by decide)) (fun z => absurd z (show ¬ nI 1 = 0 by decide)) (fun z => absurd z (show ¬ nI 1 = 0 by decide)) (fun _ => c7_wrongAt h hr hx ?_)
      rw [ho]
      exact gX7_lay_25 (c7_find (f := 1) (by omega) (by omega) h (fun m' a b => gX7_lay_28 (K m' a b)))
    | some l =>
      rw [ho] at g K
      cases hj : idx l.length i with
      | none =>
        simp only [hj] at K
        simp only [placeF, hj]
        refine gX7_lay_15 (fun z => absurd z (by decide)) (fun z => absurd z (by decide)) (fun z => absurd z (by decide)) (fun _ => c7_wrongAt h hr hx ?_)
        simp only [ho, placeF, hj]
        exact gX7_lay_25 (c7_find (f := 2) (by omega) (by omega) h (fun m' a b => gX7_lay_28 (K m' a b)))
      | some j =>
        simp only [hj] at K
        simp only [placeF, hj]
        have gl := g.2.1
        have hij := idx_spec (n := l.length) (by omega) hj
        have ix : ((40 : Int32) * x) + i = nI (40 * r + j) := by rw [hx, hij.2]; exact g_ix (cap := 40) (by omega) hr (by omega)
        refine gX7_lay_15 (fun _ m1 e1 => ?_) (fun _ => ?_) (fun _ m1 e1 m2 e2 => ?_) (fun z => absurd rfl z)
        · rw [ix, e1]
          show vp_in _ (m.2.1 66).length
          rw [q1]; exact ni_in (by omega) (by omega)
        · rw [ix, q1]; exact ni_in (by omega) (by omega)
        · rw [ix, ni_cl (by omega), g.2.2 j hij.1] at e1
          rw [ix, ni_cl (by omega)] at e2
          have h1 : RR (tell S (l.getD j 0)) m1 := by rw [e1]; exact RR_tell h
          have a1 : agR (fun _ => False) (fun _ => True) (fun _ => False) m m1 := by rw [e1]; exact agR_F (agR_refl _ _ _ _) trivial
          have a2 : agR (fun c => c = 66 ∨ c = 67) (fun _ => False) (fun _ => False) m1 m2 := by rw [e2]; exact agR_A (agR_refl _ _ _ _) (Or.inl rfl)
          obtain ⟨p1, p2, p3⟩ := h1.1
          refine K m2 (RR_rows h1 a2 ⟨?_, ?_, ?_⟩) (ag_trans (agR_ag a1 (fun c z => z.elim)) (agR_ag a2 (by omega)))
          · rw [e2, pm_rA, if_pos rfl, List.length_set]; exact p1
          · rw [e2, pm_rA, if_neg (by omega)]; exact p2
          · intro t ht
            rw [e2, pm_rA, if_neg (by omega), pm_rA, if_pos rfl]
            show gridM (upo (sR S) r (some (l.set j v)) t) 40 t (m1.2.1 67) ((m1.2.1 66).set (40 * r + j) v)
            have pt := p3 t ht
            unfold upo
            by_cases e : t = r
            · subst e
              rw [if_pos rfl]
              rw [show sR (tell S (l.getD j 0)) t = some l from ho] at pt
              refine ⟨by rw [List.length_set]; exact pt.1, by rw [List.length_set]; exact pt.2.1, fun q hq => ?_⟩
              rw [List.length_set] at hq
              rw [getD_set (by rw [p1]; omega), getD_set hij.1, pt.2.2 q hq]
              by_cases z : q = j
              · rw [if_pos (by omega), if_pos z]
              · rw [if_neg (by omega), if_neg z]
            · rw [if_neg e]
              rw [show sR (tell S (l.getD j 0)) t = sR S t from rfl] at pt
              cases hs : sR S t with
              | none => rw [hs] at pt; exact pt
              | some k =>
                rw [hs] at pt
                have pl := pt.2.1
                refine ⟨pt.1, pt.2.1, fun q hq => ?_⟩
                rw [getD_set (by rw [p1]; omega), if_neg (by omega)]
                exact pt.2.2 q hq
  · simp only [o_lay, hi] at K
    exact gX7_lay_4 (fun z => absurd rfl z) (fun _ => K m h (ag_refl _ _))
end OPR1
