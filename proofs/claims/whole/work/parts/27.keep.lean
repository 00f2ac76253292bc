theorem take_getD {l : List Int32} {ds : List Nat} {f : Nat → Int32} (h : l.take ds.length = ds.map f) (hl : ds.length ≤ l.length) {i : Nat} (hi : i < ds.length) : l.getD i 0 = f (ds.getD i 0) := by
  have e : (l.take ds.length)[i]? = (ds.map f)[i]? := by rw [h]
  rw [List.getElem?_take_of_lt hi, List.getElem?_map] at e
  rw [List.getD_eq_getElem?_getD, e, List.getD_eq_getElem?_getD, List.getElem?_eq_getElem hi]
  rfl
theorem getD_take {l : List Int32} {ds : List Nat} {f : Nat → Int32} (hl : ds.length ≤ l.length) (h : ∀ i, i < ds.length → l.getD i 0 = f (ds.getD i 0)) : l.take ds.length = ds.map f := by
  apply List.ext_getElem
  · rw [List.length_take, List.length_map]; omega
  · intro i h1 h2
    rw [List.length_map] at h2
    rw [List.getElem_take, List.getElem_map]
    have := h i h2
    rw [List.getD_eq_getElem?_getD, List.getElem?_eq_getElem (by omega), List.getD_eq_getElem?_getD, List.getElem?_eq_getElem h2] at this
    exact this
section KEEP
variable {d : Nat} {m : pmMem} {Q : Option Value → pmMem → Prop} {S : Sg} {L : Ld} {s : Cs}
theorem keepL {k : Nat} {x : Int32} (hk : k < 3) (hx : x = nI k) : ∀ (t j : Nat) (m : pmMem), j + t = 40 → (m.2.1 75).length = 120 → (m.2.1 74).length = 40 → (∀ m', agR (fun c => c = 75 ∨ c = 76) (fun _ => False) (fun _ => False) m m' → m'.2.1 76 = m.2.1 76 → (m'.2.1 75).length = 120 → (∀ p, (m'.2.1 75).getD p 0 = if 40 * k + j ≤ p ∧ p < 40 * k + 40 then (m.2.1 74).getD (p - 40 * k) 0 else (m.2.1 75).getD p 0) → Q (some (.int (m.1 65 10))) m') → pm_G d mX7_keep 36 [some (.ref 65), some (.int x), some (.int (nI j))] [] m Q := by
  intro t
  induction t with
  | zero =>
    intro j m hj l75 l74 K
    have e : ((40 : Int32) ≤ nI j) ↔ 40 ≤ j := ni_le (a := 40) (by omega) (by omega)
    refine gX7_keep_36 ?_ ?_ ?_ ?_ <;> simp only [e]
    · intro z; omega
    · intro z; omega
    · intro _; exact K m (agR_refl _ _ _ _) rfl l75 (fun p => by rw [if_neg (by omega)])
    · intro z; omega
  | succ t ih =>
    intro j m hj l75 l74 K
    have e : ((40 : Int32) ≤ nI j) ↔ 40 ≤ j := ni_le (a := 40) (by omega) (by omega)
    have ix : ((40 : Int32) * x) + nI j = nI (40 * k + j) := by rw [hx]; exact g_ix (cap := 40) (by omega) (by omega) (by omega)
    refine gX7_keep_36 ?_ ?_ ?_ ?_ <;> simp only [e]
    · intro _; rw [ix, l75]; exact ni_in (by omega) (by omega)
    · intro _; rw [l74]; exact ni_in (by omega) (by omega)
    · intro z; omega
    · intro _ m1 e1
      rw [ix, ni_cl (by omega), ni_cl (by omega)] at e1
      rw [nI_1]
      have a1 : agR (fun c => c = 75 ∨ c = 76) (fun _ => False) (fun _ => False) m m1 := by rw [e1]; exact agR_A (agR_refl _ _ _ _) (Or.inl rfl)
      have e75 : m1.2.1 75 = (m.2.1 75).set (40 * k + j) ((m.2.1 74).getD j 0) := by rw [e1, pm_rA, if_pos rfl]
      have e74 : m1.2.1 74 = m.2.1 74 := a1.2.1 74 (by omega)
      refine ih (j + 1) m1 (by omega) (by rw [e75, List.length_set]; exact l75) (by rw [e74]; exact l74) (fun m' a b c dd => ?_)
      rw [a1.2.2.1 10 id]
      refine K m' (agR_trans a1 a) (b.trans (by rw [e1, pm_rA, if_neg (by omega)])) c (fun p => ?_)
      rw [dd p, e75, e74, getD_set (by rw [l75]; omega)]
      by_cases z : p = 40 * k + j
      · rw [if_neg (by omega), if_pos z, if_pos (by omega), z, Nat.add_sub_cancel_left]
      · rw [if_neg z]
        by_cases w : 40 * k + (j + 1) ≤ p ∧ p < 40 * k + 40
        · rw [if_pos w, if_pos (by omega)]
        · rw [if_neg w, if_neg (by omega)]
theorem R_keep {x : Int32} {l2 : Option Value} (h : RR S m) (K : okR (o_keep S x) m Q) : pm_G (d + 7) mX7_keep 0 [some (.ref 65), some (.int x), l2] [] m Q := by
  have hL := h.2.2.1
  have hL6 := hL.2.1
  have hC := h.2.2.2.1
  have hK := h.2.2.2.2.2.1
  have h10 := h.2.2.2.2.2.2.2.2.2
  have h40 := hC.2.2.2.1
  have e0 : (m.1 65 4 = 0) ↔ (sL S).1 = 0 := by rw [hL.1]; exact ni_eq (b := 0) (by omega) (by omega)
  refine gX7_keep_0 (c7_in0 (n := 3) (by omega) (t64 x) rfl rfl (fun k hi hk hx => ?_) (fun hi => ?_))
  · simp only [o_keep, hi] at K
    refine gX7_keep_9 (fun _ _ => by rw [hx, hK.2.1]; exact ni_in hk (by omega)) ?_ ?_ (fun z => absurd z (by decide)) <;> simp only [e0]
    · intro _ hz m1 e1
      rw [if_neg hz] at K
      rw [hx, ni_cl (by omega), hC.2.2.1] at e1
      have a1 : agR (fun c => c = 75 ∨ c = 76) (fun _ => False) (fun _ => False) m m1 := by rw [e1]; exact agR_A (agR_refl _ _ _ _) (Or.inr rfl)
      have e76 : m1.2.1 76 = (m.2.1 76).set k (nI (sD S).length) := by rw [e1, pm_rA, if_pos rfl]
      have e75 : m1.2.1 75 = m.2.1 75 := by rw [e1, pm_rA, if_neg (by omega)]
      have e74 : m1.2.1 74 = m.2.1 74 := by rw [e1, pm_rA, if_neg (by omega)]
      refine keepL hk hx 40 0 m1 (by omega) (by rw [e75]; exact hK.1) (by rw [e74]; exact hC.2.2.2.2.1) (fun m' a b c dd => ?_)
      rw [a1.2.2.1 10 id, hC.2.2.1]
      have a2 := agR_trans a1 a
      refine K m' ?_ (agR_ag a2 (by omega))
      rw [e75, e74] at dd
      rw [e76] at b
      refine RR_upd h a2 (Or.inl ⟨rfl, by omega, by omega⟩) (Or.inl ⟨rfl, by omega, by omega⟩) (Or.inl ⟨rfl, id, by omega, by omega, by omega⟩) (Or.inl ⟨rfl, rfl, by omega, by omega, id⟩) (Or.inl ⟨rfl, rfl, rfl, by omega, by omega, id, id⟩) (Or.inr ⟨c, ?_, ?_⟩) (Or.inl fun c z => by omega) (Or.inl ⟨rfl, id, id, id⟩) (Or.inl ⟨rfl, id, by omega⟩) ⟨h10.1, ?_, fun z => absurd z hz⟩
      · rw [b, List.length_set]; exact hK.2.1
      · intro q hq
        show match upo (sK S) k (some (sD S)) q with | none => _ | some ds => _
        unfold upo
        by_cases e : q = k
        · subst e
          rw [if_pos rfl]
          refine ⟨?_, h40, fun i hi => ?_⟩
          · rw [b, getD_set (by rw [hK.2.1]; exact hq), if_pos rfl]
          · rw [dd, if_pos (by omega), Nat.add_sub_cancel_left]
            exact take_getD (f := fun c => nI (encR c)) hC.2.2.2.2.2 (by rw [hC.2.2.2.2.1]; exact h40) hi
        · rw [if_neg e]
          have g := hK.2.2 q hq
          have eg : (m'.2.1 76).getD q 0 = (m.2.1 76).getD q 0 := by rw [b, getD_set (by rw [hK.2.1]; exact hk), if_neg e]
          cases ho : sK S q with
          | none => rw [ho] at g; show (m'.2.1 76).getD q 0 = -1; rw [eg]; exact g
          | some ds =>
            rw [ho] at g
            refine ⟨by rw [eg]; exact g.1, g.2.1, fun i hi => ?_⟩
            rw [dd, if_neg (by have := g.2.1; omega)]
            exact g.2.2 i hi
      · intro q ds hq
        show ∀ x ∈ ds, okDeed (sL S) x
        have hq : upo (sK S) k (some (sD S)) q = some ds := hq
        unfold upo at hq
        by_cases e : q = k
        · rw [if_pos e] at hq; cases hq; exact h10.1
        · rw [if_neg e] at hq; exact h10.2.1 q ds hq
    · intro _ hz
      rw [if_pos hz] at K
      exact K m h (ag_refl _ _)
  · simp only [o_keep, hi] at K
    exact gX7_keep_9 (fun z => absurd rfl z) (fun z => absurd rfl z) (fun z => absurd rfl z) (fun _ => K m h (ag_refl _ _))
theorem onL {k : Nat} {x : Int32} (hk : k < 3) (hx : x = nI k) : ∀ (t j : Nat) (m : pmMem), j + t = 40 → (m.2.1 75).length = 120 → (m.2.1 74).length = 40 → (∀ m', agR (fun c => c = 74) (fun k => k = 10) (fun _ => False) m m' → (m'.2.1 74).length = 40 → (∀ p, p < 40 → (m'.2.1 74).getD p 0 = if j ≤ p then (m.2.1 75).getD (40 * k + p) 0 else (m.2.1 74).getD p 0) → m'.1 = m.1 → pm_G d mX7_goThrough 0 [some (.ref 65), none, none, none] [] m' (fun r m' => pm_G (d + 1) mX7_on 74 [some (.ref 65), some (.int x), some (.int (nI 40))] (pm_psh r []) m' Q)) → pm_G (d + 1) mX7_on 41 [some (.ref 65), some (.int x), some (.int (nI j))] [] m Q := by
  intro t
  induction t with
  | zero =>
    intro j m hj l75 l74 K
    have e : ((40 : Int32) ≤ nI j) ↔ 40 ≤ j := ni_le (a := 40) (by omega) (by omega)
    refine gX7_on_41 ?_ ?_ ?_ ?_ <;> simp only [e]
    · intro z; omega
    · intro z; omega
    · intro _
      have : j = 40 := by omega
      subst this
      exact K m (agR_refl _ _ _ _) l74 (fun p hp => by rw [if_neg (by omega)]) rfl
    · intro z; omega
  | succ t ih =>
    intro j m hj l75 l74 K
    have e : ((40 : Int32) ≤ nI j) ↔ 40 ≤ j := ni_le (a := 40) (by omega) (by omega)
    have ix : ((40 : Int32) * x) + nI j = nI (40 * k + j) := by rw [hx]; exact g_ix (cap := 40) (by omega) (by omega) (by omega)
    refine gX7_on_41 ?_ ?_ ?_ ?_ <;> simp only [e]
    · intro _; rw [l74]; exact ni_in (by omega) (by omega)
    · intro _; rw [ix, l75]; exact ni_in (by omega) (by omega)
    · intro z; omega
    · intro _ m1 e1
      rw [ix, ni_cl (by omega), ni_cl (by omega)] at e1
      rw [nI_1]
      have a1 : agR (fun c => c = 74) (fun k => k = 10) (fun _ => False) m m1 := by rw [e1]; exact agR_A (agR_refl _ _ _ _) rfl
      have e74 : m1.2.1 74 = (m.2.1 74).set j ((m.2.1 75).getD (40 * k + j) 0) := by rw [e1, pm_rA, if_pos rfl]
      have e75 : m1.2.1 75 = m.2.1 75 := a1.2.1 75 (by omega)
      have f1 : m1.1 = m.1 := by rw [e1]; rfl
      refine ih (j + 1) m1 (by omega) (by rw [e75]; exact l75) (by rw [e74, List.length_set]; exact l74) (fun m' a b c dd => ?_)
      refine K m' (agR_trans a1 a) b (fun p hp => ?_) (dd.trans f1)
      rw [c p hp, e75, e74, getD_set (by rw [l74]; omega)]
      by_cases z : p = j
      · rw [if_neg (by omega), if_pos z, if_pos (by omega), z]
      · rw [if_neg z]
        by_cases w : j + 1 ≤ p
        · rw [if_pos w, if_pos (by omega)]
        · rw [if_neg w, if_neg (by omega)]
theorem R_on {x : Int32} {l2 : Option Value} (h : RR S m) (K : okR (o_on S x) m Q) : pm_G (d + 7) mX7_on 0 [some (.ref 65), some (.int x), l2] [] m Q := by
  have hC := h.2.2.2.1
  have hK := h.2.2.2.2.2.1
  have h10 := h.2.2.2.2.2.2.2.2.2
  refine gX7_on_0 (c7_in0 (n := 3) (by omega) (t64 x) rfl rfl (fun k hi hk hx => ?_) (fun hi => ?_))
  · simp only [o_on, hi] at K
    have hcl : x.toNatClampNeg = k := by rw [hx]; exact ni_cl (by omega)
    have hin : vp_in x (m.2.1 76).length := by rw [hx, hK.2.1]; exact ni_in hk (by omega)
    have g := hK.2.2 k hk
    refine gX7_on_9 (fun _ _ => hin) (fun _ => hin) ?_ ?_ (fun z => absurd z (by decide)) <;> rw [hcl]
    · intro _ hz m1 e1
      cases ho : sK S k with
      | none =>
        rw [ho] at g
        rw [show (m.2.1 76).getD k 0 = -1 from g] at hz
        exact absurd hz (by decide)
      | some ds =>
        rw [ho] at g K
        rw [g.1] at e1
        have gl := g.2.1
        have a1 : agR (fun c => c = 74) (fun k => k = 10) (fun _ => False) m m1 := by rw [e1]; exact agR_F (agR_refl _ _ _ _) rfl
        refine onL hk hx 40 0 m1 (by omega) (by rw [e1]; exact hK.1) (by rw [e1]; exact hC.2.2.2.2.1) (fun m' a b c dd => ?_)
        have a2 := agR_trans a1 a
        have f10 : m'.1 65 10 = nI ds.length := by rw [dd, e1, pm_rF, if_pos ⟨rfl, rfl⟩]
        refine c7_goS h a2 (ds := ds) ⟨?_, hC.2.1, f10, gl, b, ?_⟩ (h10.2.1 k ds ho) (fun z => by rw [(h10.2.2 z).2 k] at ho; cases ho) (fun m2 q1 q2 q3 q4 => gX7_on_74 ?_)
        · rw [a2.2.1 73 (by omega)]; exact hC.1
        · refine getD_take (f := fun c => nI (encR c)) (by rw [b]; exact gl) (fun i hi => ?_)
          rw [c i (by omega), if_pos (by omega), e1]
          exact g.2.2 i hi
        · rw [q2]; exact K m2 q1 q4
    · intro _ hz
      cases ho : sK S k with
      | none =>
        rw [ho] at K
        exact c7_find (f := 1) (by omega) (by omega) h (fun m' g1 g2 => gX7_on_28 (K m' g1 g2))
      | some ds =>
        rw [ho] at g
        rw [g.1] at hz
        exact absurd (i0le (by have := g.2.1; omega)) hz
  · simp only [o_on, hi] at K
    exact gX7_on_9 (fun z => absurd rfl z) (fun z => absurd rfl z) (fun z => absurd rfl z) (fun z => absurd rfl z) (fun _ => K m h (ag_refl _ _))
end KEEP
