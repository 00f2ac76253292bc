theorem ords_ok : ∀ n, n < 7 → 0 < n → (ords n ≠ [] ∧ (ords n).length ≤ 720 ∧ (ords n).all (fun p => decide (p.length = n) && p.all (fun x => decide (x < n))) = true) := by
  decide +kernel
theorem wgh_some {L : Ld} {s : Cs} {t : Nat} {W : OW} {p : List Nat} : (wgh L s t W p).1 ≠ none ∧ (wgh L s t W p).2.1 ≠ none := by
  have a : ∀ v, (wA W v p).1 ≠ none := fun v => by
    unfold wA
    by_cases c : upW W.1 v = true
    · rw [if_pos c]; simp
    · rw [if_neg c]
      intro z
      rw [z] at c
      exact c rfl
  have b : ∀ W v, (wB W v p).1 = W.1 ∧ (wB W v p).2.1 ≠ none := fun W v => by
    unfold wB
    by_cases c : dnW W.2.1 v = true
    · rw [if_pos c]; simp
    · rw [if_neg c]
      refine ⟨rfl, fun z => ?_⟩
      rw [z] at c
      exact c rfl
  have c : ∀ W v x, (wC W t v x).1 = W.1 ∧ (wC W t v x).2.1 = W.2.1 := fun W v x => by
    unfold wC; split <;> exact ⟨rfl, rfl⟩
  unfold wgh
  rw [(c _ _ _).1, (c _ _ _).2, (b _ _).1]
  exact ⟨a _, (b _ _).2⟩
theorem fold_some {L : Ld} {s : Cs} {t : Nat} : ∀ (l : List (List Nat)) (W : OW), l ≠ [] ∨ (W.1 ≠ none ∧ W.2.1 ≠ none) → (l.foldl (wgh L s t) W).1 ≠ none ∧ (l.foldl (wgh L s t) W).2.1 ≠ none
  | [], W, h => by rcases h with h | h; exact absurd rfl h; exact h
  | p :: l, W, _ => fold_some l (wgh L s t W p) (Or.inr wgh_some)
theorem wgh_found {L : Ld} {s : Cs} {t : Nat} {W : OW} {p : List Nat} : (wgh L s t W p).2.2.1 ≤ W.2.2.1 + 1 := by
  have a : ∀ v, (wA W v p).2.2.1 = W.2.2.1 := fun v => by unfold wA; split <;> rfl
  have b : ∀ W v, (wB W v p).2.2.1 = W.2.2.1 := fun W v => by unfold wB; split <;> rfl
  unfold wgh wC
  split
  · show _ + 1 ≤ _; rw [b, a]; omega
  · rw [b, a]; omega
theorem fold_found {L : Ld} {s : Cs} {t : Nat} : ∀ (l : List (List Nat)) (W : OW), (l.foldl (wgh L s t) W).2.2.1 ≤ W.2.2.1 + l.length
  | [], W => by simp
  | p :: l, W => by
    have a := fold_found (L := L) (s := s) (t := t) l (wgh L s t W p)
    have b := wgh_found (L := L) (s := s) (t := t) (W := W) (p := p)
    rw [List.foldl_cons, List.length_cons]
    omega
def o_curse (S : Sg) (x : Int32) : Int32 × Sg := match idx 6 x with
  | none => (-1, S)
  | some r => if (sL S).1 = 0 then (-4, S) else match (ordW (sL S) (sS S) 0).1 with
    | none => (-1, S)
    | some v => (nI v.1, setR S r (some (v.2.map nI)))
def o_spare (S : Sg) (x : Int32) : Int32 × Sg := match idx 6 x with
  | none => (-1, S)
  | some r => if (sL S).1 = 0 then (-4, S) else match (ordW (sL S) (sS S) 0).2.1 with
    | none => (-1, S)
    | some v => (nI v.1, setR S r (some (v.2.map nI)))
def o_orders (S : Sg) (x : Int32) : Int32 × Sg := match idx 13 x with
  | none => (-1, S)
  | some t => if (sL S).1 = 0 then (-4, S) else (1, tellP (tell S (if (ordW (sL S) (sS S) t).2.2.1 = 0 then 0 else nI (ordW (sL S) (sS S) t).2.2.2)) (lN (ordW (sL S) (sS S) t).2.2.1) (lN 1))
theorem tellQ_1 {S : Sg} {a : Nat} : tellQ S a 1 = tellP S (lN a) (lN 1) := by
  unfold tellQ; rw [Nat.gcd_one_right, Nat.div_one, Nat.div_one]
section CURSEC
variable {d : Nat} {m : pmMem} {Q : Option Value → pmMem → Prop} {S : Sg}
theorem ordW_some {L : Ld} {s : Cs} {t : Nat} (h : L.1 ≤ 6) (h0 : L.1 ≠ 0) : (ordW L s t).1 ≠ none ∧ (ordW L s t).2.1 ≠ none := fold_some _ _ (Or.inl (ords_ok L.1 (by omega) (by omega)).1)
theorem ordW_found {L : Ld} {s : Cs} {t : Nat} (h : L.1 ≤ 6) (h0 : L.1 ≠ 0) : (ordW L s t).2.2.1 ≤ 720 := by
  have a := fold_found (L := L) (s := s) (t := t) (ords L.1) W0
  have b := (ords_ok L.1 (by omega) (by omega)).2.1
  have : (ordW L s t).2.2.1 ≤ W0.2.2.1 + (ords L.1).length := a
  have w0 : W0.2.2.1 = 0 := rfl
  omega
theorem C_curse {x : Int32} (h : RC S m) (K : okC (o_curse S x) m Q) : pm_G (d + 16) mX6_curse 0 [some (.ref 0), some (.int x)] [] m Q := by
  have hL := h.2.2.1
  refine gX6_curse_0 (c_isRow (fun r hi hr hx => ?_) (fun hi => ?_))
  · simp only [o_curse, hi] at K
    refine gX6_curse_4 (fun _ => c_hasNoHills hL (fun hz => ?_) (fun hz => ?_)) (fun z => absurd z (by decide))
    · rw [if_pos hz] at K
      exact gX6_curse_13 (fun z => absurd z (by decide)) (fun _ => K m h (ag_refl _ _))
    · rw [if_neg hz] at K
      refine gX6_curse_13 (fun _ => c_search (t := 0) h (by omega) (fun m1 h1 s1 a1 => ?_)) (fun z => absurd rfl z)
      have w := s1.2.2.2.2.2.2.1
      cases e : (ordW (sL S) (sS S) 0).1 with
      | none => exact absurd e (ordW_some hL.2.1 hz).1
      | some v =>
        rw [e] at K w
        obtain ⟨w1, w2, w3, w4⟩ := w
        refine gX6_curse_31 (by rw [hx]; exact ni_in (n := 6) hr (by omega)) ?_
        rw [hx, ra_row hr, h1.2.2.1.1]
        have l30 : (m1.2.1 30).length = 6 := s1.2.2.2.1.2.2.2.1
        refine c_takeAnew (n := (sL S).1) (kd_row hr) rfl (h1.1 r hr) (by omega) rfl (by rw [l30]; exact hL.2.1) (by have := hL.2.1; omega) (by omega) (by omega) (fun m2 g1 g2 => gX6_curse_54 ?_)
        rw [w4] at g1
        have e8 : m2.1 26 8 = nI v.1 := by rw [(g2 26 (by unfold shS; omega)).1]; exact w1
        rw [e8]
        exact K m2 (RC_row h1 hr g2 g1) (ag_trans a1 (sh65 (by omega) g2))
  · simp only [o_curse, hi] at K
    exact gX6_curse_4 (fun z => absurd rfl z) (fun _ => K m h (ag_refl _ _))
theorem C_spare {x : Int32} (h : RC S m) (K : okC (o_spare S x) m Q) : pm_G (d + 16) mX6_spare 0 [some (.ref 0), some (.int x)] [] m Q := by
  have hL := h.2.2.1
  refine gX6_spare_0 (c_isRow (fun r hi hr hx => ?_) (fun hi => ?_))
  · simp only [o_spare, hi] at K
    refine gX6_spare_4 (fun _ => c_hasNoHills hL (fun hz => ?_) (fun hz => ?_)) (fun z => absurd z (by decide))
    · rw [if_pos hz] at K
      exact gX6_spare_13 (fun z => absurd z (by decide)) (fun _ => K m h (ag_refl _ _))
    · rw [if_neg hz] at K
      refine gX6_spare_13 (fun _ => c_search (t := 0) h (by omega) (fun m1 h1 s1 a1 => ?_)) (fun z => absurd rfl z)
      have w := s1.2.2.2.2.2.2.2.1
      cases e : (ordW (sL S) (sS S) 0).2.1 with
      | none => exact absurd e (ordW_some hL.2.1 hz).2
      | some v =>
        rw [e] at K w
        obtain ⟨w1, w2, w3, w4⟩ := w
        refine gX6_spare_31 (by rw [hx]; exact ni_in (n := 6) hr (by omega)) ?_
        rw [hx, ra_row hr, h1.2.2.1.1]
        have l31 : (m1.2.1 31).length = 6 := s1.2.2.2.1.2.2.2.2
        refine c_takeAnew (n := (sL S).1) (kd_row hr) rfl (h1.1 r hr) (by omega) rfl (by rw [l31]; exact hL.2.1) (by have := hL.2.1; omega) (by omega) (by omega) (fun m2 g1 g2 => gX6_spare_54 ?_)
        rw [w4] at g1
        have e9 : m2.1 26 9 = nI v.1 := by rw [(g2 26 (by unfold shS; omega)).1]; exact w1
        rw [e9]
        exact K m2 (RC_row h1 hr g2 g1) (ag_trans a1 (sh65 (by omega) g2))
  · simp only [o_spare, hi] at K
    exact gX6_spare_4 (fun z => absurd rfl z) (fun _ => K m h (ag_refl _ _))
theorem C_orders {x : Int32} (h : RC S m) (K : okC (o_orders S x) m Q) : pm_G (d + 16) mX6_orders 0 [some (.ref 0), some (.int x)] [] m Q := by
  have hL := h.2.2.1
  by_cases hx : 0 ≤ x.toInt ∧ x.toInt < (13 : Nat)
  · obtain ⟨t, i1, i2, i3⟩ := idx_some (n := 13) (by omega) hx.1 hx.2
    simp only [o_orders, i1] at K
    refine gX6_orders_0 (fun z => absurd (i32_neg.mp z) (by omega)) (fun _ _ => c_hasNoHills hL (fun hz => ?_) (fun hz => ?_)) (fun _ z => absurd ((i32_le' (n := 12) (by omega)).mpr (by omega)) z)
    · rw [if_pos hz] at K
      exact gX6_orders_16 (fun z => absurd z (by decide)) (fun _ => K m h (ag_refl _ _))
    · rw [if_neg hz] at K
      rw [i3]
      refine gX6_orders_16 (fun _ => c_search (t := t) h (by omega) (fun m1 h1 s1 a1 => ?_)) (fun z => absurd rfl z)
      have w := s1.2.2.2.2.2.2.2.2
      have fb := ordW_found (L := sL S) (s := sS S) (t := t) hL.2.1 hz
      obtain ⟨w1, w2, w3⟩ := w
      rw [← tellQ_1] at K
      have e0 : (m1.1 26 10 ≤ 0) ↔ (ordW (sL S) (sS S) t).2.2.1 = 0 := by
        rw [w1, show (0 : Int32) = nI 0 from rfl, ni_le (by omega) (by omega)]; omega
      have fin : ∀ (v : Int32) (m2 : pmMem), m2 = pm_setF m1 0 11 v → (if (ordW (sL S) (sS S) t).2.2.1 = 0 then 0 else nI (ordW (sL S) (sS S) t).2.2.2) = v → pm_G (d + 15) mX6_tellParts 0 [some (.ref 0), some (.long (Int32.toInt64 (m2.1 26 10))), none, some (.long (lN 1)), none, none, none] [] m2 (fun r m' => pm_G (d + 16) mX6_orders 72 [some (.ref 0), some (.int (nI t))] (pm_psh r []) m' Q) := by
        intro v m2 e2 ev
        rw [ev] at K
        have x10 : m2.1 26 10 = nI (ordW (sL S) (sS S) t).2.2.1 := by rw [e2, pm_rF, if_neg (by omega)]; exact w1
        rw [x10, nI_l (by omega)]
        have h2 : RC (tell S v) m2 := by rw [e2]; exact RC_tell h1
        refine c_tellParts h2 (by omega) (by omega) (by omega) (fun m3 h3 a3 => gX6_orders_72 (K m3 h3 (ag_trans a1 (ag_trans ?_ a3))))
        rw [e2]; exact ag_F (ag_refl _ _) (by omega)
      refine gX6_orders_34 ?_ ?_ <;> rw [e0]
      · intro z m2 e2
        exact fin 0 m2 e2 (by rw [if_pos z])
      · intro z m2 e2
        rw [w2] at e2
        exact fin _ m2 e2 (by rw [if_neg z])
  · have i1 := idx_none hx
    simp only [o_orders, i1] at K
    refine gX6_orders_0 (fun _ => K m h (ag_refl _ _)) (fun z1 z2 => ?_) (fun _ _ => K m h (ag_refl _ _))
    exfalso
    apply hx
    rw [i32_neg] at z1
    rw [show (12 : Int32) = nI 12 from rfl, i32_le' (by omega)] at z2
    omega
end CURSEC
