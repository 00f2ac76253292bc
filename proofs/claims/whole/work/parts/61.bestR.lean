section BESTR
variable {d : Nat} {m : pmMem} {Q : Option Value → pmMem → Prop} {S : Sg}
def stG (cmp : Option (Nat × List Nat) → Nat → Bool) (L : Ld) (s : Cs) (o : Option (Nat × List Nat)) (p : List Nat) : Option (Nat × List Nat) := if cmp o (cnt (ordS L s p).2.2.2.2) then some (cnt (ordS L s p).2.2.2.2, p) else o
theorem setR_2 (S : Sg) (r : Nat) (o : Option (Nat × List Nat)) (a b : Option (List Int32)) : setR (setR (stR S r o) r a) r b = setR S r b := by
  have e : upo (upo (stR S r o).1 r a) r b = upo S.1 r b := by
    funext q
    unfold upo
    by_cases c : q = r
    · rw [if_pos c, if_pos c]
    · rw [if_neg c, if_neg c, if_neg c]
      cases o with
      | none => rfl
      | some v => show upo S.1 r _ q = _; unfold upo; rw [if_neg c]
  cases o with
  | none =>
    show (upo (upo S.1 r a) r b, S.2) = _
    exact congrArg (fun z => (z, S.2)) e
  | some v =>
    show (upo (upo (setR S r (some (v.2.map nI))).1 r a) r b, S.2) = (upo S.1 r b, S.2)
    exact congrArg (fun z => (z, S.2)) e
def bstI (o : Option (Nat × List Nat)) : Int32 := match o with
  | none => 0
  | some v => nI v.1
def anyI (o : Option (Nat × List Nat)) : Int32 := match o with
  | none => 0
  | some _ => 1
theorem c7_rowN {r k : Nat} {l3 : Option Value} (h : RR S m) (hr : r < 6) (hk : k ≤ 40) (K : ∀ m', RR (setR S r (some (List.replicate k 0))) m' → agR (fun c => c = 66 ∨ c = 67) (fun _ => False) (fun _ => False) m m' → Q (some (.int (nI k))) m') : pm_G (d + 3) mX7_row 0 [some (.ref 65), some (.int (nI r)), some (.int (nI k)), l3] [] m Q := by
  have e40 : (nI k ≤ 40) ↔ k ≤ 40 := ni_le (b := 40) (by omega) (by omega)
  have e0 : (0 ≤ nI k) ↔ True := ⟨fun _ => trivial, fun _ => nI_pos' (by omega)⟩
  obtain ⟨q1, q2, q3⟩ := h.1
  refine gX7_row_0 (c7_isRow (fun r' hi hr' hx => ?_) (fun hi => by rw [idx_nI (by omega) hr] at hi; cases hi))
  refine gX7_row_4 (fun _ _ _ => ?_) (fun z => absurd z (by decide)) ?_ ?_ ?_ <;> try simp only [e40, e0]
  · rw [q2]; exact ni_in hr (by omega)
  · intro _ h1 h2 m1 e1
    rw [ni_cl (by omega)] at e1
    have a1 : agR (fun c => c = 66 ∨ c = 67) (fun _ => False) (fun _ => False) m m1 := by rw [e1]; exact agR_A (agR_refl _ _ _ _) (Or.inr rfl)
    refine fill_row hr rfl 40 0 m1 (by omega) (by rw [e1, pm_rA, if_neg (by omega)]; exact q1) (fun m' a b c => ?_)
    have a2 := agR_trans a1 (agR_mono a (fun c z => Or.inl z) (fun _ => id) (fun _ => id))
    have eB : m'.2.1 67 = (m.2.1 67).set r (nI k) := by rw [a.2.1 67 (by omega), e1, pm_rA, if_pos rfl]
    have eA : m1.2.1 66 = m.2.1 66 := by rw [e1, pm_rA, if_neg (by omega)]
    rw [eA] at c
    refine K m' (RR_rows h a2 ⟨b, by rw [eB, List.length_set]; exact q2, ?_⟩) a2
    refine grid_new q3 (fun q hq hqr => ⟨?_, fun i hi => ?_⟩) ⟨?_, ?_, fun i hi => ?_⟩
    · rw [eB, getD_set (by omega), if_neg hqr]
    · rw [c, if_neg (by omega)]
    · rw [eB, getD_set (by omega), if_pos rfl, List.length_replicate]
    · rw [List.length_replicate]; omega
    · rw [List.length_replicate] at hi
      rw [c, if_pos (by omega), getD_repl hi]
  · intro _ h1 h2
    exact absurd trivial h2
  · intro _ h1
    exact absurd hk h1
theorem c7_bestOrder {x sg : Int32} {cmp : Option (Nat × List Nat) → Nat → Bool} {l3 l4 l5 l6 l7 : Option Value} (h : RR S m) (c0 : ∀ v, cmp none v = true) (cs : ∀ a b p, a ≤ 12 → b ≤ 12 → ((sg * nI a ≤ sg * nI b) ↔ ¬ cmp (some (b, p)) a = true)) (kb : idx 6 x = none → Q (some (.int (-1))) m) (k0 : ∀ r, idx 6 x = some r → (sL S).1 = 0 → Q (some (.int (-4))) m) (K : ∀ r m', idx 6 x = some r → (sL S).1 ≠ 0 → RR (stR S r ((ords (sL S).1).foldl (stG cmp (sL S) (sS S)) none)) m' → ag (fun c => 65 ≤ c) m m' → Q (some (.int (bstI ((ords (sL S).1).foldl (stG cmp (sL S) (sS S)) none)))) m') : pm_G (d + 6) mX7_bestOrder 0 [some (.ref 65), some (.int x), some (.int sg), l3, l4, l5, l6, l7] [] m Q := by
  have hL := h.2.2.1
  have hL6 := hL.2.1
  have e0 : (m.1 65 4 = 0) ↔ (sL S).1 = 0 := by rw [hL.1]; exact ni_eq (b := 0) (by omega) (by omega)
  refine gX7_bestOrder_0 (c7_isRow (fun r hi hr hx => ?_) (fun hi => gX7_bestOrder_4 (fun z => absurd rfl z) (fun z => absurd rfl z) (fun _ => kb hi)))
  refine gX7_bestOrder_4 ?_ ?_ (fun z => absurd z (by decide)) <;> rw [e0]
  · intro _ hz
    have step : ∀ (p : List Nat) (o : Option (Nat × List Nat)) (m1 : pmMem) (l6 l7 : Option Value), okP (sL S).1 p → (∀ v, o = some v → v.1 ≤ 12) → RR (stR S r o) m1 → m1.2.1 84 = (p ++ tlO (sL S).1).map nI → ag (fun c => 65 ≤ c) m m1 → (∀ (m2 : pmMem) (l6 l7 : Option Value), RR (stR S r (stG cmp (sL S) (sS S) o p)) m2 → ag (fun c => 65 ≤ c) m m2 → nxt (sL S).1 (p ++ tlO (sL S).1) = none → pm_G (d + 6) mX7_bestOrder 31 [some (.ref 65), some (.int x), some (.int sg), some (.int (bstI (stG cmp (sL S) (sS S) o p))), some (.int (anyI (stG cmp (sL S) (sS S) o p))), some (.int 0), l6, l7] [] m2 Q) → (∀ (m2 : pmMem) (p' : List Nat) (l6 l7 : Option Value), RR (stR S r (stG cmp (sL S) (sS S) o p)) m2 → ag (fun c => 65 ≤ c) m m2 → nxt (sL S).1 (p ++ tlO (sL S).1) = some p' → m2.2.1 84 = p'.map nI → pm_G (d + 6) mX7_bestOrder 31 [some (.ref 65), some (.int x), some (.int sg), some (.int (bstI (stG cmp (sL S) (sS S) o p))), some (.int (anyI (stG cmp (sL S) (sS S) o p))), some (.int 1), l6, l7] [] m2 Q) → pm_G (d + 6) mX7_bestOrder 31 [some (.ref 65), some (.int x), some (.int sg), some (.int (bstI o)), some (.int (anyI o)), some (.int 1), l6, l7] [] m1 Q := by
      intro p o m1 l6 l7 hp ho h1 h84 a1 kN kS
      obtain ⟨sl, ss, _⟩ := stR_L S r o
      refine gX7_bestOrder_31 (fun z => absurd z (by decide)) (fun _ => c7_cursedBy h1 (by rw [sl]; exact hp) (by rw [sl]; exact h84) (fun m2 h2 e84 a2 => gX7_bestOrder_40 ?_))
      rw [sl] at e84
      rw [sl, ss]
      have okc := ordS_ok (sL S) p (sS S) h.2.2.2.2.1.2.2.2.2
      refine c7_ones okc.2.2.2 ?_
      have cl := cnt_le (ordS (sL S) (sS S) p).2.2.2.2
      have a2' := ag_trans a1 a2
      have nextK : ∀ (o' : Option (Nat × List Nat)) (m3 : pmMem) (x6 : Int32) (l7 : Option Value), stG cmp (sL S) (sS S) o p = o' → RR (stR S r o') m3 → m3.2.1 84 = (p ++ tlO (sL S).1).map nI → ag (fun c => 65 ≤ c) m m3 → pm_G (d + 5) mX7_nextOrder 0 [some (.ref 65), none, none, none, none, none] [] m3 (fun q m4 => pm_G (d + 6) mX7_bestOrder 117 [some (.ref 65), some (.int x), some (.int sg), some (.int (bstI o')), some (.int (anyI o')), some (.int 1), some (.int x6), l7] (pm_psh q []) m4 Q) := by
        intro o' m3 x6 l7 eo h3 f84 a3
        have L3 := h3.2.2.1
        rw [(stR_L S r o').1] at L3
        refine c7_nextOrder L3.1 hL6 hz f84 (pt_len hL6 hp) (pt_gd hL6 hp) (fun hn => gX7_bestOrder_117 ?_) (fun p' m4 hn g84 gl ag4 => gX7_bestOrder_117 ?_)
        · rw [eo] at kN
          exact kN m3 _ _ h3 a3 hn
        · rw [eo] at kS
          refine kS m4 p' _ _ (RR_84 h3 ag4 (by rw [g84, List.length_map]; exact gl)) (ag_trans a3 (ag_mono (fun c z => by unfold only84 at z; omega) ag4.ag)) hn g84
      have improve : cmp o (cnt (ordS (sL S) (sS S) p).2.2.2.2) = true → pm_G (d + 5) mX7_row 0 [some (.ref 65), some (.int x), some (.int (m2.1 65 4)), none] [] m2 (fun q m3 => pm_G (d + 6) mX7_bestOrder 75 [some (.ref 65), some (.int x), some (.int sg), some (.int (nI (cnt (ordS (sL S) (sS S) p).2.2.2.2))), some (.int 1), some (.int 1), some (.int (nI (cnt (ordS (sL S) (sS S) p).2.2.2.2))), l7] (pm_psh q []) m3 Q) := by
        intro hcm
        have L2 := h2.2.2.1
        rw [sl] at L2
        rw [L2.1, hx]
        refine c7_rowN h2 hr (by omega) (fun m3 h3 a3 => ?_)
        rw [← hx]
        refine gX7_bestOrder_75 ?_
        have L3 := h3.2.2.1
        have L3' : landR (sL S) m3 := by rw [← sl]; exact L3
        have g84 : m3.2.1 84 = (p ++ tlO (sL S).1).map nI := by rw [a3.2.1 84 (by omega)]; exact e84
        refine l7_rowOrder (S3 := stR S r (some (cnt (ordS (sL S) (sS S) p).2.2.2.2, p))) h3 hr hx L3'.1 hL6 (by show upo _ r _ r = _; unfold upo; rw [if_pos rfl]) (by rw [setR_2]; rfl) hp.1 g84 h3.2.2.2.2.2.2.1.2.2.2.2.1 (fun m4 h4 f84 a4 => ?_)
        exact nextK (some (cnt (ordS (sL S) (sS S) p).2.2.2.2, p)) m4 _ _ (by unfold stG; rw [if_pos hcm]) h4 f84 (ag_trans a2' (ag_trans (agR_ag a3 (by omega)) a4))
      cases o with
      | none => exact gX7_bestOrder_43 (fun _ => improve (c0 _)) (fun z => absurd rfl z) (fun z => absurd rfl z)
      | some v =>
        obtain ⟨b, pb⟩ := v
        have hb := ho (b, pb) rfl
        have cc := cs (cnt (ordS (sL S) (sS S) p).2.2.2.2) b pb cl hb
        refine gX7_bestOrder_43 (fun z => absurd (show (1 : Int32) = 0 from z) (by decide)) ?_ ?_ <;> rw [show bstI (some (b, pb)) = nI b from rfl, cc]
        · intro _ hcm
          exact nextK (some (b, pb)) m2 _ _ (by unfold stG; rw [if_neg hcm]) h2 e84 a2'
        · intro _ hcm
          exact improve (Decidable.not_not.mp hcm)
    have stle : ∀ (o : Option (Nat × List Nat)) (p : List Nat), (∀ v, o = some v → v.1 ≤ 12) → ∀ v, stG cmp (sL S) (sS S) o p = some v → v.1 ≤ 12 := by
      intro o p ho v hv
      unfold stG at hv
      split at hv
      · have := Option.some.inj hv
        rw [← this]
        exact cnt_le _
      · exact ho v hv
    have loop : ∀ (l : List (List Nat)) (p : List Nat) (o : Option (Nat × List Nat)) (m1 : pmMem) (l6 l7 : Option Value), chn (sL S).1 p l = true → okP (sL S).1 p → (∀ q ∈ l, okP (sL S).1 q) → (∀ v, o = some v → v.1 ≤ 12) → RR (stR S r o) m1 → m1.2.1 84 = (p ++ tlO (sL S).1).map nI → ag (fun c => 65 ≤ c) m m1 → (∀ m', RR (stR S r ((p :: l).foldl (stG cmp (sL S) (sS S)) o)) m' → ag (fun c => 65 ≤ c) m m' → Q (some (.int (bstI ((p :: l).foldl (stG cmp (sL S) (sS S)) o)))) m') → pm_G (d + 6) mX7_bestOrder 31 [some (.ref 65), some (.int x), some (.int sg), some (.int (bstI o)), some (.int (anyI o)), some (.int 1), l6, l7] [] m1 Q := by
      intro l
      induction l with
      | nil =>
        intro p o m1 l6 l7 hc hp hq ho h1 h84 a1 K1
        simp only [chn, decide_eq_true_eq] at hc
        refine step p o m1 l6 l7 hp ho h1 h84 a1 (fun m2 l6 l7 h2 a2 _ => gX7_bestOrder_31 (fun _ => K1 m2 h2 a2) (fun z => absurd rfl z)) (fun m2 p' l6 l7 h2 a2 hn _ => ?_)
        rw [hc] at hn; cases hn
      | cons q l ih =>
        intro p o m1 l6 l7 hc hp hq ho h1 h84 a1 K1
        simp only [chn, Bool.and_eq_true, decide_eq_true_eq] at hc
        refine step p o m1 l6 l7 hp ho h1 h84 a1 (fun m2 l6 l7 h2 a2 hn => ?_) (fun m2 p' l6 l7 h2 a2 hn g84 => ?_)
        · rw [hc.1] at hn; cases hn
        · rw [hc.1] at hn
          have := Option.some.inj hn
          subst this
          exact ih q (stG cmp (sL S) (sS S) o p) m2 l6 l7 hc.2 (hq q (by simp)) (fun w hw => hq w (by simp [hw])) (stle o p ho) h2 g84 a2 K1
    have och := ords_chn (sL S).1 (by omega) (by omega)
    have oks := ords_okP hL6 hz
    refine c7_firstOrder h.2.2.2.2.2.2.1.2.2.2.2.1 (fun m1 a1 e84 => gX7_bestOrder_28 ?_)
    have h1 : RR S m1 := RR_84 h a1 (by rw [e84]; rfl)
    have KK := fun m' => K r m' hi hz
    cases eo : ords (sL S).1 with
    | nil => rw [eo] at och; exact absurd (show false = true from och) (by decide)
    | cons p l =>
      rw [eo] at och oks KK
      simp only [Bool.and_eq_true, decide_eq_true_eq] at och
      exact loop l p none m1 _ _ och.2 (oks p (by simp)) (fun w hw => oks w (by simp [hw])) (fun v hv => by cases hv) h1 (by rw [och.1]; exact e84) (ag_mono (fun c z => by unfold only84 at z; omega) a1.ag) KK
  · intro _ hz
    exact k0 r hi hz
theorem sgm : ∀ a, a < 13 → ∀ b, b < 13 → (((-1 : Int32) * nI a ≤ (-1) * nI b) ↔ b ≤ a) := by decide
theorem sgp : ∀ a, a < 13 → ∀ b, b < 13 → (((1 : Int32) * nI a ≤ 1 * nI b) ↔ a ≤ b) := by decide
theorem ordW_1 (S : Sg) (t : Nat) : (ordW (sL S) (sS S) t).1 = (ords (sL S).1).foldl (stG upW (sL S) (sS S)) none := by
  unfold ordW; rw [fold_parts]; rfl
theorem ordW_2 (S : Sg) (t : Nat) : (ordW (sL S) (sS S) t).2.1 = (ords (sL S).1).foldl (stG dnW (sL S) (sS S)) none := by
  unfold ordW; rw [fold_parts]; rfl
theorem R_curse {x : Int32} (h : RR S m) (K : okR (o_curse S x) m Q) : pm_G (d + 7) mX7_curse 0 [some (.ref 65), some (.int x)] [] m Q := by
  have hL6 := h.2.2.1.2.1
  refine gX7_curse_0 (c7_bestOrder (cmp := upW) h (fun _ => rfl) (fun a b p ha hb => ?_) (fun hi => gX7_curse_6 ?_) (fun r hi hz => gX7_curse_6 ?_) (fun r m' hi hz h' a' => gX7_curse_6 ?_))
  · rw [sgp a (by omega) b (by omega)]
    show _ ↔ ¬ decide (b < a) = true
    rw [decide_eq_true_eq]; omega
  · simp only [o_curse, hi] at K
    exact K m h (ag_refl _ _)
  · simp only [o_curse, hi, if_pos hz] at K
    exact K m h (ag_refl _ _)
  · simp only [o_curse, hi, if_neg hz] at K
    have ne := (ordW_some (L := sL S) (s := sS S) (t := 0) hL6 hz).1
    rw [← ordW_1 S 0] at h' ⊢
    cases e : (ordW (sL S) (sS S) 0).1 with
    | none => exact absurd e ne
    | some v =>
      rw [e] at K h'
      exact K m' h' a'
theorem R_spare {x : Int32} (h : RR S m) (K : okR (o_spare S x) m Q) : pm_G (d + 7) mX7_spare 0 [some (.ref 65), some (.int x)] [] m Q := by
  have hL6 := h.2.2.1.2.1
  refine gX7_spare_0 (c7_bestOrder (cmp := dnW) h (fun _ => rfl) (fun a b p ha hb => ?_) (fun hi => gX7_spare_6 ?_) (fun r hi hz => gX7_spare_6 ?_) (fun r m' hi hz h' a' => gX7_spare_6 ?_))
  · rw [sgm a (by omega) b (by omega)]
    show _ ↔ ¬ decide (a < b) = true
    rw [decide_eq_true_eq]; omega
  · simp only [o_spare, hi] at K
    exact K m h (ag_refl _ _)
  · simp only [o_spare, hi, if_pos hz] at K
    exact K m h (ag_refl _ _)
  · simp only [o_spare, hi, if_neg hz] at K
    have ne := (ordW_some (L := sL S) (s := sS S) (t := 0) hL6 hz).2
    rw [← ordW_2 S 0] at h' ⊢
    cases e : (ordW (sL S) (sS S) 0).2.1 with
    | none => exact absurd e ne
    | some v =>
      rw [e] at K h'
      exact K m' h' a'
theorem ordW_3 (S : Sg) (t : Nat) : (ordW (sL S) (sS S) t).2.2 = (ords (sL S).1).foldl (stC (sL S) (sS S) t) (0, 4095) := by
  unfold ordW; rw [fold_parts]; rfl
theorem R_orders {x : Int32} {l2 l3 l4 l5 : Option Value} (h : RR S m) (K : okR (o_orders S x) m Q) : pm_G (d + 7) mX7_orders 0 [some (.ref 65), some (.int x), l2, l3, l4, l5] [] m Q := by
  have hL := h.2.2.1
  have hL6 := hL.2.1
  have e0 : (m.1 65 4 = 0) ↔ (sL S).1 = 0 := by rw [hL.1]; exact ni_eq (b := 0) (by omega) (by omega)
  refine gX7_orders_0 (c7_in0 (n := 13) (by omega) (t64 x) rfl rfl (fun t i1 i2 i3 => ?_) (fun i1 => ?_))
  · simp only [o_orders, i1] at K
    refine gX7_orders_9 ?_ ?_ (fun z => absurd z (by decide)) <;> rw [e0]
    · intro _ hz
      rw [if_neg hz] at K
      have fb := ordW_found (L := sL S) (s := sS S) (t := t) hL6 hz
      rw [i3]
      have fin : ∀ (o : Nat × Nat) (m1 : pmMem) (l5 : Option Value), (ordW (sL S) (sS S) t).2.2 = o → RR S m1 → ag (fun c => 65 ≤ c) m m1 → pm_G (d + 7) mX7_orders 37 [some (.ref 65), some (.int (nI t)), some (.int (nI o.1)), some (.int (nI o.2)), some (.int 0), l5] [] m1 Q := by
        intro o m1 l5 eo h1 a1
        rw [eo] at K fb
        have z0 : (nI o.1 ≤ 0) ↔ o.1 = 0 := by
          rw [show (0 : Int32) = nI 0 from rfl, ni_le (by omega) (by omega)]; omega
        refine gX7_orders_37 ?_ ?_ (fun z => absurd rfl z) <;> rw [z0, nI_l (by omega)]
        · intro _ m2 e2 m3 e3 z m4 e4
          rw [if_pos z] at K
          rw [e4, e3, e2]
          exact K _ (RR_tell (RR_tellP h1)) (ag_F (ag_L (ag_L a1 (by omega)) (by omega)) (by omega))
        · intro _ m2 e2 m3 e3 z m4 e4
          rw [if_neg z] at K
          rw [e4, e3, e2]
          exact K _ (RR_tell (RR_tellP h1)) (ag_F (ag_L (ag_L a1 (by omega)) (by omega)) (by omega))
      have step : ∀ (p : List Nat) (o : Nat × Nat) (m1 : pmMem) (l5 : Option Value), okP (sL S).1 p → RR S m1 → m1.2.1 84 = (p ++ tlO (sL S).1).map nI → ag (fun c => 65 ≤ c) m m1 → (∀ (m2 : pmMem) (l5 : Option Value), RR S m2 → ag (fun c => 65 ≤ c) m m2 → nxt (sL S).1 (p ++ tlO (sL S).1) = none → pm_G (d + 7) mX7_orders 37 [some (.ref 65), some (.int (nI t)), some (.int (nI (stC (sL S) (sS S) t o p).1)), some (.int (nI (stC (sL S) (sS S) t o p).2)), some (.int 0), l5] [] m2 Q) → (∀ (m2 : pmMem) (p' : List Nat) (l5 : Option Value), RR S m2 → ag (fun c => 65 ≤ c) m m2 → nxt (sL S).1 (p ++ tlO (sL S).1) = some p' → m2.2.1 84 = p'.map nI → pm_G (d + 7) mX7_orders 37 [some (.ref 65), some (.int (nI t)), some (.int (nI (stC (sL S) (sS S) t o p).1)), some (.int (nI (stC (sL S) (sS S) t o p).2)), some (.int 1), l5] [] m2 Q) → pm_G (d + 7) mX7_orders 37 [some (.ref 65), some (.int (nI t)), some (.int (nI o.1)), some (.int (nI o.2)), some (.int 1), l5] [] m1 Q := by
        intro p o m1 l5 hp h1 h84 a1 kN kS
        refine gX7_orders_37 (fun z => absurd z (by decide)) (fun z => absurd z (by decide)) (fun _ => c7_cursedBy h1 hp h84 (fun m2 h2 e84 a2 => gX7_orders_46 ?_))
        have okc := ordS_ok (sL S) p (sS S) h.2.2.2.2.1.2.2.2.2
        have cl := cnt_le (ordS (sL S) (sS S) p).2.2.2.2
        have ct : (nI (cnt (ordS (sL S) (sS S) p).2.2.2.2) = nI t) ↔ cnt (ordS (sL S) (sS S) p).2.2.2.2 = t := ni_eq (by omega) (by omega)
        have a2' := ag_trans a1 a2
        have nextK : ∀ (o' : Nat × Nat) (x4 y5 : Int32), stC (sL S) (sS S) t o p = o' → pm_G (d + 6) mX7_nextOrder 0 [some (.ref 65), none, none, none, none, none] [] m2 (fun q m4 => pm_G (d + 7) mX7_orders 87 [some (.ref 65), some (.int (nI t)), some (.int (nI o'.1)), some (.int (nI o'.2)), some (.int x4), some (.int y5)] (pm_psh q []) m4 Q) := by
          intro o' x4 y5 eo
          rw [eo] at kN kS
          have L2 := h2.2.2.1
          refine c7_nextOrder L2.1 hL6 hz e84 (pt_len hL6 hp) (pt_gd hL6 hp) (fun hn => gX7_orders_87 ?_) (fun p' m4 hn g84 gl ag4 => gX7_orders_87 ?_)
          · exact kN m2 _ h2 a2' hn
          · exact kS m4 p' _ (RR_84 h2 ag4 (by rw [g84, List.length_map]; exact gl)) (ag_trans a2' (ag_mono (fun c z => by unfold only84 at z; omega) ag4.ag)) hn g84
        refine c7_ones okc.2.2.2 ?_
        refine gX7_orders_54 ?_ ?_ <;> rw [ct]
        · intro z
          refine c7_ones okc.2.2.2 ?_
          refine gX7_orders_72 ?_ ?_ <;> rw [ct]
          · intro _
            rw [ni_m1, i32_add0]
            exact nextK o _ _ (by unfold stC; rw [if_neg z])
          · intro w; exact absurd w z
        · intro z
          refine c7_ones okc.2.2.2 ?_
          refine gX7_orders_72 ?_ ?_ <;> rw [ct]
          · intro w; exact absurd z w
          · intro _
            rw [ni_and, nI_1]
            exact nextK (o.1 + 1, o.2 &&& (ordS (sL S) (sS S) p).2.2.2.2) _ _ (by unfold stC; rw [if_pos z])
      have loop : ∀ (l : List (List Nat)) (p : List Nat) (o : Nat × Nat) (m1 : pmMem) (l5 : Option Value), chn (sL S).1 p l = true → okP (sL S).1 p → (∀ q ∈ l, okP (sL S).1 q) → RR S m1 → m1.2.1 84 = (p ++ tlO (sL S).1).map nI → ag (fun c => 65 ≤ c) m m1 → (ordW (sL S) (sS S) t).2.2 = (p :: l).foldl (stC (sL S) (sS S) t) o → pm_G (d + 7) mX7_orders 37 [some (.ref 65), some (.int (nI t)), some (.int (nI o.1)), some (.int (nI o.2)), some (.int 1), l5] [] m1 Q := by
        intro l
        induction l with
        | nil =>
          intro p o m1 l5 hc hp hq h1 h84 a1 eo
          simp only [chn, decide_eq_true_eq] at hc
          refine step p o m1 l5 hp h1 h84 a1 (fun m2 l5 h2 a2 _ => fin _ m2 l5 eo h2 a2) (fun m2 p' l5 h2 a2 hn _ => ?_)
          rw [hc] at hn; cases hn
        | cons q l ih =>
          intro p o m1 l5 hc hp hq h1 h84 a1 eo
          simp only [chn, Bool.and_eq_true, decide_eq_true_eq] at hc
          refine step p o m1 l5 hp h1 h84 a1 (fun m2 l5 h2 a2 hn => ?_) (fun m2 p' l5 h2 a2 hn g84 => ?_)
          · rw [hc.1] at hn; cases hn
          · rw [hc.1] at hn
            have := Option.some.inj hn
            subst this
            exact ih q (stC (sL S) (sS S) t o p) m2 l5 hc.2 (hq q (by simp)) (fun w hw => hq w (by simp [hw])) h2 g84 a2 eo
      have och := ords_chn (sL S).1 (by omega) (by omega)
      have oks := ords_okP hL6 hz
      refine c7_firstOrder h.2.2.2.2.2.2.1.2.2.2.2.1 (fun m1 a1 e84 => gX7_orders_34 ?_)
      have h1 : RR S m1 := RR_84 h a1 (by rw [e84]; rfl)
      have o3 := ordW_3 S t
      cases eo : ords (sL S).1 with
      | nil => rw [eo] at och; exact absurd (show false = true from och) (by decide)
      | cons p l =>
        rw [eo] at och oks o3
        simp only [Bool.and_eq_true, decide_eq_true_eq] at och
        exact loop l p (0, 4095) m1 _ och.2 (oks p (by simp)) (fun w hw => oks w (by simp [hw])) h1 (by rw [och.1]; exact e84) (ag_mono (fun c z => by unfold only84 at z; omega) a1.ag) o3
    · intro _ hz
      rw [if_pos hz] at K
      exact K m h (ag_refl _ _)
  · simp only [o_orders, i1] at K
    exact gX7_orders_9 (fun z => absurd rfl z) (fun z => absurd rfl z) (fun _ => K m h (ag_refl _ _))
end BESTR
