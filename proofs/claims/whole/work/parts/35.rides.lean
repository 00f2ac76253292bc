/-! a ride from hill to hill -/
def rideB (n : Nat) (l : List Int32) : Nat → Bool
  | 0 => true
  | k + 1 => rideB n l k && (idx n (l.getD k 0)).isSome
theorem rideB_all {n : Nat} {l : List Int32} : ∀ k, rideB n l k = true → ∀ i, i < k → ∃ r, idx n (l.getD i 0) = some r
  | 0, _, i, hi => absurd hi (by omega)
  | k + 1, h, i, hi => by
    simp only [rideB, Bool.and_eq_true] at h
    by_cases e : i = k
    · subst e; exact Option.isSome_iff_exists.mp h.2
    · exact rideB_all k h.1 i (by omega)
theorem rideB_no {n : Nat} {l : List Int32} {i : Nat} (h : idx n (l.getD i 0) = none) : ∀ k, i < k → rideB n l k = false
  | 0, hi => absurd hi (by omega)
  | k + 1, hi => by
    by_cases e : i = k
    · subst e; simp only [rideB, h]; simp
    · simp [rideB, rideB_no h k (by omega)]
def rideF (n : Nat) (o : Option (List Int32)) : Nat := match o with
  | none => 1
  | some l => if 12 < l.length then 5 else if rideB n l l.length = true then 0 else 3
def rideS (L : Ld) (s : Cs) (l : List Int32) : Nat → Cs
  | 0 => s
  | k + 1 => sayC L (rideS L s l k) (l.getD k 0).toNatClampNeg
def o_rides (S : Sg) (x : Int32) : Int32 × Sg := match idx 6 x with
  | none => (-1, S)
  | some r => if (sL S).1 = 0 then (-4, S) else match sR S r with
    | none => (-3, find S 1)
    | some l => if 12 < l.length then (-3, find S 5) else if rideB (sL S).1 l l.length = true then (nI (cnt (rideS (sL S) (sS S) l l.length).2.2.2.2), tell S (rideS (sL S) (sS S) l l.length).2.2.1) else (-3, find S 3)
theorem rideS_ok {L : Ld} {s : Cs} {l : List Int32} (h : csOk s) : ∀ k, csOk (rideS L s l k)
  | 0 => h
  | k + 1 => sayC_ok (rideS_ok h k)
theorem rideS_dj {L : Ld} {s : Cs} {l : List Int32} (h : dj s) : ∀ k, dj (rideS L s l k)
  | 0 => h
  | k + 1 => dj_say (rideS_dj h k)
theorem rideS_g {L : Ld} {s : Cs} {l : List Int32} : ∀ k, (rideS L s l k).1 = s.1 ∧ (rideS L s l k).2.1 = s.2.1
  | 0 => ⟨rfl, rfl⟩
  | k + 1 => rideS_g (L := L) (s := s) (l := l) k
section RIDES
variable {d : Nat} {m : pmMem} {Q : Option Value → pmMem → Prop} {S : Sg}
theorem c_ridesFault {r : Nat} {l2 : Option Value} (h : RC S m) (hr : r < 6) (K : Q (some (.int (nI (rideF (sL S).1 (sR S r))))) m) : pm_G (d + 3) mX6_ridesFault 0 [some (.ref 0), some (.ref (33 + 2 * r)), l2] [] m Q := by
  have hL := h.2.2.1
  have c := kd_row hr
  have hsh := h.1 r hr
  refine gX6_ridesFault_0 c (c_isMissing c hsh (by omega) (fun ho => ?_) (fun l ho => ?_))
  · rw [ho] at K
    exact gX6_ridesFault_4 c (fun z => absurd z (by decide)) (fun _ => K)
  · rw [ho] at K hsh
    have hl := hsh.2.2.1
    refine gX6_ridesFault_4 c (fun _ => c_size c hsh ?_) (fun z => absurd rfl z)
    have e12 : (nI l.length ≤ 12) ↔ l.length ≤ 12 := ni_le (b := 12) (by omega) (by omega)
    simp only [rideF] at K
    refine gX6_ridesFault_13 ?_ ?_ <;> rw [e12]
    · intro z
      rw [if_neg (by omega)] at K
      have loop : ∀ (n i : Nat), i + n = l.length → rideB (sL S).1 l i = true → pm_G (d + 3) mX6_ridesFault 22 [some (.ref 0), some (.ref (33 + 2 * r)), some (.int (nI i))] [] m Q := by
        intro n
        induction n with
        | zero =>
          intro i hi hb
          have hin : i = l.length := by omega
          subst hin
          rw [if_pos hb] at K
          exact gX6_ridesFault_22 c (c_size c hsh (gX6_ridesFault_27 c (fun _ => K) (fun z => absurd (Int32.le_refl _) z)))
        | succ n ih =>
          intro i hi hb
          have e : (nI l.length ≤ nI i) ↔ l.length ≤ i := ni_le (by omega) (by omega)
          refine gX6_ridesFault_22 c (c_size c hsh (gX6_ridesFault_27 c (fun z => absurd (e.mp z) (by omega)) (fun _ => c_get c hsh (by omega) (by omega) (gX6_ridesFault_36 (c_isHill hL (fun q hq _ _ => ?_) (fun hq => ?_))))))
          · refine gX6_ridesFault_39 (fun _ => ?_) (fun z => absurd z (by decide))
            rw [nI_1]
            exact ih (i + 1) (by omega) (by simp only [rideB, hb, hq]; rfl)
          · rw [if_neg (by rw [rideB_no hq l.length (by omega)]; decide)] at K
            exact gX6_ridesFault_39 (fun z => absurd rfl z) (fun _ => K)
      exact loop l.length 0 (by omega) rfl
    · intro z
      rw [if_pos (by omega)] at K
      exact K
theorem C_rides {x : Int32} {l2 l3 : Option Value} (h : RC S m) (K : okC (o_rides S x) m Q) : pm_G (d + 5) mX6_rides 0 [some (.ref 0), some (.int x), l2, l3] [] m Q := by
  have hL := h.2.2.1
  have hL6 := hL.2.1
  refine gX6_rides_0 (c_isRow (fun r hi hr hx => ?_) (fun hi => ?_))
  · simp only [o_rides, hi] at K
    have hin : vp_in x (pm_rl 1) := by rw [hx]; exact ni_in (n := 6) hr (by omega)
    refine gX6_rides_4 (fun _ => c_hasNoHills hL (fun hz => ?_) (fun hz => ?_)) (fun z => absurd z (by decide))
    · rw [if_pos hz] at K
      exact gX6_rides_13 (fun z => absurd z (by decide)) (fun z => absurd z (by decide)) (fun _ => K m h (ag_refl _ _))
    · rw [if_neg hz] at K
      refine gX6_rides_13 (fun _ => hin) (fun _ => ?_) (fun z => absurd rfl z)
      rw [hx, ra_row hr]
      refine c_ridesFault h hr ?_
      rw [← hx]
      have bad : ∀ f, 1 ≤ f → f ≤ 5 → okC (-3, find S f) m Q → pm_G (d + 5) mX6_rides 29 [some (.ref 0), some (.int x), l2, l3] [.int (nI f)] m Q := by
        intro f h1 h5 K
        refine gX6_rides_29 (fun z => absurd ((ni_eq (b := 0) (by omega) (by omega)).mp z) (by omega)) (fun _ => c_refuse h1 h5 h (fun m' g1 g2 => gX6_rides_39 (K m' g1 g2)))
      cases ho : sR S r with
      | none => rw [ho] at K; exact bad 1 (by omega) (by omega) K
      | some l =>
        rw [ho] at K
        simp only [rideF]
        by_cases h12 : 12 < l.length
        · simp only [if_pos h12] at K ⊢
          exact bad 5 (by omega) (by omega) K
        · simp only [if_neg h12] at K ⊢
          by_cases hb : rideB (sL S).1 l l.length = true
          · simp only [if_pos hb] at K ⊢
            refine gX6_rides_29 (fun _ => c_trial h (fun m' h' hF hag => gX6_rides_51 ?_)) (fun z => absurd rfl z)
            have loop : ∀ (n i : Nat) (m1 : pmMem), i + n = l.length → RC S m1 → campM (rideS (sL S) (sS S) l i) 20 m1 → ag (inC 20) m m1 → pm_G (d + 5) mX6_rides 53 [some (.ref 0), some (.int x), some (.int (nI 0)), some (.int (nI i))] [] m1 Q := by
              intro n
              induction n with
              | zero =>
                intro i m1 hi h1 hs ha
                have hin2 : i = l.length := by omega
                subst hin2
                have hsh := h1.1 r hr
                rw [ho] at hsh
                refine gX6_rides_53 hin ?_
                rw [hx, ra_row hr]
                refine c_size (kd_row hr) hsh (gX6_rides_63 (fun z => absurd (Int32.le_refl _) z) (fun _ m2 e2 => ?_) (fun z => absurd (Int32.le_refl _) z))
                have e8 : m2.1 20 8 = nI (rideS (sL S) (sS S) l l.length).2.2.2.2 := by rw [e2, pm_rF, if_neg (by omega)]; exact hs.2.2.2.2.1
                rw [e8]
                refine c_bitCount hs.2.2.2.2.2.2.2.2 (gX6_rides_110 ?_)
                rw [e2, hs.2.2.1]
                exact K _ (RC_tell h1) (ag_F (ag_mono (fun c z => by unfold inC at z; omega) ha) (by omega))
              | succ n ih =>
                intro i m1 hi h1 hs ha
                have hsh := h1.1 r hr
                rw [ho] at hsh
                have hl := hsh.2.2.1
                have e : (nI l.length ≤ nI i) ↔ l.length ≤ i := ni_le (by omega) (by omega)
                refine gX6_rides_53 hin ?_
                rw [hx, ra_row hr]
                refine c_size (kd_row hr) hsh (gX6_rides_63 (fun _ => by rw [← hx]; exact hin) (fun z => absurd (e.mp z) (by omega)) (fun _ => ?_))
                rw [ra_row hr]
                refine c_get (kd_row hr) hsh (by omega) (by omega) (gX6_rides_80 ?_)
                obtain ⟨q, hq⟩ := rideB_all l.length hb i (by omega)
                obtain ⟨q1, q2⟩ := idx_spec (n := (sL S).1) (by omega) hq
                rw [q2]
                refine c_sayFrom rfl h1.2.2.1 hs q1 (fun m2 g1 g2 g3 g4 => gX6_rides_83 ?_)
                have a2 : ag (inC 20) m1 m2 := ag_mono (fun c z => by unfold inC; omega) g3
                have l1 := h1.2.2.2.2.2.1.2.2.2.2.1
                rw [nI_1, ← hx]
                refine ih (i + 1) m2 (by omega) (RC_trial h1 a2 (by unfold campLen; rw [g4]; exact l1)) ?_ (ag_trans ha a2)
                show campM (sayC (sL S) (rideS (sL S) (sS S) l i) (l.getD i 0).toNatClampNeg) 20 m2
                rw [q2, ni_cl (by omega)]; exact g1
            exact loop l.length 0 m' (by omega) h' hF.1 hag
          · simp only [if_neg hb] at K ⊢
            exact bad 3 (by omega) (by omega) K
  · simp only [o_rides, hi] at K
    exact gX6_rides_4 (fun z => absurd rfl z) (fun _ => K m h (ag_refl _ _))
theorem R_rides {x : Int32} {l2 l3 l4 : Option Value} (h : RR S m) (K : okR (o_rides S x) m Q) : pm_G (d + 5) mX7_rides 0 [some (.ref 65), some (.int x), l2, l3, l4] [] m Q := by
  have hL := h.2.2.1
  have hL6 := hL.2.1
  obtain ⟨q1, q2, q3⟩ := h.1
  have e0 : (m.1 65 4 = 0) ↔ (sL S).1 = 0 := by rw [hL.1]; exact ni_eq (b := 0) (by omega) (by omega)
  refine gX7_rides_0 (c7_isRow (fun r hi hr hx => ?_) (fun hi => ?_))
  · simp only [o_rides, hi] at K
    have hin : vp_in x (m.2.1 67).length := by rw [hx, q2]; exact ni_in hr (by omega)
    have hcl : x.toNatClampNeg = r := by rw [hx]; exact ni_cl (by omega)
    have g := q3 r hr
    have bad : ∀ f, 1 ≤ f → f ≤ 5 → okR (-3, find S f) m Q → pm_G (d + 4) mX7_find 0 [some (.ref 65), some (.int (nI f))] [] m (fun q m' => pm_G (d + 5) mX7_rides 57 [some (.ref 65), some (.int x), l2, l3, l4] (pm_psh q []) m' Q) := by
      intro f h1 h5 K
      exact c7_find h1 h5 h (fun m' g1 g2 => gX7_rides_57 (K m' g1 g2))
    refine gX7_rides_4 (fun _ _ _ => hin) (fun _ _ _ _ => hin) (fun _ _ _ => hin) (fun _ _ => hin) ?_ ?_ ?_ ?_ ?_ ?_ (fun z => absurd z (by decide)) <;> simp only [hcl, e0]
    · intro _ _ z1 z2
      exact absurd z1 (by rw [Int32.lt_iff_toInt_lt]; rw [Int32.le_iff_toInt_le] at z2; omega)
    · intro _ hz z1 _
      rw [if_neg hz] at K
      cases ho : sR S r with
      | none => rw [ho] at K; exact bad 1 (by omega) (by omega) K
      | some l => rw [ho] at g; rw [g.1] at z1; exact absurd z1 (nI_pos (by have := g.2.1; omega))
    · intro _ hz z1 z2
      rw [if_neg hz] at K
      cases ho : sR S r with
      | none => rw [ho] at g; have g : (m.2.1 67).getD r 0 = -1 := g; rw [g] at z1; exact absurd (by decide) z1
      | some l =>
        rw [ho] at g K
        have gl := g.2.1
        rw [g.1] at z2
        have l12 : l.length ≤ 12 := (ni_le (b := 12) (by omega) (by omega)).mp z2
        simp only [if_neg (show ¬ 12 < l.length by omega)] at K
        have ix : ∀ i, i < l.length → ((40 : Int32) * x) + nI i = nI (40 * r + i) := fun i hi => by rw [hx]; exact g_ix (cap := 40) (by omega) hr (by omega)
        have loop1 : ∀ (n i : Nat), i + n = l.length → rideB (sL S).1 l i = true → pm_G (d + 5) mX7_rides 60 [some (.ref 65), some (.int x), some (.int (nI i)), l3, l4] [] m Q := by
          intro n
          induction n with
          | zero =>
            intro i hi hb
            have hin2 : i = l.length := by omega
            subst hin2
            simp only [if_pos hb] at K
            refine gX7_rides_60 ?_ hin ?_ ?_ <;> rw [hcl, g.1]
            · intro z; exact absurd (Int32.le_refl _) z
            · intro _
              refine c7_asideS h (fun m' h' hG hA hb2 => gX7_rides_104 ?_)
              have hN := h'.2.2.2.2.1
              have d0 : dj (sS S) := dj_replay _ _ _
              have ok0 := hA.2.2.2
              rw [hN.2.2.2.1]
              have loop2 : ∀ (n i : Nat) (m1 : pmMem) (l4 : Option Value), i + n = l.length → asideG (sS S).1 (fateC (rideS (sL S) (sS S) l i)) m1 → agA scrR m' m1 → pm_G (d + 5) mX7_rides 111 [some (.ref 65), some (.int x), some (.int (rideS (sL S) (sS S) l i).2.2.1), some (.int (nI i)), l4] [] m1 Q := by
                intro n
                induction n with
                | zero =>
                  intro i m1 l4 hi hG1 ha
                  have hin3 : i = l.length := by omega
                  subst hin3
                  have h1 : RR S m1 := by
                    refine RR_scr h' ha (fun c z => by unfold scrR at z; omega) ⟨by rw [hG1.1]; exact hG1.2.1, by rw [hG1.2.2.1, lst_len], ?_⟩
                    rw [ha.2.2 82 (by unfold scrR; omega), ha.2.2 83 (by unfold scrR; omega), ha.2.2 84 (by unfold scrR; omega), ha.2.2 85 (by unfold scrR; omega), ha.2.2 86 (by unfold scrR; omega)]
                    exact h'.2.2.2.2.2.2.1.2.2
                  obtain ⟨p1, p2, p3⟩ := h1.1
                  have gg := p3 r hr
                  rw [ho] at gg
                  have hin4 : vp_in x (m1.2.1 67).length := by rw [hx, p2]; exact ni_in hr (by omega)
                  refine gX7_rides_111 ?_ hin4 ?_ ?_ <;> rw [hcl, gg.1]
                  · intro z; exact absurd (Int32.le_refl _) z
                  · intro _ m2 e2
                    have hG2 : asideG (sS S).1 (fateC (rideS (sL S) (sS S) l l.length)) m2 := by rw [e2]; exact hG1
                    refine c7_cursedAside hG2 (gX7_rides_186 ?_)
                    have okl := rideS_ok (L := sL S) (l := l) ok0 l.length
                    rw [show curS (fateC (rideS (sL S) (sS S) l l.length)) = (rideS (sL S) (sS S) l l.length).2.2.2.2 from dj_fate (rideS_dj d0 _) okl.2.2.2]
                    refine c7_ones okl.2.2.2 (gX7_rides_189 ?_)
                    rw [e2]
                    exact K _ (RR_tell h1) (ag_trans hb2 (ag_trans (ag_mono (fun c z => by unfold scrR at z; omega) ha.ag) (ag_F (ag_refl _ _) (by omega))))
                  · intro z; exact absurd (Int32.le_refl _) z
                | succ n ih =>
                  intro i m1 l4 hi hG1 ha
                  obtain ⟨p1, p2, p3⟩ := h'.1
                  have gg := p3 r hr
                  rw [ho] at gg
                  have e66 : m1.2.1 66 = m'.2.1 66 := ha.2.2 66 (by unfold scrR; omega)
                  have e67 : m1.2.1 67 = m'.2.1 67 := ha.2.2 67 (by unfold scrR; omega)
                  have f15 : m1.1 65 15 = nI (sS S).2.1 := by rw [ha.1]; exact hN.2.2.1
                  have hL1 : landR (sL S) m1 := landR_scr h'.2.2.1 ha
                  have hin4 : vp_in x (m1.2.1 67).length := by rw [e67, hx, p2]; exact ni_in hr (by omega)
                  have hi66 : vp_in (((40 : Int32) * x) + nI i) (m1.2.1 66).length := by rw [e66, p1, ix i (by omega)]; exact ni_in (by omega) (by omega)
                  obtain ⟨q, hq⟩ := rideB_all l.length hb i (by omega)
                  obtain ⟨t1, t2⟩ := idx_spec (n := (sL S).1) (by omega) hq
                  have val : (m1.2.1 66).getD (((40 : Int32) * x) + nI i).toNatClampNeg 0 = nI q := by rw [e66, ix i (by omega), ni_cl (by omega), gg.2.2 i (by omega)]; exact t2
                  have e : (nI l.length ≤ nI i) ↔ l.length ≤ i := ni_le (by omega) (by omega)
                  have rg := rideS_g (L := sL S) (s := sS S) (l := l) i
                  have hd : (sS S).2.1 < 1000 := by have := ok0.2.1; omega
                  have ew : wordI (sumS ((sL S).2 q).1 ((sL S).2 q).2.1 ((sL S).2 q).2.2 (sS S).1 (sS S).2.1) = wordC (sL S) (rideS (sL S) (sS S) l i) q := by unfold wordC sumC; rw [rg.1, rg.2]
                  have esn : seenS ((sL S).2 q).1 ((sL S).2 q).2.1 ((sL S).2 q).2.2 (sS S).1 (sS S).2.1 = seenC (sL S) (rideS (sL S) (sS S) l i) q := by unfold seenC; rw [rg.1, rg.2]
                  have w3 : wordC (sL S) (rideS (sL S) (sS S) l i) q < 3 := wordI_lt _
                  refine gX7_rides_111 (fun _ => hi66) hin4 ?_ ?_ <;> rw [hcl, e67, gg.1, e]
                  · intro z; omega
                  · intro _
                    rw [val, f15]
                    refine c7_wordFrom hL1 hG1.1 hG1.2.1 t1 hd (gX7_rides_140 ?_)
                    rw [ew]
                    refine c7_feeOf w3 (gX7_rides_148 hi66 ?_)
                    rw [val, f15]
                    refine c7_say hL1 hG1 t1 hd w3 (fun m2 a2 b2 => gX7_rides_171 ?_)
                    rw [nI_1]
                    rw [esn, sayK_fate] at a2
                    have nx := ih (i + 1) m2 (some (.int (nI (wordC (sL S) (rideS (sL S) (sS S) l i) q)))) (by omega) (by simp only [rideS]; rw [t2, ni_cl (by omega)]; exact a2) (agA_trans ha b2)
                    simp only [rideS] at nx
                    rw [t2, ni_cl (by omega)] at nx
                    exact nx
              exact loop2 l.length 0 m' _ (by omega) hG (agA_refl _ _)
            · intro z; exact absurd (Int32.le_refl _) z
          | succ n ih =>
            intro i hi hb
            have e : (nI l.length ≤ nI i) ↔ l.length ≤ i := ni_le (by omega) (by omega)
            refine gX7_rides_60 ?_ hin ?_ ?_ <;> rw [hcl, g.1, e]
            · intro _; rw [ix i (by omega), q1]; exact ni_in (by omega) (by omega)
            · intro z; omega
            · intro _
              rw [ix i (by omega), ni_cl (by omega), g.2.2 i (by omega)]
              refine c7_isHill hL (fun q hq _ _ => ?_) (fun hq => ?_)
              · refine gX7_rides_85 (fun _ => ?_) (fun z => absurd z (by decide))
                rw [nI_1]
                exact ih (i + 1) (by omega) (by simp only [rideB, hb, hq]; rfl)
              · have nb : ¬ rideB (sL S).1 l l.length = true := by rw [rideB_no hq l.length (by omega)]; decide
                simp only [if_neg nb] at K
                exact gX7_rides_85 (fun z => absurd rfl z) (fun _ => c7_find (f := 3) (by omega) (by omega) h (fun m' g1 g2 => gX7_rides_93 (K m' g1 g2)))
        exact loop1 l.length 0 (by omega) rfl
    · intro _ hz z1 z2 _
      rw [if_neg hz] at K
      cases ho : sR S r with
      | none => rw [ho] at g; have g : (m.2.1 67).getD r 0 = -1 := g; rw [g] at z1; exact absurd (by decide) z1
      | some l =>
        rw [ho] at g K
        have gl := g.2.1
        rw [g.1] at z2
        have l12 : ¬ l.length ≤ 12 := fun w => z2 ((ni_le (b := 12) (by omega) (by omega)).mpr w)
        simp only [if_pos (show 12 < l.length by omega)] at K
        exact bad 5 (by omega) (by omega) K
    · intro _ _ z1 _ z3
      exact absurd z3 (by rw [Int32.le_iff_toInt_le]; rw [Int32.lt_iff_toInt_lt] at z1; intro w; omega)
    · intro _ hz
      rw [if_pos hz] at K
      exact K m h (ag_refl _ _)
  · simp only [o_rides, hi] at K
    exact gX7_rides_4 (fun z => absurd rfl z) (fun z => absurd rfl z) (fun z => absurd rfl z) (fun z => absurd rfl z) (fun z => absurd rfl z) (fun z => absurd rfl z) (fun z => absurd rfl z) (fun z => absurd rfl z) (fun z => absurd rfl z) (fun z => absurd rfl z) (fun _ => K m h (ag_refl _ _))
end RIDES
