/-! digest -/
def mix (h : Int64) (x : Int32) : Int64 := (31 * h) + Int32.toInt64 x
def foldM (f : Nat → Int32) : Nat → Int64 → Int64
  | 0, h => h
  | n + 1, h => mix (foldM f n h) (f n)
def shMix (o : Option (List Int32)) (h : Int64) : Int64 := match o with
  | none => mix h (-1)
  | some l => foldM (fun i => l.getD i 0) l.length (mix h (nI l.length))
def foldS (R : Nat → Option (List Int32)) : Nat → Int64 → Int64
  | 0, h => h
  | n + 1, h => shMix (R n) (foldS R n h)
def foldH (S : Sg) : Nat → Int64 → Int64
  | 0, h => h
  | n + 1, h => foldM (hillF S n) 6 (foldH S n h)
def keptV (S : Sg) (k : Nat) : Int32 := match sK S k with
  | none => -1
  | some ds => nI ds.length
def dig1 (S : Sg) : Int64 := foldM (countF S) 11 17
def dig2 (S : Sg) : Int64 := if (sL S).1 = 0 then dig1 S else foldM (fun i => (sS S).1.getD i 0) 12 (dig1 S)
def dig3 (S : Sg) : Int64 := foldH S (sL S).1 (dig2 S)
def dig4 (S : Sg) : Int64 := foldM (keptV S) 3 (dig3 S)
def digF (S : Sg) : Int64 := foldS (sT S) 4 (foldS (sR S) 6 (dig4 S))
theorem nle_ni {k i : Nat} (hk : k < 1000) (h : i < k) : ¬ nI k ≤ nI i := by
  intro z
  have := (ni_le (by omega) (by omega)).mp z
  omega
section DIG
variable {d : Nat} {m : pmMem} {Q : Option Value → pmMem → Prop} {S : Sg}
theorem o_count_k {k : Nat} (hk : k < 11) : o_count S (nI k) = countF S k := by unfold o_count; rw [idx_ni hk (by omega)]
theorem c_sizeN {cap a : Nat} (hc : pm_kd a = 5) (h : sheetM none cap a m) (K : Q (some (.int (-1))) m) : pm_G d mX5_size 0 [some (.ref a)] [] m Q := by
  refine gX5_size_0 hc ?_
  rw [h.2]; exact K
theorem c_mixSheets {R : Nat → Option (List Int32)} {a0 n cap b : Nat} {h0 : Int64} {l1 l3 l4 : Option Value} (c : pm_kd a0 = 10) (hn : pm_rl a0 = n) (hn6 : n ≤ 6) (hcap : cap < 1000) (hr : ∀ r, r < n → pm_ra a0 (nI r).toNatClampNeg = b + 2 * r ∧ pm_kd (b + 2 * r) = 5 ∧ sheetM (R r) cap (b + 2 * r) m) (K : Q (some (.long (foldS R n h0))) m) : pm_G (d + 2) mX6_mixSheets 0 [some (.long h0), l1, some (.ref a0), l3, l4] [] m Q := by
  have loop : ∀ (k i : Nat) (l1 l4 : Option Value), i + k = n → pm_G (d + 2) mX6_mixSheets 2 [some (.long (foldS R i h0)), l1, some (.ref a0), some (.int (nI i)), l4] [] m Q := by
    intro k
    induction k with
    | zero =>
      intro i l1 l4 hi
      have hin : i = n := by omega
      subst hin
      have le : Int32.ofNat (pm_rl a0) ≤ nI i := by rw [hn]; exact Int32.le_refl _
      exact gX6_mixSheets_2 c (fun z => absurd le z) (fun _ => K) (fun z => absurd le z)
    | succ k ih =>
      intro i l1 l4 hi
      have n1 : ¬ Int32.ofNat (pm_rl a0) ≤ nI i := by
        rw [hn]
        exact nle_ni (k := n) (by omega) (by omega)
      have nx := fun l1 l4 => ih (i + 1) l1 l4 (by omega)
      obtain ⟨r1, r2, r3⟩ := hr i (by omega)
      have hin : vp_in (nI i) (pm_rl a0) := by rw [hn]; exact ni_in (by omega) (by omega)
      refine gX6_mixSheets_2 c (fun _ => hin) (fun z => absurd z n1) (fun _ => ?_)
      rw [r1]
      simp only [foldS] at nx
      cases ho : R i with
      | none =>
        rw [ho] at r3 nx
        refine c_sizeN r2 r3 (gX6_mixSheets_19 (gX6_mixSheets_25 c hin ?_))
        rw [r1]
        refine c_sizeN r2 r3 (gX6_mixSheets_33 c (fun _ => hin) (fun _ => ?_) (fun z => absurd (by decide) z))
        rw [nI_1]
        exact nx _ _
      | some l =>
        rw [ho] at r3 nx
        have ll := r3.2.2.1
        refine c_size r2 r3 (gX6_mixSheets_19 ?_)
        have inner : ∀ (q t : Nat) (l1 : Option Value), t + q = l.length → pm_G (d + 2) mX6_mixSheets 25 [some (.long (foldM (fun i => l.getD i 0) t (mix (foldS R i h0) (nI l.length)))), l1, some (.ref a0), some (.int (nI i)), some (.int (nI t))] [] m Q := by
          intro q
          induction q with
          | zero =>
            intro t l1 ht
            have e : t = l.length := by omega
            subst e
            refine gX6_mixSheets_25 c hin ?_
            rw [r1]
            refine c_size r2 r3 (gX6_mixSheets_33 c (fun _ => hin) (fun _ => ?_) (fun z => absurd (Int32.le_refl _) z))
            rw [nI_1]
            exact nx _ _
          | succ q ihq =>
            intro t l1 ht
            refine gX6_mixSheets_25 c hin ?_
            rw [r1]
            refine c_size r2 r3 (gX6_mixSheets_33 c (fun _ => hin) (fun z => absurd z (nle_ni (by omega) (by omega))) (fun _ => ?_))
            rw [r1]
            refine c_get r2 r3 hcap (by omega) (gX6_mixSheets_49 ?_)
            rw [nI_1]
            exact ihq (t + 1) _ (by omega)
        exact inner l.length 0 _ (by omega)
  exact gX6_mixSheets_0 (loop n 0 _ _ (by omega))
theorem C_digest {l1 l2 l3 l4 : Option Value} (h : RC S m) (K : Q (some (.long (digF S))) m) : pm_G (d + 5) mX6_digest 0 [some (.ref 0), l1, l2, l3, l4] [] m Q := by
  have hL := h.2.2.1
  have hL6 := hL.2.1
  have hC := h.2.2.2.1
  have hK := h.2.2.2.2.1
  have e18 : m.2.1 18 = (sS S).1 := hC.1.1
  have l18 : (m.2.1 18).length = 12 := by rw [e18]; exact hC.1.2.2.2.2.2.1
  have loop4 : ∀ (k i : Nat) (l2 l4 : Option Value), i + k = 3 → pm_G (d + 5) mX6_digest 121 [some (.ref 0), some (.long (foldM (keptV S) i (dig3 S))), l2, some (.int (nI i)), l4] [] m Q := by
    intro k
    induction k with
    | zero =>
      intro i l2 l4 hi
      have e : i = 3 := by omega
      subst e
      refine gX6_digest_121 (fun z => absurd (by decide) z) (fun z => absurd (by decide) z) (fun _ => ?_) (fun z => absurd (by decide) z) (fun z => absurd (by decide) z)
      refine c_mixSheets (R := sR S) (n := 6) (cap := 40) (b := 33) rfl rfl (by omega) (by omega) (fun r hr => ⟨ra_row hr, kd_row hr, h.1 r hr⟩) (gX6_digest_170 ?_)
      exact c_mixSheets (R := sT S) (n := 4) (cap := 60) (b := 45) rfl rfl (by omega) (by omega) (fun r hr => ⟨ra_text hr, kd_text hr, h.2.1 r hr⟩) (gX6_digest_177 K)
    | succ k ih =>
      intro i l2 l4 hi
      have n1 : ¬ (3 : Int32) ≤ nI i := nle_ni (k := 3) (by omega) (by omega)
      have nx := fun l2 l4 => ih (i + 1) l2 l4 (by omega)
      simp only [foldM] at nx
      obtain ⟨kl, kk⟩ := hK.2 i (by omega)
      refine gX6_digest_121 (fun _ _ => ni_in (n := 3) (by omega) (by omega)) (fun _ => by rw [hK.1]; exact ni_in (by omega) (by omega)) (fun z => absurd z n1) ?_ ?_ <;> rw [ni_cl (by omega)]
      · intro _ z
        cases ho : sK S i with
        | none =>
          have ev : keptV S i = -1 := by unfold keptV; rw [ho]
          rw [ev] at nx
          rw [nI_1]; exact nx _ _
        | some ds => rw [ho] at kk; have kk1 : (m.2.1 25).getD i 0 = 1 := kk.1; rw [kk1] at z; exact absurd z (by decide)
      · intro _ z v1 ev1
        cases ho : sK S i with
        | none => rw [ho] at kk; exact absurd kk z
        | some ds =>
          rw [ho] at kk
          have kF : campF (sP S) ds (replay (sL S) (sP S) ds) (53 + 4 * i) m := kk.2
          have ev : keptV S i = nI ds.length := by unfold keptV; rw [ho]
          rw [ev] at nx
          have er := ra_kept (k := i) (by omega)
          rw [ni_cl (by omega)] at er
          rw [er, kF.2.2.2.1] at ev1
          rw [nI_1, ev1]; exact nx _ _
  have loop3 : ∀ (k i : Nat) (l2 l4 : Option Value), i + k = (sL S).1 → pm_G (d + 5) mX6_digest 71 [some (.ref 0), some (.long (foldH S i (dig2 S))), l2, some (.int (nI i)), l4] [] m Q := by
    intro k
    induction k with
    | zero =>
      intro i l2 l4 hi
      have e : i = (sL S).1 := by omega
      subst e
      have le : m.1 8 1 ≤ nI (sL S).1 := by rw [hL.1]; exact Int32.le_refl _
      exact gX6_digest_71 (fun _ => loop4 3 0 _ _ (by omega)) (fun z => absurd le z)
    | succ k ih =>
      intro i l2 l4 hi
      have n1 : ¬ m.1 8 1 ≤ nI i := by rw [hL.1]; exact nle_ni (by omega) (by omega)
      refine gX6_digest_71 (fun z => absurd z n1) (fun _ => ?_)
      have inner : ∀ (q t : Nat) (l2 : Option Value), t + q = 6 → pm_G (d + 5) mX6_digest 85 [some (.ref 0), some (.long (foldM (hillF S i) t (foldH S i (dig2 S)))), l2, some (.int (nI i)), some (.int (nI t))] [] m Q := by
        intro q
        induction q with
        | zero =>
          intro t l2 ht
          have e : t = 6 := by omega
          subst e
          refine gX6_digest_85 (fun _ => ?_) (fun z => absurd (by decide) z)
          rw [nI_1]
          exact ih (i + 1) _ _ (by omega)
        | succ q ihq =>
          intro t l2 ht
          refine gX6_digest_85 (fun z => absurd z (nle_ni (k := 6) (by omega) (by omega))) (fun _ => c_hillFact h (by omega) (by omega) (gX6_digest_104 ?_))
          rw [nI_1]
          exact ihq (t + 1) _ (by omega)
      exact inner 6 0 _ (by omega)
  have loop2 : (sL S).1 ≠ 0 → ∀ (k i : Nat) (l2 l4 : Option Value), i + k = 12 → pm_G (d + 5) mX6_digest 40 [some (.ref 0), some (.long (foldM (fun i => (sS S).1.getD i 0) i (dig1 S))), l2, some (.int (nI i)), l4] [] m Q := by
    intro hz k
    induction k with
    | zero =>
      intro i l2 l4 hi
      have e : i = 12 := by omega
      subst e
      refine gX6_digest_40 (fun z => absurd (by decide) z) (fun _ => ?_) (fun z => absurd (by decide) z)
      have nx := fun l2 l4 => loop3 (sL S).1 0 l2 l4 (by omega)
      simp only [foldH, dig2, if_neg hz] at nx
      exact nx _ _
    | succ k ih =>
      intro i l2 l4 hi
      refine gX6_digest_40 (fun _ => by rw [l18]; exact ni_in (by omega) (by omega)) (fun z => absurd z (n12 (by omega))) (fun _ v1 e1 => ?_)
      rw [ni_cl (by omega), e18] at e1
      rw [nI_1, e1]
      exact ih (i + 1) _ _ (by omega)
  have loop1 : ∀ (k i : Nat) (l2 l4 : Option Value), i + k = 11 → pm_G (d + 5) mX6_digest 6 [some (.ref 0), some (.long (foldM (countF S) i 17)), l2, some (.int (nI i)), l4] [] m Q := by
    intro k
    induction k with
    | zero =>
      intro i l2 l4 hi
      have e : i = 11 := by omega
      subst e
      refine gX6_digest_6 (fun _ => c_hasNoHills hL (fun hz => ?_) (fun hz => ?_)) (fun z => absurd (by decide) z)
      · refine gX6_digest_35 (fun _ => ?_) (fun z => absurd z (by decide))
        have nx := fun l2 l4 => loop3 (sL S).1 0 l2 l4 (by omega)
        simp only [foldH, dig2, if_pos hz] at nx
        exact nx _ _
      · exact gX6_digest_35 (fun z => absurd rfl z) (fun _ => loop2 hz 12 0 _ _ (by omega))
    | succ k ih =>
      intro i l2 l4 hi
      refine gX6_digest_6 (fun z => absurd z (nle_ni (k := 11) (by omega) (by omega))) (fun _ => C_count h ?_)
      rw [o_count_k (by omega)]
      refine gX6_digest_22 ?_
      rw [nI_1]
      exact ih (i + 1) _ _ (by omega)
  exact gX6_digest_0 (loop1 11 0 _ _ (by omega))
theorem R_digest {l1 l2 l3 l4 : Option Value} (h : RR S m) (K : ∀ m', RR S m' → ag (fun c => 65 ≤ c) m m' → Q (some (.long (digF S))) m') : pm_G (d + 5) mX7_digest 0 [some (.ref 65), l1, l2, l3, l4] [] m Q := by
  have loop1 : ∀ (k i : Nat) (l2 l4 : Option Value), i + k = 11 → pm_G (d + 5) mX7_digest 6 [some (.ref 65), some (.long (foldM (countF S) i 17)), l2, some (.int (nI i)), l4] [] m Q := by
    intro k
    induction k with
    | zero =>
      intro i l2 l4 hi
      have e : i = 11 := by omega
      subst e
      refine gX7_digest_6 (fun _ => c7_asideS h (fun m1 h1 hG hA hb => gX7_digest_35 ?_)) (fun z => absurd (by decide) z)
      have hL := h1.2.2.1
      have hL6 := hL.2.1
      have hK := h1.2.2.2.2.2.1
      have hR := h1.1
      have hT := h1.2.1
      have e77 : m1.2.1 77 = (sS S).1 := h1.2.2.2.2.1.1
      have l77 : (m1.2.1 77).length = 12 := by rw [e77]; exact hG.2.1
      have Kf := K m1 h1 hb
      have loop6 : ∀ (k i : Nat) (l2 l4 : Option Value), i + k = 4 → pm_G (d + 5) mX7_digest 268 [some (.ref 65), some (.long (foldS (sT S) i (foldS (sR S) 6 (dig4 S)))), l2, some (.int (nI i)), l4] [] m1 Q := by
        intro k
        induction k with
        | zero =>
          intro i l2 l4 hi
          have e : i = 4 := by omega
          subst e
          exact gX7_digest_268 (fun z => absurd (by decide) z) (fun _ => Kf) (fun z => absurd (by decide) z)
        | succ k ih =>
          intro i l2 l4 hi
          have nx := fun l2 l4 => ih (i + 1) l2 l4 (by omega)
          simp only [foldS] at nx
          have g := hT.2.2 i (by omega)
          have hin : vp_in (nI i) (m1.2.1 69).length := by rw [hT.2.1]; exact ni_in (by omega) (by omega)
          have hcl : (nI i).toNatClampNeg = i := ni_cl (by omega)
          refine gX7_digest_268 (fun _ => hin) (fun z => absurd z (nle_ni (k := 4) (by omega) (by omega))) (fun _ v1 e1 => ?_)
          rw [hcl] at e1
          cases ho : sT S i with
          | none =>
            rw [ho] at g nx
            have g : (m1.2.1 69).getD i 0 = -1 := g
            rw [g] at e1
            refine gX7_digest_290 ?_ hin ?_ ?_ <;> rw [hcl, g]
            · intro z; exact absurd (by decide) z
            · intro _
              rw [nI_1, e1]; exact nx _ _
            · intro z; exact absurd (by decide) z
          | some l =>
            rw [ho] at g nx
            have gl := g.2.1
            rw [g.1] at e1
            have ix : ∀ t, t < l.length → ((60 : Int32) * nI i) + nI t = nI (60 * i + t) := fun t ht => g_ix (cap := 60) (by omega) (by omega) (by omega)
            have inner : ∀ (q t : Nat) (l2 : Option Value), t + q = l.length → pm_G (d + 5) mX7_digest 290 [some (.ref 65), some (.long (foldM (fun i => l.getD i 0) t (mix (foldS (sT S) i (foldS (sR S) 6 (dig4 S))) (nI l.length)))), l2, some (.int (nI i)), some (.int (nI t))] [] m1 Q := by
              intro q
              induction q with
              | zero =>
                intro t l2 ht
                have e : t = l.length := by omega
                subst e
                refine gX7_digest_290 ?_ hin ?_ ?_ <;> rw [hcl, g.1]
                · intro z; exact absurd (Int32.le_refl _) z
                · intro _; rw [nI_1]; exact nx _ _
                · intro z; exact absurd (Int32.le_refl _) z
              | succ q ihq =>
                intro t l2 ht
                refine gX7_digest_290 ?_ hin ?_ ?_ <;> rw [hcl, g.1]
                · intro _; rw [ix t (by omega), hT.1]; exact ni_in (by omega) (by omega)
                · intro z; exact absurd z (nle_ni (by omega) (by omega))
                · intro _ v2 e2
                  rw [ix t (by omega), ni_cl (by omega), g.2.2 t (by omega)] at e2
                  rw [nI_1, e2]
                  exact ihq (t + 1) _ (by omega)
            rw [e1]
            exact inner l.length 0 _ (by omega)
      have loop5 : ∀ (k i : Nat) (l2 l4 : Option Value), i + k = 6 → pm_G (d + 5) mX7_digest 200 [some (.ref 65), some (.long (foldS (sR S) i (dig4 S))), l2, some (.int (nI i)), l4] [] m1 Q := by
        intro k
        induction k with
        | zero =>
          intro i l2 l4 hi
          have e : i = 6 := by omega
          subst e
          exact gX7_digest_200 (fun z => absurd (by decide) z) (fun _ => loop6 4 0 _ _ (by omega)) (fun z => absurd (by decide) z)
        | succ k ih =>
          intro i l2 l4 hi
          have nx := fun l2 l4 => ih (i + 1) l2 l4 (by omega)
          simp only [foldS] at nx
          have g := hR.2.2 i (by omega)
          have hin : vp_in (nI i) (m1.2.1 67).length := by rw [hR.2.1]; exact ni_in (by omega) (by omega)
          have hcl : (nI i).toNatClampNeg = i := ni_cl (by omega)
          refine gX7_digest_200 (fun _ => hin) (fun z => absurd z (nle_ni (k := 6) (by omega) (by omega))) (fun _ v1 e1 => ?_)
          rw [hcl] at e1
          cases ho : sR S i with
          | none =>
            rw [ho] at g nx
            have g : (m1.2.1 67).getD i 0 = -1 := g
            rw [g] at e1
            refine gX7_digest_223 ?_ hin ?_ ?_ <;> rw [hcl, g]
            · intro z; exact absurd (by decide) z
            · intro _
              rw [nI_1, e1]; exact nx _ _
            · intro z; exact absurd (by decide) z
          | some l =>
            rw [ho] at g nx
            have gl := g.2.1
            rw [g.1] at e1
            have ix : ∀ t, t < l.length → ((40 : Int32) * nI i) + nI t = nI (40 * i + t) := fun t ht => g_ix (cap := 40) (by omega) (by omega) (by omega)
            have inner : ∀ (q t : Nat) (l2 : Option Value), t + q = l.length → pm_G (d + 5) mX7_digest 223 [some (.ref 65), some (.long (foldM (fun i => l.getD i 0) t (mix (foldS (sR S) i (dig4 S)) (nI l.length)))), l2, some (.int (nI i)), some (.int (nI t))] [] m1 Q := by
              intro q
              induction q with
              | zero =>
                intro t l2 ht
                have e : t = l.length := by omega
                subst e
                refine gX7_digest_223 ?_ hin ?_ ?_ <;> rw [hcl, g.1]
                · intro z; exact absurd (Int32.le_refl _) z
                · intro _; rw [nI_1]; exact nx _ _
                · intro z; exact absurd (Int32.le_refl _) z
              | succ q ihq =>
                intro t l2 ht
                refine gX7_digest_223 ?_ hin ?_ ?_ <;> rw [hcl, g.1]
                · intro _; rw [ix t (by omega), hR.1]; exact ni_in (by omega) (by omega)
                · intro z; exact absurd z (nle_ni (by omega) (by omega))
                · intro _ v2 e2
                  rw [ix t (by omega), ni_cl (by omega), g.2.2 t (by omega)] at e2
                  rw [nI_1, e2]
                  exact ihq (t + 1) _ (by omega)
            rw [e1]
            exact inner l.length 0 _ (by omega)
      have loop4 : ∀ (k i : Nat) (l2 l4 : Option Value), i + k = 3 → pm_G (d + 5) mX7_digest 173 [some (.ref 65), some (.long (foldM (keptV S) i (dig3 S))), l2, some (.int (nI i)), l4] [] m1 Q := by
        intro k
        induction k with
        | zero =>
          intro i l2 l4 hi
          have e : i = 3 := by omega
          subst e
          exact gX7_digest_173 (fun z => absurd (by decide) z) (fun _ => loop5 6 0 _ _ (by omega)) (fun z => absurd (by decide) z)
        | succ k ih =>
          intro i l2 l4 hi
          have nx := fun l2 l4 => ih (i + 1) l2 l4 (by omega)
          simp only [foldM] at nx
          have kk := hK.2.2 i (by omega)
          refine gX7_digest_173 (fun _ => by rw [hK.2.1]; exact ni_in (by omega) (by omega)) (fun z => absurd z (nle_ni (k := 3) (by omega) (by omega))) (fun _ v1 e1 => ?_)
          rw [ni_cl (by omega)] at e1
          have ev : (m1.2.1 76).getD i 0 = keptV S i := by
            unfold keptV
            cases ho : sK S i with
            | none => rw [ho] at kk; exact kk
            | some ds => rw [ho] at kk; exact kk.1
          rw [ev] at e1
          rw [nI_1, e1]
          exact nx _ _
      have loop3 : ∀ (k i : Nat) (l2 l4 : Option Value), i + k = (sL S).1 → pm_G (d + 5) mX7_digest 72 [some (.ref 65), some (.long (foldH S i (dig2 S))), l2, some (.int (nI i)), l4] [] m1 Q := by
        intro k
        induction k with
        | zero =>
          intro i l2 l4 hi
          have e : i = (sL S).1 := by omega
          subst e
          have le : m1.1 65 4 ≤ nI (sL S).1 := by rw [hL.1]; exact Int32.le_refl _
          exact gX7_digest_72 (fun z => absurd le z) (fun z => absurd le z) (fun z => absurd le z) (fun _ => loop4 3 0 _ _ (by omega)) (fun z => absurd le z)
        | succ k ih =>
          intro i l2 l4 hi
          have n1 : ¬ m1.1 65 4 ≤ nI i := by rw [hL.1]; exact nle_ni (by omega) (by omega)
          obtain ⟨g0, g1, g2, g3, g4, g5, g6⟩ := hL.2.2.2.2.2 i (by omega)
          refine gX7_digest_72 (fun _ => by rw [hL.2.2.2.2.1]; exact ni_in (by omega) (by omega)) (fun _ => by rw [hL.2.2.2.1]; exact ni_in (by omega) (by omega)) (fun _ => by rw [hL.2.2.1]; exact ni_in (by omega) (by omega)) (fun z => absurd z n1) (fun _ v1 e1 => ?_)
          rw [ni_cl (by omega), g0, g1, g2] at e1
          refine c7_seenFromS hA (by omega) (gX7_digest_138 (c7_sumFromS hA (by omega) (gX7_digest_150 (c7_wordFromS hA (by omega) (gX7_digest_162 ?_)))))
          rw [nI_1, e1]
          exact ih (i + 1) _ _ (by omega)
      have z0 : (m1.1 65 4 ≤ 0) ↔ (sL S).1 = 0 := by
        rw [hL.1, show (0 : Int32) = nI 0 from rfl, ni_le (by omega) (by omega)]; omega
      by_cases hz : (sL S).1 = 0
      · refine gX7_digest_37 (fun _ z => absurd (z0.mpr hz) z) (fun z => absurd z (by decide)) (fun _ _ => ?_) (fun _ z => absurd (z0.mpr hz) z)
        have nx := fun l2 l4 => loop3 (sL S).1 0 l2 l4 (by omega)
        simp only [foldH, dig2, if_pos hz] at nx
        exact nx _ _
      · have loop2 : ∀ (k i : Nat) (l2 l4 : Option Value), i + k = 12 → pm_G (d + 5) mX7_digest 37 [some (.ref 65), some (.long (foldM (fun i => (sS S).1.getD i 0) i (dig1 S))), l2, some (.int (nI i)), l4] [] m1 Q := by
          intro k
          induction k with
          | zero =>
            intro i l2 l4 hi
            have e : i = 12 := by omega
            subst e
            refine gX7_digest_37 (fun z => absurd (by decide) z) (fun _ => ?_) (fun z => absurd (by decide) z) (fun z => absurd (by decide) z)
            have nx := fun l2 l4 => loop3 (sL S).1 0 l2 l4 (by omega)
            simp only [foldH, dig2, if_neg hz] at nx
            exact nx _ _
          | succ k ih =>
            intro i l2 l4 hi
            refine gX7_digest_37 (fun _ _ => by rw [l77]; exact ni_in (by omega) (by omega)) (fun z => absurd z (n12 (by omega))) (fun _ z => absurd (z0.mp z) hz) (fun _ _ v1 e1 => ?_)
            rw [ni_cl (by omega), e77] at e1
            rw [nI_1, e1]
            exact ih (i + 1) _ _ (by omega)
        exact loop2 12 0 _ _ (by omega)
    | succ k ih =>
      intro i l2 l4 hi
      refine gX7_digest_6 (fun z => absurd z (nle_ni (k := 11) (by omega) (by omega))) (fun _ => R_count h ?_)
      rw [o_count_k (by omega)]
      refine gX7_digest_22 ?_
      rw [nI_1]
      exact ih (i + 1) _ _ (by omega)
  exact gX7_digest_0 (loop1 11 0 _ _ (by omega))
end DIG
