section OPC3
variable {d : Nat} {m : pmMem} {Q : Option Value → pmMem → Prop} {S : Sg}
theorem C_on {x : Int32} (h : RC S m) (K : okC (o_on S x) m Q) : pm_G (d + 5) mX6_on 0 [some (.ref 0), some (.int x)] [] m Q := by
  have hC := h.2.2.2.1
  have hK := h.2.2.2.2.1
  have h9 := h.2.2.2.2.2.2.2.2
  refine gX6_on_0 (c_isKeepingPlace (fun k hi hk hx => ?_) (fun hi => ?_))
  · simp only [o_on, hi] at K
    have hcl : x.toNatClampNeg = k := by rw [hx]; exact ni_cl (by omega)
    have hin : vp_in x (m.2.1 25).length := by rw [hx, hK.1]; exact ni_in hk (by omega)
    have hin3 : vp_in x (pm_rl 24) := by rw [hx]; exact ni_in (n := 3) hk (by omega)
    have g := (hK.2 k hk).2
    refine gX6_on_4 (fun _ _ => hin3) (fun _ => hin) ?_ ?_ (fun z => absurd z (by decide)) <;> rw [hcl]
    · intro _ hz
      cases ho : sK S k with
      | none => rw [ho] at g; exact absurd g hz
      | some ds =>
        rw [ho] at g K
        rw [show pm_ra 24 k = 53 + 4 * k by have := ra_kept hk; rw [ni_cl (by omega)] at this; exact this]
        have F := hC
        refine c_take rfl (kd_kept hk) (by omega) ⟨by rw [F.2.1]; exact F.2.2.1, by rw [F.1.1]; exact F.1.2.2.2.2.2.1, F.2.2.2.2.2.1⟩ g.2 (fun m' a b => gX6_on_37 ?_)
        rw [a.2.2.2.1]
        refine K m' (RC_deeds h a b (h9.2.1 k ds ho) ?_) (ag_mono (fun c z => by unfold inC at z; omega) b)
        intro z
        rw [(h9.2.2 z).2 k] at ho; cases ho
    · intro _ hz
      cases ho : sK S k with
      | none =>
        rw [ho] at K
        exact c_refuse (f := 1) (by omega) (by omega) h (fun m' g1 g2 => gX6_on_23 (K m' g1 g2))
      | some ds =>
        rw [ho] at g
        rw [g.1] at hz
        exact absurd hz (by decide)
  · simp only [o_on, hi] at K
    exact gX6_on_4 (fun z => absurd rfl z) (fun z => absurd rfl z) (fun z => absurd rfl z) (fun z => absurd rfl z) (fun _ => K m h (ag_refl _ _))
end OPC3
/-! the reference: what came aside is the camp as it is -/
def atR (L : Ld) (s : Cs) (m : pmMem) : Prop := landR L m ∧ m.2.1 79 = s.1 ∧ m.1 65 15 = nI s.2.1 ∧ csOk s
theorem RR_scr {S : Sg} {D : Nat → Prop} {m m' : pmMem} (h : RR S m) (ha : agA D m m') (hD : ∀ c, D c → 79 ≤ c ∧ c ≠ 81) (hs : scrRR m') : RR S m' := by
  have ha' : agR D (fun _ => False) (fun _ => False) m m' := agR_agA (agR_refl _ _ _ _) ha (fun _ => id)
  have n : ∀ c, c < 79 → ¬ D c := fun c hc z => by have := hD c z; omega
  exact RR_upd h ha' (Or.inl ⟨rfl, n _ (by omega), n _ (by omega)⟩) (Or.inl ⟨rfl, n _ (by omega), n _ (by omega)⟩) (Or.inl ⟨rfl, id, n _ (by omega), n _ (by omega), n _ (by omega)⟩) (Or.inl ⟨rfl, rfl, n _ (by omega), n _ (by omega), id⟩) (Or.inl ⟨rfl, rfl, rfl, n _ (by omega), n _ (by omega), id, id⟩) (Or.inl ⟨rfl, n _ (by omega), n _ (by omega)⟩) (Or.inr hs) (Or.inl ⟨rfl, id, id, id⟩) (Or.inl ⟨rfl, id, fun z => (hD _ z).2 rfl⟩) h.2.2.2.2.2.2.2.2.2
theorem all4096 {P : Nat → Prop} (key : ∀ a, a < 64 → ∀ b, b < 64 → P (64 * a + b)) (s : Nat) (hs : s < 4096) : P s := by
  have h := key (s / 64) (by omega) (s % 64) (by omega)
  rw [Nat.div_add_mod] at h
  exact h
theorem cnt_step : ∀ s, s < 4096 → s ≠ 0 → cnt (s &&& (s - 1)) + 1 = cnt s ∧ (s &&& (s - 1)) < s := all4096 (P := fun s => s ≠ 0 → cnt (s &&& (s - 1)) + 1 = cnt s ∧ (s &&& (s - 1)) < s) (by decide +kernel)
theorem cnt_le (s : Nat) : cnt s ≤ 12 := pop_le s 12
theorem cnt_0 : ∀ s, s < 4096 → cnt s = 0 → s = 0 := all4096 (P := fun s => cnt s = 0 → s = 0) (by decide +kernel)
section OPR4
variable {d : Nat} {m : pmMem} {Q : Option Value → pmMem → Prop} {S : Sg} {L : Ld} {s : Cs}
theorem c7_ones {t : Nat} {l1 l2 : Option Value} (ht : t < 4096) (K : Q (some (.int (nI (cnt t)))) m) : pm_G d mX7_ones 0 [some (.int (nI t)), l1, l2] [] m Q := by
  have loop : ∀ (n s a : Nat), s < 4096 → cnt s = n → a + n = cnt t → pm_G d mX7_ones 4 [some (.int (nI t)), some (.int (nI a)), some (.int (nI s))] [] m Q := by
    intro n
    induction n with
    | zero =>
      intro s a hs hc ha
      have := cnt_0 s hs hc
      subst this
      refine gX7_ones_4 (fun _ => ?_) (fun z => absurd rfl z)
      rw [show a = cnt t by omega]; exact K
    | succ n ih =>
      intro s a hs hc ha
      have h0 : s ≠ 0 := by
        intro z; subst z
        exact absurd hc (by rw [show cnt 0 = 0 from rfl]; omega)
      obtain ⟨e1, e2⟩ := cnt_step s hs h0
      refine gX7_ones_4 (fun z => absurd ((ni_eq (b := 0) (by omega) (by omega)).mp z) h0) (fun _ => ?_)
      rw [show nI s - 1 = nI (s - 1) from nI_sub (b := 1) (by omega), ni_and, nI_1]
      exact ih _ _ (by omega) (by omega) (by omega)
  exact gX7_ones_0 (loop (cnt t) t 0 ht rfl (by omega))
theorem c7_asideS {l1 : Option Value} (h : RR S m) (K : ∀ m', RR S m' → asideG (sS S).1 (fateC (sS S)) m' → atR (sL S) (sS S) m' → ag (fun c => 65 ≤ c) m m' → Q none m') : pm_G d mX7_aside 0 [some (.ref 65), l1] [] m Q := by
  have hN := h.2.2.2.2.1
  have hs := h.2.2.2.2.2.2.1
  refine c7_aside hN.1 hN.2.2.2.2.1 hN.2.1 (fate_le _) hs.1 hs.2.1 (fun m' a b => ?_)
  have h' : RR S m' := by
    refine RR_scr h b (fun c z => by unfold scrR at z; omega) ?_
    refine ⟨by rw [a.1]; exact a.2.1, by rw [a.2.2.1, lst_len], ?_⟩
    rw [b.2.2 82 (by unfold scrR; omega), b.2.2 83 (by unfold scrR; omega), b.2.2 84 (by unfold scrR; omega), b.2.2 85 (by unfold scrR; omega), b.2.2 86 (by unfold scrR; omega)]
    exact hs.2.2
  refine K m' h' a ⟨h'.2.2.1, a.1, h'.2.2.2.2.1.2.2.1, hN.2.2.2.2⟩ (ag_mono (fun c z => by unfold scrR at z; omega) b.ag)
theorem c7_seenFromS {x : Nat} (h : atR L s m) (hx : x < L.1) (K : Q (some (.int (nI (seenC L s x)))) m) : pm_G (d + 2) mX7_seenFrom 0 [some (.ref 65), some (.int (nI x)), some (.int (m.1 65 15))] [] m Q := by
  have hk := h.2.2.2
  rw [h.2.2.1]
  exact c7_seenFrom h.1 h.2.1 hk.1 hx (by have := hk.2.1; omega) K
theorem c7_sumFromS {x : Nat} (h : atR L s m) (hx : x < L.1) (K : Q (some (.int (sumC L s x))) m) : pm_G (d + 3) mX7_sumFrom 0 [some (.ref 65), some (.int (nI x)), some (.int (m.1 65 15))] [] m Q := by
  have hk := h.2.2.2
  rw [h.2.2.1]
  exact c7_sumFrom h.1 h.2.1 hk.1 hx (by have := hk.2.1; omega) K
theorem c7_wordFromS {x : Nat} (h : atR L s m) (hx : x < L.1) (K : Q (some (.int (nI (wordC L s x)))) m) : pm_G (d + 4) mX7_wordFrom 0 [some (.ref 65), some (.int (nI x)), some (.int (m.1 65 15))] [] m Q := by
  have hk := h.2.2.2
  rw [h.2.2.1]
  exact c7_wordFrom h.1 h.2.1 hk.1 hx (by have := hk.2.1; omega) K
theorem c7_blessing {l1 l2 : Option Value} (hA : atR L s m) (K : Q (some (.int (nI (blessS L s L.1)))) m) : pm_G (d + 5) mX7_blessing 0 [some (.ref 65), l1, l2] [] m Q := by
  have hL := hA.1
  have h6 := hL.2.1
  have loop : ∀ (k h : Nat), h + k = L.1 → pm_G (d + 5) mX7_blessing 4 [some (.ref 65), some (.int (nI (blessS L s h))), some (.int (nI h))] [] m Q := by
    intro k
    induction k with
    | zero =>
      intro h hh
      have hin : h = L.1 := by omega
      subst hin
      have le : m.1 65 4 ≤ nI L.1 := by rw [hL.1]; exact Int32.le_refl _
      exact gX7_blessing_4 (fun _ => K) (fun h => absurd le h)
    | succ k ih =>
      intro h hh
      have n1 : ¬ m.1 65 4 ≤ nI h := by
        rw [hL.1]
        intro z
        have := (ni_le (by omega) (by omega)).mp z
        omega
      have nx := ih (h + 1) (by omega)
      refine gX7_blessing_4 (fun h => absurd h n1) ?_
      intro _
      refine c7_wordFromS hA (by omega) ?_
      have lt : blessS L s h < 2 ^ h := mkS_lt _ h
      have w3 : wordC L s h < 3 := wordI_lt _
      refine gX7_blessing_22 ?_ ?_
      · intro hw
        have hw := ni_ne (n := 1) hw
        rw [nI_1]
        simp only [blessS, mkS, hw] at nx
        simpa [blessS] using nx
      · intro hw
        have hw : wordC L s h = 1 := (ni_eq (by omega) (by omega)).mp hw
        rw [nI_1, ni_shl h (by omega), ni_or, or_add lt]
        simp only [blessS, mkS, hw] at nx
        simpa [blessS] using nx
  exact gX7_blessing_0 (loop L.1 0 (by omega))
theorem c7_seenFromAny {t : Nat} {l2 l3 : Option Value} (hA : atR L s m) (ht : t < 4096) (K : Q (some (.int (nI (anyS L s t L.1)))) m) : pm_G (d + 3) mX7_seenFromAny 0 [some (.ref 65), some (.int (nI t)), l2, l3] [] m Q := by
  have hL := hA.1
  have h6 := hL.2.1
  have loop : ∀ (k i : Nat), i + k = L.1 → pm_G (d + 3) mX7_seenFromAny 4 [some (.ref 65), some (.int (nI t)), some (.int (nI (anyS L s t i))), some (.int (nI i))] [] m Q := by
    intro k
    induction k with
    | zero =>
      intro i hi
      have hin : i = L.1 := by omega
      subst hin
      have le : m.1 65 4 ≤ nI L.1 := by rw [hL.1]; exact Int32.le_refl _
      exact gX7_seenFromAny_4 (fun _ => K) (fun h => absurd le h)
    | succ k ih =>
      intro i hi
      have n1 : ¬ m.1 65 4 ≤ nI i := by
        rw [hL.1]
        intro z
        have := (ni_le (by omega) (by omega)).mp z
        omega
      have nx := ih (i + 1) (by omega)
      refine gX7_seenFromAny_4 (fun h => absurd h n1) (fun _ => c7_has ht (by omega) ?_)
      cases hb : t.testBit i with
      | false =>
        refine gX7_seenFromAny_18 (fun _ => ?_) (fun z => absurd rfl z)
        rw [nI_1]
        simp only [anyS, hb] at nx
        simpa using nx
      | true =>
        refine gX7_seenFromAny_18 (fun z => absurd z (by decide)) (fun _ => c7_seenFromS hA (by omega) (gX7_seenFromAny_30 ?_))
        rw [nI_1, ni_or]
        simp only [anyS, hb, if_true] at nx
        exact nx
  exact gX7_seenFromAny_0 (loop L.1 0 (by omega))
/-- the deeds are gone through anew -/
theorem c7_goS {m0 : pmMem} {ds : List Nat} {l1 l2 l3 : Option Value} (h : RR S m0) (ha : agR (fun c => c = 74) (fun k => k = 10) (fun _ => False) m0 m) (hc : campR (sP S) ds m) (hok : ∀ x ∈ ds, okDeed (sL S) x) (h0 : (sL S).1 = 0 → ds = []) (K : ∀ m', RR (setD S ds) m' → m'.1 65 10 = nI ds.length → atR (sL S) (sS (setD S ds)) m' → ag (fun c => 65 ≤ c) m0 m' → Q none m') : pm_G (d + 5) mX7_goThrough 0 [some (.ref 65), l1, l2, l3] [] m Q := by
  obtain ⟨h1, h2, h3, h4, h5, h6, h7, h8, h9, h10⟩ := h
  have hL : landR (sL S) m := by unfold landR; rw [ha.2.2.1 4 (by omega), ha.2.1 70 (by omega), ha.2.1 71 (by omega), ha.2.1 72 (by omega)]; exact h3
  refine c7_goThrough hL hc ⟨?_, ?_, ?_, ?_⟩ hok (fun m' a b c e f g => ?_)
  · rw [ha.2.1 77 (by omega), h5.1]; exact h5.2.2.2.2.1
  · rw [ha.2.1 78 (by omega), h5.2.1, lst_len]
  · rw [ha.2.1 79 (by omega)]; exact h7.1
  · rw [ha.2.1 80 (by omega)]; exact h7.2.1
  · have a2 : agR (fun c => c = 65 ∨ c = 74 ∨ (77 ≤ c ∧ c ≤ 80)) (fun k => k = 10 ∨ k = 15 ∨ k = 16) (fun _ => False) m0 m' := by
      refine agR_trans (agR_mono ha (fun c z => Or.inr (Or.inl z)) (fun c z => Or.inl z) (fun _ => id)) ⟨fun q hq => ?_, fun q hq => ?_, fun k hk => ?_, fun k _ => ?_⟩
      · have := g q (by unfold gtS; omega); exact ⟨this.1, this.2.2⟩
      · exact (g q (by unfold gtS; omega)).2.1
      · exact e k (by omega) (by omega)
      · rw [f]
    have hr : RR (setD S ds) m' := by
      refine RR_upd ⟨h1, h2, h3, h4, h5, h6, h7, h8, h9, h10⟩ a2 (Or.inl ⟨rfl, by omega, by omega⟩) (Or.inl ⟨rfl, by omega, by omega⟩) (Or.inl ⟨rfl, by omega, by omega, by omega, by omega⟩) (Or.inr ?_) (Or.inr a) (Or.inl ⟨rfl, by omega, by omega⟩) (Or.inr ?_) (Or.inl ⟨rfl, by omega, id, id⟩) (Or.inl ⟨rfl, by omega, by omega⟩) ⟨hok, h10.2.1, fun z => ⟨h0 z, (h10.2.2 z).2⟩⟩
      · show campR (sP S) ds m'
        unfold campR
        rw [e 10 (by omega) (by omega), (g 73 (by unfold gtS; omega)).2.1, (g 74 (by unfold gtS; omega)).2.1]
        exact hc
      · refine ⟨c.2.2.1, c.2.2.2, ?_⟩
        rw [a2.2.1 82 (by omega), a2.2.1 83 (by omega), a2.2.1 84 (by omega), a2.2.1 85 (by omega), a2.2.1 86 (by omega)]
        exact h7.2.2
    exact K m' hr hr.2.2.2.1.2.2.1 ⟨hr.2.2.1, b.1, a.2.2.1, a.2.2.2.2⟩ (agR_ag a2 (by omega))
end OPR4
