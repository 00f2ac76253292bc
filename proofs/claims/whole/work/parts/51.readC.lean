theorem nI_n9 {q : Nat} (h : q < 1000) : ¬ nI q = -9 := by
  intro z
  have := congrArg Int32.toInt z
  rw [nI_toInt (by omega)] at this
  have : (q : Int) = -9 := this
  omega
theorem kdO_lt {c : Int32} {k : Nat} (h : kdO c = some k) : k < 6 := fstN_lt 6 h
theorem hRes_ok {l : List Int32} {q : Nat} {v : Nat × Nat × Nat} (h : hRes l q = .inr v) : okH v := by
  unfold hRes at h
  cases e0 : kdO (chr l q) with
  | none => rw [e0] at h; simp at h
  | some k =>
    rw [e0] at h
    cases e1 : figO l (q + 1) with
    | none => rw [e1] at h; simp at h
    | some t =>
      rw [e1] at h
      by_cases c1 : 12 ≤ 10 * t
      · simp only [if_pos c1] at h; simp at h
      · simp only [if_neg c1] at h
        cases e2 : figO l (q + 2) with
        | none => rw [e2] at h; simp at h
        | some o =>
          rw [e2] at h
          by_cases c2 : 12 ≤ 10 * t + o
          · simp only [if_pos c2] at h; simp at h
          · simp only [if_neg c2] at h
            cases e3 : figO l (q + 3) with
            | none => rw [e3] at h; simp at h
            | some b =>
              rw [e3] at h
              by_cases c3 : b = 0
              · simp only [if_pos c3] at h; simp at h
              · simp only [if_neg c3] at h
                have hv := Sum.inr.inj h
                rw [← hv]
                exact ⟨kdO_lt e0, by show 10 * t + o < 12; omega, by show 1 ≤ b; omega, by show b ≤ 9; have := (figO_lt e3).1; omega⟩
theorem hRes_e {l : List Int32} {q e : Nat} (h : hRes l q = .inl e) : e ≤ 3 := by
  unfold hRes at h
  repeat' split at h
  all_goals first | (have := Sum.inl.inj h; omega) | (exact absurd h (by simp))
section READ2
variable {d : Nat} {m : pmMem} {Q : Option Value → pmMem → Prop} {S : Sg} {l : List Int32} {a q n : Nat} {H : Nat → Nat × Nat × Nat}
theorem hOkC_2 {m' : pmMem} (h : hOkC n H m) (e : m'.2 = m.2) : hOkC n H m' := by
  unfold hOkC; rw [e]; exact h
theorem c_readHill {l2 l3 l4 l5 : Option Value} (hc : pm_kd a = 5) (ha : 8 ≤ a) (h : rdM l a q n m) (hH : hOkC n H m) (hn : n < 6) (hq : q < 800) (kf : ∀ m' e, hRes l q = .inl e → rdM l a (q + e) n m' → ag rdC m m' → Q (some (.int 0)) m') (kt : ∀ m' v, hRes l q = .inr v → rdM l a (q + 4) n m' → hOkC (n + 1) (upo H n v) m' → m'.2.1 4 = m.2.1 4 → ag rdC m m' → Q (some (.int 1)) m') : pm_G (d + 3) mX4_readHill 0 [some (.ref 3), some (.ref a), l2, l3, l4, l5] [] m Q := by
  have agp : ∀ m1 x, m1 = pm_setF m 3 5 x → ag rdC m m1 := fun m1 x e => by rw [e]; exact ag_F (ag_refl _ _) (by unfold rdC; omega)
  refine gX4_readHill_0 (c_kindHere hc h (by omega) ?_)
  cases e0 : kdO (chr l q) with
  | none =>
    exact gX4_readHill_5 (fun z => absurd z (by decide)) (fun _ => kf m 0 (by unfold hRes; rw [e0]) h (ag_refl _ _))
  | some k =>
    have k6 := kdO_lt e0
    refine gX4_readHill_5 (fun _ m1 e1 => ?_) (fun z => absurd (nI_pos' (n := k) (by omega)) z)
    rw [h.2.1, nI_1] at e1
    have h1 := rd_place ha h e1
    have a1 := agp m1 _ e1
    refine c_figureHere hc h1 (by omega) ?_
    cases f1 : figO l (q + 1) with
    | none => exact gX4_readHill_27 (fun _ => kf m1 1 (by unfold hRes; rw [e0]; simp only [f1]) h1 a1) (fun z => absurd (by decide) z) (fun z => absurd (by decide) z)
    | some t =>
      have t10 := (figO_lt f1).1
      have lt12 : ((10 : Int32) * nI t < 12) ↔ 10 * t < 12 := by
        rw [show (10 : Int32) = nI 10 from rfl, pk_mul, show (12 : Int32) = nI 12 from rfl, ni_lt (by omega) (by omega)]
      simp only [optI]
      refine gX4_readHill_27 (fun z => absurd z (nI_pos (by omega))) ?_ ?_ <;> simp only [lt12]
      · intro _ c1 m2 e2
        rw [h1.2.1, nI_1] at e2
        have h2 := rd_place ha h1 e2
        have e2' : m2 = pm_setF m1 3 5 (nI (q + 1 + 1)) := e2
        have a2 : ag rdC m m2 := by rw [e2]; exact ag_F a1 (by unfold rdC; omega)
        refine c_figureHere hc h2 (by omega) ?_
        cases f2 : figO l (q + 1 + 1) with
        | none => exact gX4_readHill_58 (fun _ => kf m2 2 (by unfold hRes; rw [e0]; simp only [f1, if_neg (show ¬ 12 ≤ 10 * t by omega)]; rw [show q + 2 = q + 1 + 1 by omega, f2]) h2 a2) (fun z => absurd (by decide) z) (fun z => absurd (by decide) z)
        | some o =>
          have o10 := (figO_lt f2).1
          have lt12' : (((10 : Int32) * nI t) + nI o < 12) ↔ 10 * t + o < 12 := by
            rw [show (10 : Int32) = nI 10 from rfl, pk_mul, nI_add, show (12 : Int32) = nI 12 from rfl, ni_lt (by omega) (by omega)]
          simp only [optI]
          refine gX4_readHill_58 (fun z => absurd z (nI_pos (by omega))) ?_ ?_ <;> simp only [lt12']
          · intro _ c2 m3 e3
            rw [h2.2.1, nI_1] at e3
            have h3 := rd_place ha h2 e3
            have a3 : ag rdC m m3 := by rw [e3]; exact ag_F a2 (by unfold rdC; omega)
            refine c_figureHere hc h3 (by omega) ?_
            have m32 : m3.2 = m.2 := by rw [e3, e2, e1]; rfl
            cases f3 : figO l (q + 1 + 1 + 1) with
            | none => exact gX4_readHill_94 (fun z => absurd z (by decide)) (fun z => absurd z (by decide)) (fun z => absurd z (by decide)) (fun z => absurd z (by decide)) (fun _ => kf m3 3 (by unfold hRes; rw [e0]; simp only [f1, if_neg (show ¬ 12 ≤ 10 * t by omega)]; rw [show q + 2 = q + 1 + 1 by omega, f2]; simp only [if_neg (show ¬ 12 ≤ 10 * t + o by omega)]; rw [show q + 3 = q + 1 + 1 + 1 by omega, f3]) h3 a3)
            | some b =>
              have b10 := (figO_lt f3).1
              simp only [optI]
              have eR : hRes l q = if b = 0 then .inl 3 else .inr (k, 10 * t + o, b) := by
                unfold hRes; rw [e0]; simp only [f1, if_neg (show ¬ 12 ≤ 10 * t by omega)]; rw [show q + 2 = q + 1 + 1 by omega, f2]; simp only [if_neg (show ¬ 12 ≤ 10 * t + o by omega)]; rw [show q + 3 = q + 1 + 1 + 1 by omega, f3]
              have b1 : ((1 : Int32) ≤ nI b) ↔ 1 ≤ b := ni_le (a := 1) (by omega) (by omega)
              obtain ⟨r1, r2, r3, r4, r5, r6, r7⟩ := h3
              have vin : ∀ (mm : pmMem) (c : Nat), mm.1 3 4 = nI n → (mm.2.1 c).length = 6 → vp_in (mm.1 3 4) (mm.2.1 c).length := fun mm c p1 p2 => by rw [p1, p2]; exact ni_in hn (by omega)
              have g34 : ∀ mm, mm = pm_setF m3 3 5 (m3.1 3 5 + 1) → mm.1 3 4 = nI n := fun mm e => by rw [e, pm_rF, if_neg (by omega)]; exact r3
              refine gX4_readHill_94 (fun _ m4 e4 => vin m4 5 (g34 m4 e4) (by rw [e4]; exact r5)) (fun _ m4 e4 m5 e5 => vin m5 6 (by rw [e5]; exact g34 m4 e4) (by rw [e5, pm_rA, if_neg (by omega), e4]; exact r6)) (fun _ m4 e4 m5 e5 m6 e6 => vin m6 7 (by rw [e6, e5]; exact g34 m4 e4) (by rw [e6, pm_rA, if_neg (by omega), e5, pm_rA, if_neg (by omega), e4]; exact r7)) ?_ ?_ <;> rw [b1]
              · intro c3 m4 e4 m5 e5 m6 e6 m7 e7
                rw [if_neg (by omega)] at eR
                have q4 := g34 m4 e4
                have q5 : m5.1 3 4 = nI n := by rw [e5]; exact q4
                have q6 : m6.1 3 4 = nI n := by rw [e6]; exact q5
                rw [q4, ni_cl (by omega)] at e5
                rw [q5, ni_cl (by omega), show (10 : Int32) = nI 10 from rfl, pk_mul, nI_add] at e6
                rw [q6, ni_cl (by omega)] at e7
                rw [r2, nI_1] at e4
                have x5 : m7.2.1 5 = (m.2.1 5).set n (nI k) := by rw [e7, pm_rA, if_neg (by omega), e6, pm_rA, if_neg (by omega), e5, pm_rA, if_pos rfl, e4]; show (m3.2.1 5).set n (nI k) = _; rw [m32]
                have x6 : m7.2.1 6 = (m.2.1 6).set n (nI (10 * t + o)) := by rw [e7, pm_rA, if_neg (by omega), e6, pm_rA, if_pos rfl, e5, pm_rA, if_neg (by omega), e4]; show (m3.2.1 6).set n _ = _; rw [m32]
                have x7 : m7.2.1 7 = (m.2.1 7).set n (nI b) := by rw [e7, pm_rA, if_pos rfl, e6, pm_rA, if_neg (by omega), e5, pm_rA, if_neg (by omega), e4]; show (m3.2.1 7).set n _ = _; rw [m32]
                have x4 : m7.2.1 4 = m.2.1 4 := by rw [e7, pm_rA, if_neg (by omega), e6, pm_rA, if_neg (by omega), e5, pm_rA, if_neg (by omega), e4]; show m3.2.1 4 = _; rw [m32]
                have s5 : (m.2.1 5).length = 6 := h.2.2.2.2.1
                have s6 : (m.2.1 6).length = 6 := h.2.2.2.2.2.1
                have s7 : (m.2.1 7).length = 6 := h.2.2.2.2.2.2
                have a7 : ag rdC m m7 := by
                  rw [e7, e6, e5, e4]
                  exact ag_A (ag_A (ag_A (ag_F a3 (by unfold rdC; omega)) (by unfold rdC; omega)) (by unfold rdC; omega)) (by unfold rdC; omega)
                refine kt m7 _ eR ⟨sheetM_ag h.1 a7 (by unfold rdC; omega) (by unfold rdC; omega), ?_, ?_, by rw [x4]; exact h.2.2.2.1, by rw [x5, List.length_set]; exact s5, by rw [x6, List.length_set]; exact s6, by rw [x7, List.length_set]; exact s7⟩ ?_ x4 a7
                · rw [e7, e6, e5, e4]; show (pm_setF m3 3 5 (nI (q + 1 + 1 + 1 + 1))).1 3 5 = _; rw [pm_rF, if_pos ⟨rfl, rfl⟩]
                · rw [e7]; exact q6
                · intro i hi
                  rw [x5, x6, x7, getD_set (by omega), getD_set (by omega), getD_set (by omega)]
                  unfold upo
                  by_cases c : i = n
                  · simp only [if_pos c]
                    exact ⟨trivial, trivial, trivial, hRes_ok eR⟩
                  · simp only [if_neg c]
                    exact hH i (by omega)
              · intro c3
                rw [if_pos (by omega)] at eR
                exact kf m3 3 eR ⟨r1, r2, r3, r4, r5, r6, r7⟩ a3
          · intro _ c2
            exact kf m2 2 (by unfold hRes; rw [e0]; simp only [f1, if_neg (show ¬ 12 ≤ 10 * t by omega)]; rw [show q + 2 = q + 1 + 1 by omega, f2]; simp only [if_pos (show 12 ≤ 10 * t + o by omega)]) h2 a2
      · intro _ c1
        exact kf m1 1 (by unfold hRes; rw [e0]; simp only [f1, if_pos (show 12 ≤ 10 * t by omega)]) h1 a1
def rdEnd (l : List Int32) (m' : pmMem) : Prop := (m'.2.1 4).length = 12 ∧ (m'.2.1 5).length = 6 ∧ (m'.2.1 6).length = 6 ∧ (m'.2.1 7).length = 6 ∧ ((readF l).1 = -9 → m'.1 3 4 = nI (readF l).2.1.1 ∧ (readF l).2.1.1 ≤ 6 ∧ (readF l).2.1.1 ≠ 0 ∧ hOkC (readF l).2.1.1 (readF l).2.1.2 m' ∧ m'.2.1 4 = (readF l).2.2)
theorem c_read (hc : pm_kd a = 5) (ha : 8 ≤ a) (hs : sheetM (some l) 60 a m) (h4 : (m.2.1 4).length = 12) (h5 : (m.2.1 5).length = 6) (h6 : (m.2.1 6).length = 6) (h7 : (m.2.1 7).length = 6) (K : ∀ m', ag rdC m m' → rdEnd l m' → Q (some (.int (readF l).1)) m') : pm_G (d + 4) mX4_read 0 [some (.ref 3), some (.ref a)] [] m Q := by
  have l60 := hs.2.2.1
  have sk0 := skip_le l 0 l60
  have bad : ∀ m' q n, (readF l).1 = nI q → q < 1000 → rdM l a q n m' → ag rdC m m' → Q (some (.int (m'.1 3 5))) m' := by
    intro m' q n e hq h1 a1
    rw [h1.2.1, ← e]
    exact K m' a1 ⟨h1.2.2.2.1, h1.2.2.2.2.1, h1.2.2.2.2.2.1, h1.2.2.2.2.2.2, fun z => by rw [e] at z; exact absurd z (nI_n9 hq)⟩
  refine gX4_read_0 (fun m1 e1 m2 e2 => ?_)
  have a2 : ag rdC m m2 := by rw [e2, e1]; exact ag_F (ag_F (ag_refl _ _) (by unfold rdC; omega)) (by unfold rdC; omega)
  have h2 : rdM l a 0 0 m2 := by
    refine ⟨sheetM_ag hs a2 (by unfold rdC; omega) (by unfold rdC; omega), ?_, ?_, ?_⟩
    · rw [e2, pm_rF, if_pos ⟨rfl, rfl⟩]; rfl
    · rw [e2, pm_rF, if_neg (by omega), e1, pm_rF, if_pos ⟨rfl, rfl⟩]; rfl
    · rw [e2, e1]; exact ⟨h4, h5, h6, h7⟩
  refine c_skipBlanks hc ha h2 (by omega) (fun m3 h3 e3 g3 => gX4_read_15 ?_)
  have a3 : ag rdC m m3 := ag_trans a2 (ag_mono (fun c z => by unfold rdC; omega) g3)
  refine c_readTents hc ha h3 (by omega) (fun m4 e hE h4' a4 => ?_) (fun m4 t1 t2 h4' g4 a4 => ?_)
  · refine gX4_read_20 (fun z => absurd rfl z) (fun _ => ?_)
    by_cases c : chr l (skip l 0) = 116
    · rw [if_pos c] at hE
      obtain ⟨i, i1, i2⟩ := hE
      have i12 := fstN_lt 12 i1
      refine bad m4 e 0 ?_ (by omega) h4' (ag_trans a3 a4)
      unfold readF; rw [if_pos c, i1, i2]
    · rw [if_neg c] at hE
      refine bad m4 e 0 ?_ (by omega) h4' (ag_trans a3 a4)
      unfold readF; rw [if_neg c, hE]
  · refine gX4_read_20 (fun _ => ?_) (fun z => absurd z (by decide))
    have eF : readF l = ((rdH l 7 (skip l (skip l 0 + 13)) 0 (fun _ => (0, 0, 0))).1, (rdH l 7 (skip l (skip l 0 + 13)) 0 (fun _ => (0, 0, 0))).2, gvL l (skip l 0 + 1)) := by
      unfold readF; rw [if_pos t1, t2]
    generalize hR : rdH l 7 (skip l (skip l 0 + 13)) 0 (fun _ => (0, 0, 0)) = R at eF
    have loop : ∀ (f q n : Nat) (H : Nat → Nat × Nat × Nat) (m1 : pmMem), f + n = 7 → n ≤ 6 → q ≤ 80 + 4 * n → rdM l a q n m1 → hOkC n H m1 → m1.2.1 4 = gvL l (skip l 0 + 1) → ag rdC m m1 → rdH l f q n H = R → pm_G (d + 4) mX4_read 33 [some (.ref 3), some (.ref a)] [] m1 Q := by
      intro f
      induction f with
      | zero => intro q n H m1 hf hn; omega
      | succ f ih =>
        intro q n H m1 hf hn hq h1 hH hg a1 eR
        have e6 : ((6 : Int32) ≤ m1.1 3 4) ↔ n = 6 := by
          rw [h1.2.2.1, show (6 : Int32) = nI 6 from rfl, ni_le (by omega) (by omega)]; omega
        simp only [rdH] at eR
        have fin : n = 6 ∨ l.length ≤ q → pm_G (d + 3) mX5_has 0 [some (.ref a), some (.int (m1.1 3 5))] [] m1 (fun r m' => pm_G (d + 4) mX4_read 92 [some (.ref 3), some (.ref a)] (pm_psh r []) m' Q) := by
          intro cn
          rw [if_pos cn] at eR
          rw [h1.2.1]
          refine c_hasO hc h1.1 (by omega) (by omega) (fun z => ?_) (fun z => ?_)
          · rw [if_pos (Or.inl z)] at eR
            refine gX4_read_92 (fun _ => bad m1 q n ?_ (by omega) h1 a1) (fun w => absurd w (by decide)) (fun w => absurd w (by decide))
            rw [eF, ← eR]
          · have n0 : (m1.1 3 4 = 0) ↔ n = 0 := by rw [h1.2.2.1]; exact ni_eq (b := 0) (by omega) (by omega)
            refine gX4_read_92 (fun w => absurd rfl w) ?_ ?_ <;> rw [n0]
            · intro _ w
              rw [if_neg (by omega)] at eR
              have e9 : (readF l).1 = -9 := by rw [eF, ← eR]
              rw [← e9]
              refine K m1 a1 ⟨h1.2.2.2.1, h1.2.2.2.2.1, h1.2.2.2.2.2.1, h1.2.2.2.2.2.2, fun _ => ?_⟩
              rw [eF, ← eR]
              exact ⟨h1.2.2.1, hn, w, hH, hg⟩
            · intro _ w
              rw [if_pos (Or.inr w)] at eR
              refine bad m1 q n ?_ (by omega) h1 a1
              rw [eF, ← eR]
        refine gX4_read_33 hc ?_ ?_ <;> rw [e6]
        · intro z
          exact fin (Or.inl z)
        · intro z
          rw [h1.2.1]
          refine c_hasO hc h1.1 (by omega) (by omega) (fun w => gX4_read_50 hc (fun y => absurd y (by decide)) (fun _ => ?_)) (fun w => gX4_read_50 hc (fun _ => fin (Or.inr (by omega))) (fun y => absurd rfl y))
          rw [if_neg (by omega)] at eR
          refine c_readHill hc ha h1 hH (by omega) (by omega) (fun m5 e r1 r2 r3 => ?_) (fun m5 v r1 r2 r3 r4 r5 => ?_)
          · rw [r1] at eR
            have := hRes_e r1
            refine gX4_read_58 (fun y => absurd rfl y) (fun _ => bad m5 (q + e) n ?_ (by omega) r2 (ag_trans a1 r3))
            rw [eF, ← eR]
          · rw [r1] at eR
            refine gX4_read_58 (fun _ m6 e6 => ?_) (fun y => absurd y (by decide))
            rw [r2.2.2.1, nI_1] at e6
            have a6 : ag rdC m5 m6 := by rw [e6]; exact ag_F (ag_refl _ _) (by unfold rdC; omega)
            have h6' : rdM l a (q + 4) (n + 1) m6 := by
              refine ⟨sheetM_ag r2.1 a6 (by unfold rdC; omega) (by unfold rdC; omega), ?_, ?_, ?_⟩
              · rw [e6, pm_rF, if_neg (by omega)]; exact r2.2.1
              · rw [e6, pm_rF, if_pos ⟨rfl, rfl⟩]
              · rw [e6]; exact r2.2.2.2
            have s4 := skip_le l (q + 4) l60
            refine c_skipBlanks hc ha h6' (by omega) (fun m7 h7' e7 g7 => gX4_read_81 ?_)
            have m72 : m7.2 = m5.2 := by rw [e7, e6]; rfl
            refine ih (skip l (q + 4)) (n + 1) (upo H n v) m7 (by omega) (by omega) (by omega) h7' (hOkC_2 r3 m72) ?_ (ag_trans a1 (ag_trans r5 (ag_trans a6 (ag_mono (fun c z => by unfold rdC; omega) g7)))) eR
            rw [m72, r4]; exact hg
    have s13 := skip_le l (skip l 0 + 13) l60
    refine c_skipBlanks hc ha h4' (by omega) (fun m5 h5' e5 g5 => ?_)
    exact loop 7 (skip l (skip l 0 + 13)) 0 _ m5 (by omega) (by omega) (by omega) h5' (fun i hi => absurd hi (by omega)) (by rw [e5]; exact g4) (ag_trans a3 (ag_trans a4 (ag_mono (fun c z => by unfold rdC; omega) g5))) hR
theorem RC_rd {m' : pmMem} (h : RC S m) (ha : ag rdC m m') (h4 : (m'.2.1 4).length = 12) (h5 : (m'.2.1 5).length = 6) (h6 : (m'.2.1 6).length = 6) (h7 : (m'.2.1 7).length = 6) : RC S m' := by
  have s := h.2.2.2.2.2.1
  have e : ∀ c, 8 ≤ c → m'.2.1 c = m.2.1 c := fun c hc => (ha c (by unfold rdC; omega)).2.1
  refine RC_upd h ha (Or.inl ⟨rfl, fun c _ _ z => by unfold rdC at z; omega⟩) (Or.inl ⟨rfl, fun c _ _ z => by unfold rdC at z; omega⟩) (Or.inl ⟨rfl, fun c _ _ z => by unfold rdC at z; omega⟩) (Or.inl ⟨rfl, rfl, rfl, fun c _ _ z => by unfold rdC at z; omega⟩) (Or.inl ⟨rfl, rfl, rfl, fun z => by unfold rdC at z; omega, fun c _ _ z => by unfold rdC at z; omega⟩) (Or.inr ⟨h4, h5, h6, h7, ?_⟩) (Or.inl ⟨rfl, fun z => by unfold rdC at z; omega⟩) (Or.inl ⟨rfl, fun z => by unfold rdC at z; omega, fun z => by unfold rdC at z; omega⟩) h.2.2.2.2.2.2.2.2
  unfold campLen
  rw [e 27 (by omega), e 28 (by omega), e 29 (by omega), e 30 (by omega), e 31 (by omega), e (20 + 1) (by omega), e (20 + 2) (by omega), e (20 + 3) (by omega)]
  exact s.2.2.2.2
theorem C_fault {x : Int32} (h : RC S m) (K : okC (o_fault S x) m Q) : pm_G (d + 5) mX6_fault 0 [some (.ref 0), some (.int x)] [] m Q := by
  have s := h.2.2.2.2.2.1
  refine gX6_fault_0 (c_isText (fun t hi ht hx => ?_) (fun hi => ?_))
  · simp only [o_fault, hi] at K
    have hin : vp_in x (pm_rl 2) := by rw [hx]; exact ni_in (n := 4) ht (by omega)
    have hsh := h.2.1 t ht
    refine gX6_fault_4 (fun _ => hin) (fun _ => ?_) (fun z => absurd z (by decide))
    rw [hx, ra_text ht]
    refine c_isMissing (kd_text ht) hsh (by omega) (fun ho => ?_) (fun l ho => ?_)
    · rw [ho] at K
      exact gX6_fault_18 (fun z => absurd z (by decide)) (fun z => absurd z (by decide)) (fun _ => c_refuse (f := 1) (by omega) (by omega) h (fun m' g1 g2 => gX6_fault_26 (K m' g1 g2)))
    · rw [ho] at K hsh
      refine gX6_fault_18 (fun _ => by rw [← hx]; exact hin) (fun _ => ?_) (fun z => absurd rfl z)
      rw [ra_text ht]
      exact c_read (kd_text ht) (by omega) hsh s.1 s.2.1 s.2.2.1 s.2.2.2.1 (fun m' a e => gX6_fault_40 (K m' (RC_rd h a e.1 e.2.1 e.2.2.1 e.2.2.2.1) (ag_mono (fun c z => by unfold rdC at z; omega) a)))
  · simp only [o_fault, hi] at K
    exact gX6_fault_4 (fun z => absurd rfl z) (fun z => absurd rfl z) (fun _ => K m h (ag_refl _ _))
end READ2
