/-! the reader -/
def chr (l : List Int32) (q : Nat) : Int32 := l.getD q (-1000)
theorem chr_in {l : List Int32} {q : Nat} (h : q < l.length) : l.getD q 0 = chr l q := by
  unfold chr
  rw [List.getD_eq_getElem?_getD, List.getD_eq_getElem?_getD, List.getElem?_eq_getElem h]; rfl
theorem chr_out {l : List Int32} {q : Nat} (h : ¬ q < l.length) : chr l q = -1000 := by
  unfold chr
  rw [List.getD_eq_getElem?_getD, List.getElem?_eq_none (by omega)]; rfl
def skp (l : List Int32) : Nat → Nat → Nat
  | 0, q => q
  | n + 1, q => if chr l q = 32 then skp l n (q + 1) else q
def skip (l : List Int32) (q : Nat) : Nat := skp l (l.length - q) q
theorem skp_le (l : List Int32) : ∀ n q, skp l n q ≤ q + n
  | 0, q => by simp [skp]
  | n + 1, q => by
    simp only [skp]
    split
    · have := skp_le l n (q + 1); omega
    · omega
theorem skip_le (l : List Int32) (q : Nat) (h : l.length ≤ 60) : skip l q ≤ q ∨ skip l q ≤ 60 := by
  have := skp_le l (l.length - q) q
  unfold skip
  omega
def figO (l : List Int32) (q : Nat) : Option Nat := idx 10 (chr l q - 48)
def optI (o : Option Nat) : Int32 := match o with
  | none => -1
  | some v => nI v
def kdO (c : Int32) : Option Nat := fstN (fun k => decide (c = pm_let k)) 6
def hRes (l : List Int32) (q : Nat) : Nat ⊕ (Nat × Nat × Nat) := match kdO (chr l q) with
  | none => .inl 0
  | some k => match figO l (q + 1) with
    | none => .inl 1
    | some t => if 12 ≤ 10 * t then .inl 1 else match figO l (q + 2) with
      | none => .inl 2
      | some o => if 12 ≤ 10 * t + o then .inl 2 else match figO l (q + 3) with
        | none => .inl 3
        | some b => if b = 0 then .inl 3 else .inr (k, 10 * t + o, b)
def rdH (l : List Int32) : Nat → Nat → Nat → (Nat → Nat × Nat × Nat) → Int32 × Ld
  | 0, q, n, H => (nI q, n, H)
  | f + 1, q, n, H => if n = 6 ∨ l.length ≤ q then (if q < l.length ∨ n = 0 then nI q else -9, n, H) else match hRes l q with
    | .inl e => (nI (q + e), n, H)
    | .inr v => rdH l f (skip l (q + 4)) (n + 1) (upo H n v)
def tnF (l : List Int32) (q : Nat) : Option Nat := fstN (fun i => !(figO l (q + i)).isSome) 12
def gvL (l : List Int32) (q : Nat) : List Int32 := lst12 (fun i => (chr l (q + i) - 48) - 4)
def readF (l : List Int32) : Int32 × Ld × List Int32 :=
  if chr l (skip l 0) = 116 then match tnF l (skip l 0 + 1) with
    | some i => (nI (skip l 0 + 1 + i), (0, fun _ => (0, 0, 0)), [])
    | none => ((rdH l 7 (skip l (skip l 0 + 13)) 0 (fun _ => (0, 0, 0))).1, (rdH l 7 (skip l (skip l 0 + 13)) 0 (fun _ => (0, 0, 0))).2, gvL l (skip l 0 + 1))
  else (nI (skip l 0), (0, fun _ => (0, 0, 0)), [])
def campS (S : Sg) (L : Ld) (p : List Int32) : Sg := (S.1, S.2.1, L, p, [], fun _ => none, S.2.2.2.2.2.2)
def o_fault (S : Sg) (x : Int32) : Int32 × Sg := match idx 4 x with
  | none => (-1, S)
  | some t => match sT S t with
    | none => (-3, find S 1)
    | some l => ((readF l).1, S)
def o_camp (S : Sg) (x : Int32) : Int32 × Sg := match idx 4 x with
  | none => (-1, S)
  | some t => match sT S t with
    | none => (-3, find S 1)
    | some l => if (readF l).1 = -9 then (nI (readF l).2.1.1, campS S (readF l).2.1 (readF l).2.2) else (-4, S)
def rdC (c : Nat) : Prop := 3 ≤ c ∧ c < 8
def rdM (l : List Int32) (a q n : Nat) (m : pmMem) : Prop := sheetM (some l) 60 a m ∧ m.1 3 5 = nI q ∧ m.1 3 4 = nI n ∧ (m.2.1 4).length = 12 ∧ (m.2.1 5).length = 6 ∧ (m.2.1 6).length = 6 ∧ (m.2.1 7).length = 6
def okH (v : Nat × Nat × Nat) : Prop := v.1 < 6 ∧ v.2.1 < 12 ∧ 1 ≤ v.2.2 ∧ v.2.2 ≤ 9
def hOkC (n : Nat) (H : Nat → Nat × Nat × Nat) (m : pmMem) : Prop := ∀ h, h < n → (m.2.1 5).getD h 0 = nI (H h).1 ∧ (m.2.1 6).getD h 0 = nI (H h).2.1 ∧ (m.2.1 7).getD h 0 = nI (H h).2.2 ∧ okH (H h)
theorem rd_place {l : List Int32} {a q n q' : Nat} {m m' : pmMem} (ha : 8 ≤ a) (h : rdM l a q n m) (e : m' = pm_setF m 3 5 (nI q')) : rdM l a q' n m' := by
  subst e
  obtain ⟨h1, h2, h3, h4⟩ := h
  refine ⟨sheetM_ag h1 (ag_F (S := rdC) (ag_refl _ _) (by unfold rdC; omega)) (by unfold rdC; omega) (by unfold rdC; omega), ?_, ?_, h4⟩
  · rw [pm_rF, if_pos ⟨rfl, rfl⟩]
  · rw [pm_rF, if_neg (by omega)]; exact h3
theorem i48 : idx 10 ((-1000 : Int32) - 48) = none := by decide
theorem figO_out {l : List Int32} {q : Nat} (h : ¬ q < l.length) : figO l q = none := by
  unfold figO; rw [chr_out h]; exact i48
theorem optI_neg {o : Option Nat} (h : ∀ v, o = some v → v < 1000) : (optI o < 0) ↔ o = none := by
  cases o with
  | none => simp [optI]
  | some v =>
    simp only [optI]
    constructor
    · intro z; exact absurd z (nI_pos (by have := h v rfl; omega))
    · intro z; exact absurd z (by simp)
theorem figO_lt {l : List Int32} {q v : Nat} (h : figO l q = some v) : v < 10 ∧ chr l q - 48 = nI v := idx_spec (n := 10) (by omega) h
section READ
variable {d : Nat} {m : pmMem} {Q : Option Value → pmMem → Prop} {S : Sg} {l : List Int32} {a q n : Nat}
theorem c_getO {cap : Nat} (hc : pm_kd a = 5) (h : sheetM (some l) cap a m) (hcap : cap < 1000) (hq : q < 1000) (K : Q (some (.int (if q < l.length then chr l q else 0))) m) : pm_G (d + 1) mX5_get 0 [some (.ref a), some (.int (nI q))] [] m Q := by
  by_cases z : q < l.length
  · rw [if_pos z, ← chr_in z] at K
    exact c_get hc h hcap z K
  · rw [if_neg z] at K
    have h3 := h.2.2.1
    refine gX5_get_0 hc (c_has hc h hcap (fun j h1 h2 h3 => ?_) (fun _ => gX5_get_5 hc (fun w => absurd rfl w) (fun _ => K) (fun w => absurd rfl w)))
    have := (ni_eq (by omega) (by omega)).mp h3
    omega
theorem c_hasO {cap : Nat} (hc : pm_kd a = 5) (h : sheetM (some l) cap a m) (hcap : cap < 1000) (hq : q < 1000) (kt : q < l.length → Q (some (.int 1)) m) (kf : ¬ q < l.length → Q (some (.int 0)) m) : pm_G d mX5_has 0 [some (.ref a), some (.int (nI q))] [] m Q := by
  have h3 := h.2.2.1
  refine c_has hc h hcap (fun j h1 h2 h3 => ?_) (fun z => ?_)
  · have := (ni_eq (by omega) (by omega)).mp h3
    exact kt (by omega)
  · refine kf (fun w => ?_)
    rw [idx_nI (by omega) w] at z
    cases z
theorem c_figureHere {l2 : Option Value} (hc : pm_kd a = 5) (h : rdM l a q n m) (hq : q < 1000) (K : Q (some (.int (optI (figO l q)))) m) : pm_G (d + 2) mX4_figureHere 0 [some (.ref 3), some (.ref a), l2] [] m Q := by
  refine gX4_figureHere_0 hc ?_
  rw [h.2.1]
  refine c_getO hc h.1 (by omega) hq (gX4_figureHere_8 hc ?_)
  rw [h.2.1]
  refine c_hasO hc h.1 (by omega) hq (fun z => ?_) (fun z => ?_)
  · rw [if_pos z]
    refine gX4_figureHere_20 (fun w => absurd w (by decide)) (fun _ w => ?_) (fun _ w1 w2 => ?_) (fun _ w1 w2 => ?_)
    · rw [i32_neg] at w
      rw [show figO l q = none from idx_none (by omega)] at K
      exact K
    · rw [show (9 : Int32) = nI 9 from rfl, i32_lt (by omega)] at w2
      rw [show figO l q = none from idx_none (by omega)] at K
      exact K
    · rw [i32_neg] at w1
      rw [show (9 : Int32) = nI 9 from rfl, i32_lt (by omega)] at w2
      obtain ⟨v, e1, e2, e3⟩ := idx_some (n := 10) (x := chr l q - 48) (by omega) (by omega) (by omega)
      rw [show figO l q = some v from e1] at K
      rw [e3]; exact K
  · rw [figO_out z] at K
    exact gX4_figureHere_20 (fun _ => K) (fun w => absurd rfl w) (fun w => absurd rfl w) (fun w => absurd rfl w)
theorem kd_out : ∀ k, k < 6 → ¬ (-1000 : Int32) = pm_let k := by decide
theorem c_kindHere {l2 : Option Value} (hc : pm_kd a = 5) (h : rdM l a q n m) (hq : q < 1000) (K : Q (some (.int (optI (kdO (chr l q))))) m) : pm_G (d + 2) mX4_kindHere 0 [some (.ref 3), some (.ref a), l2] [] m Q := by
  have loop : ∀ (k i : Nat), i + k = 6 → (∀ e, e < i → decide (chr l q = pm_let e) = false) → pm_G (d + 2) mX4_kindHere 2 [some (.ref 3), some (.ref a), some (.int (nI i))] [] m Q := by
    intro k
    induction k with
    | zero =>
      intro i hi inv
      have e : i = 6 := by omega
      subst e
      rw [show kdO (chr l q) = none from fstN_none 6 inv] at K
      exact gX4_kindHere_2 hc (fun _ => K) (fun z => absurd (by decide) z)
    | succ k ih =>
      intro i hi inv
      have nx : ¬ chr l q = pm_let i → pm_G (d + 2) mX4_kindHere 2 [some (.ref 3), some (.ref a), some (.int (nI i + 1))] [] m Q := by
        intro z
        rw [nI_1]
        refine ih (i + 1) (by omega) (fun e he => ?_)
        by_cases w : e = i
        · rw [w]; exact decide_eq_false z
        · exact inv e (by omega)
      refine gX4_kindHere_2 hc (fun z => absurd z (nle_ni (k := 6) (by omega) (by omega))) (fun _ => ?_)
      rw [h.2.1]
      refine c_hasO hc h.1 (by omega) hq (fun z => ?_) (fun z => ?_)
      · refine gX4_kindHere_16 hc (fun w => absurd w (by decide)) (fun _ => ?_)
        rw [h.2.1]
        refine c_getO hc h.1 (by omega) hq ?_
        rw [if_pos z]
        refine gX4_kindHere_27 (ni_in (by omega) (by omega)) ?_ ?_ <;> rw [ni_cl (by omega)]
        · exact nx
        · intro w
          rw [show kdO (chr l q) = some i from fstN_some (decide_eq_true w) inv 6 (by omega)] at K
          exact K
      · exact gX4_kindHere_16 hc (fun _ => nx (by rw [chr_out z]; exact kd_out i (by omega))) (fun w => absurd rfl w)
  exact gX4_kindHere_0 (loop 6 0 (by omega) (fun e he => absurd he (by omega)))
theorem c_skipBlanks (hc : pm_kd a = 5) (ha : 8 ≤ a) (h : rdM l a q n m) (hq : q < 900) (K : ∀ m', rdM l a (skip l q) n m' → m'.2 = m.2 → ag (fun c => c = 3) m m' → Q none m') : pm_G (d + 2) mX4_skipBlanks 0 [some (.ref 3), some (.ref a)] [] m Q := by
  have l60 := h.1.2.2.1
  have loop : ∀ (k t : Nat) (m1 : pmMem), k = l.length - t → t < 900 → rdM l a t n m1 → m1.2 = m.2 → ag (fun c => c = 3) m m1 → skip l q = skp l k t → pm_G (d + 2) mX4_skipBlanks 0 [some (.ref 3), some (.ref a)] [] m1 Q := by
    intro k
    induction k with
    | zero =>
      intro t m1 hk ht h1 e1 a1 es
      refine gX4_skipBlanks_0 hc ?_
      rw [h1.2.1]
      refine c_hasO hc h1.1 (by omega) (by omega) (fun z => by omega) (fun z => gX4_skipBlanks_8 hc (fun _ => K m1 ?_ e1 a1) (fun w => absurd rfl w))
      rw [es]; exact h1
    | succ k ih =>
      intro t m1 hk ht h1 e1 a1 es
      refine gX4_skipBlanks_0 hc ?_
      rw [h1.2.1]
      refine c_hasO hc h1.1 (by omega) (by omega) (fun z => gX4_skipBlanks_8 hc (fun w => absurd w (by decide)) (fun _ => ?_)) (fun z => by omega)
      rw [h1.2.1]
      refine c_getO hc h1.1 (by omega) (by omega) ?_
      rw [if_pos z]
      simp only [skp] at es
      refine gX4_skipBlanks_19 (fun w => K m1 ?_ e1 a1) (fun w m2 e2 => ?_)
      · rw [if_neg w] at es; rw [es]; exact h1
      · rw [if_pos w] at es
        rw [h1.2.1, nI_1] at e2
        refine ih (t + 1) m2 (by omega) (by omega) (rd_place ha h1 e2) (by rw [e2]; exact e1) (by rw [e2]; exact ag_F a1 rfl) es
  exact loop (l.length - q) q m rfl hq h rfl (ag_refl _ _) rfl
theorem c_readTents {l2 l3 : Option Value} (hc : pm_kd a = 5) (ha : 8 ≤ a) (h : rdM l a q n m) (hq : q < 800) (kf : ∀ m' e, (if chr l q = 116 then ∃ i, tnF l (q + 1) = some i ∧ e = q + 1 + i else e = q) → rdM l a e n m' → ag rdC m m' → Q (some (.int 0)) m') (kt : ∀ m', chr l q = 116 → tnF l (q + 1) = none → rdM l a (q + 13) n m' → m'.2.1 4 = gvL l (q + 1) → ag rdC m m' → Q (some (.int 1)) m') : pm_G (d + 3) mX4_readTents 0 [some (.ref 3), some (.ref a), l2, l3] [] m Q := by
  refine gX4_readTents_0 hc ?_
  rw [h.2.1]
  refine c_hasO hc h.1 (by omega) (by omega) (fun z => ?_) (fun z => ?_)
  · refine gX4_readTents_8 hc (fun w => absurd w (by decide)) (fun _ => ?_)
    rw [h.2.1]
    refine c_getO hc h.1 (by omega) (by omega) ?_
    rw [if_pos z]
    refine gX4_readTents_19 (fun w m1 e1 => ?_) (fun w => kf m q (by rw [if_neg w]) h (ag_refl _ _))
    rw [h.2.1, nI_1] at e1
    have loop : ∀ (k i : Nat) (m1 : pmMem) (l3 : Option Value), i + k = 12 → (∀ e, e < i → (!(figO l (q + 1 + e)).isSome) = false) → rdM l a (q + 1 + i) n m1 → (∀ j, j < i → (m1.2.1 4).getD j 0 = (chr l (q + 1 + j) - 48) - 4) → ag rdC m m1 → pm_G (d + 3) mX4_readTents 38 [some (.ref 3), some (.ref a), some (.int (nI i)), l3] [] m1 Q := by
      intro k
      induction k with
      | zero =>
        intro i m1 l3 hi inv h1 hg a1
        have e : i = 12 := by omega
        subst e
        refine gX4_readTents_38 (fun _ => kt m1 w (fstN_none 12 inv) h1 ?_ a1) (fun z => absurd (by decide) z)
        rw [lst_of h1.2.2.2.1]
        exact lst_congr (fun j hj => hg j hj)
      | succ k ih =>
        intro i m1 l3 hi inv h1 hg a1
        refine gX4_readTents_38 (fun z => absurd z (n12 (by omega))) (fun _ => c_figureHere hc h1 (by omega) ?_)
        have on := optI_neg (o := figO l (q + 1 + i)) (fun v hv => by have := figO_lt hv; omega)
        cases ho : figO l (q + 1 + i) with
        | none =>
          refine gX4_readTents_49 (fun z => absurd z (by decide)) (fun z => absurd z (by decide)) (fun _ => kf m1 (q + 1 + i) ?_ h1 a1)
          rw [if_pos w]
          exact ⟨i, fstN_some (by show (!(figO l (q + 1 + i)).isSome) = true; rw [ho]; rfl) inv 12 (by omega), rfl⟩
        | some v =>
          obtain ⟨v1, v2⟩ := figO_lt ho
          have p0 : (0 : Int32) ≤ nI v := nI_pos' (by omega)
          refine gX4_readTents_49 (fun _ => by rw [h1.2.2.2.1]; exact ni_in (by omega) (by omega)) (fun _ m2 e2 m3 e3 => ?_) (fun z => absurd p0 z)
          simp only [optI] at e2
          rw [ni_cl (by omega), ← v2] at e2
          have x4 : m2.2.1 4 = (m1.2.1 4).set i ((chr l (q + 1 + i) - 48) - 4) := by rw [e2, pm_rA, if_pos rfl]
          have h2 : rdM l a (q + 1 + i) n m2 := by
            obtain ⟨r1, r2, r3, r4, r5, r6, r7⟩ := h1
            refine ⟨sheetM_ag r1 (show ag rdC m1 m2 by rw [e2]; exact ag_A (ag_refl _ _) (by unfold rdC; omega)) (by unfold rdC; omega) (by unfold rdC; omega), by rw [e2]; exact r2, by rw [e2]; exact r3, by rw [x4, List.length_set]; exact r4, ?_, ?_, ?_⟩
            · rw [e2, pm_rA, if_neg (by omega)]; exact r5
            · rw [e2, pm_rA, if_neg (by omega)]; exact r6
            · rw [e2, pm_rA, if_neg (by omega)]; exact r7
          rw [h2.2.1, nI_1] at e3
          rw [nI_1]
          refine ih (i + 1) m3 _ (by omega) (fun e he => ?_) (rd_place ha h2 e3) (fun j hj => ?_) ?_
          · by_cases c : e = i
            · rw [c, ho]; rfl
            · exact inv e (by omega)
          · rw [show m3.2.1 4 = m2.2.1 4 by rw [e3]; rfl, x4, getD_set (by rw [h1.2.2.2.1]; omega)]
            by_cases c : j = i
            · rw [if_pos c, c]
            · rw [if_neg c]; exact hg j (by omega)
          · rw [e3, e2]
            exact ag_F (ag_A a1 (by unfold rdC; omega)) (by unfold rdC; omega)
    exact loop 12 0 m1 _ (by omega) (fun e he => absurd he (by omega)) (rd_place ha h e1) (fun j hj => absurd hj (by omega)) (by rw [e1]; exact ag_F (ag_refl _ _) (by unfold rdC; omega))
  · refine gX4_readTents_8 hc (fun _ => kf m q ?_ h (ag_refl _ _)) (fun w => absurd rfl w)
    rw [if_neg (by rw [chr_out z]; decide)]
end READ
