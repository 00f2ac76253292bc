/-! what the calls of one hill, one tent, and the deeds answer -/
def hillF (S : Sg) (h k : Nat) : Int32 := if k = 0 then nI ((sL S).2 h).1 else if k = 1 then nI ((sL S).2 h).2.1 else if k = 2 then nI ((sL S).2 h).2.2 else if k = 3 then nI (seenC (sL S) (sS S) h) else if k = 4 then sumC (sL S) (sS S) h else nI (wordC (sL S) (sS S) h)
def o_hill (S : Sg) (x w : Int32) : Int32 × Sg := match idx (sL S).1 x with
  | none => (-1, S)
  | some h => match idx 6 w with
    | none => (-1, S)
    | some k => (1, tell S (hillF S h k))
def tentF (S : Sg) (i k : Nat) : Int32 := if k = 0 then (sS S).1.getD i 0 else if k = 1 then nI (fateC (sS S) i) else nI (seeS (sL S) (sS S) i (sL S).1)
def o_tent (S : Sg) (x w : Int32) : Int32 × Sg := match idx 12 x with
  | none => (-1, S)
  | some i => match idx 3 w with
    | none => (-1, S)
    | some k => if (sL S).1 = 0 then (-4, S) else (1, tell S (tentF S i k))
def o_speak (S : Sg) (x : Int32) : Int32 × Sg := match idx (sL S).1 x with
  | none => (-1, S)
  | some h => if 40 ≤ (sD S).length then (-2, S) else (nI (wordC (sL S) (sS S) h), setD S (sD S ++ [100 + h]))
def o_day (S : Sg) : Int32 × Sg := if (sL S).1 = 0 then (-4, S) else if 40 ≤ (sD S).length then (-2, S) else (nI ((sS S).2.1 + 1), setD S (sD S ++ [0]))
def o_change (S : Sg) (x y : Int32) : Int32 × Sg := match idx 12 x with
  | none => (-1, S)
  | some i => match idx 12 y with
    | none => (-1, S)
    | some j => if i = j then (-1, S) else if (sL S).1 = 0 then (-4, S) else if 40 ≤ (sD S).length then (-2, S) else (nI (blessS (sL S) (sS (setD S (sD S ++ [200 + 12 * i + j]))) (sL S).1), setD S (sD S ++ [200 + 12 * i + j]))
def o_undo (S : Sg) (x : Int32) : Int32 × Sg := match idx ((sD S).length + 1) x with
  | none => (-1, S)
  | some n => (nI ((sD S).length - n), setD S ((sD S).take n))
def o_keep (S : Sg) (x : Int32) : Int32 × Sg := match idx 3 x with
  | none => (-1, S)
  | some k => if (sL S).1 = 0 then (-4, S) else (nI (sD S).length, setK S k (some (sD S)))
def o_on (S : Sg) (x : Int32) : Int32 × Sg := match idx 3 x with
  | none => (-1, S)
  | some k => match sK S k with
    | none => (-3, find S 1)
    | some ds => (nI ds.length, setD S ds)
def o_only (S : Sg) (x y : Int32) : Int32 × Sg := match idx (sL S).1 x with
  | none => (-1, S)
  | some h => match idx (sL S).1 y with
    | none => (-1, S)
    | some k => if h = k then (-1, S) else (nI (dif (seenC (sL S) (sS S) h) (seenC (sL S) (sS S) k)), tell S (nI (cnt (dif (seenC (sL S) (sS S) h) (seenC (sL S) (sS S) k)))))
def o_hidden (S : Sg) : Int32 × Sg := if (sL S).1 = 0 then (-4, S) else (nI (dif 4095 (anyS (sL S) (sS S) (2 ^ (sL S).1 - 1) (sL S).1)), S)
def o_findings (S : Sg) (x : Int32) : Int32 := match idx 6 x with
  | none => -1
  | some f => if f = 0 then -1 else (sFnd S).2.getD f 0
theorem RC_deeds {S : Sg} {m m' : pmMem} {ds : List Nat} (h : RC S m) (hF : campF (sP S) ds (replay (sL S) (sP S) ds) 16 m') (ha : ag (inC 16) m m') (hok : ∀ x ∈ ds, okDeed (sL S) x) (h0 : (sL S).1 = 0 → ds = []) : RC (setD S ds) m' := by
  have h9 := h.2.2.2.2.2.2.2.2
  refine RC_upd h ha (Or.inl ⟨rfl, fun c _ _ z => by unfold inC at z; omega⟩) (Or.inl ⟨rfl, fun c _ _ z => by unfold inC at z; omega⟩) (Or.inl ⟨rfl, fun c _ _ z => by unfold inC at z; omega⟩) (Or.inr hF) (Or.inl ⟨rfl, rfl, rfl, fun z => by unfold inC at z; omega, fun c _ _ z => by unfold inC at z; omega⟩) (Or.inl fun c _ z => by unfold inC at z; omega) (Or.inl ⟨rfl, fun z => by unfold inC at z; omega⟩) (Or.inl ⟨rfl, fun z => by unfold inC at z; omega, fun z => by unfold inC at z; omega⟩) ⟨hok, h9.2.1, fun z => ⟨h0 z, (h9.2.2 z).2⟩⟩
theorem idx_tt {n : Nat} {x : Int32} (hn : n < 2147483648) (h1 : 0 ≤ x.toInt) (h2 : x.toInt < n) : ∃ k, idx n x = some k ∧ k < n ∧ x = nI k := idx_some hn h1 h2
theorem idx_ni {n k : Nat} (h : k < n) (hn : n < 2147483648) : idx n (nI k) = some k := by
  obtain ⟨q, a, b, c⟩ := idx_some (n := n) (x := nI k) hn (by rw [nI_toInt (by omega)]; omega) (by rw [nI_toInt (by omega)]; omega)
  rw [ni_eq (by omega) (by omega)] at c
  rw [a, c]
theorem day_lt {S : Sg} (h : (sD S).length ≤ 40) : (sS S).2.1 + 1 < 900 := by
  have := replay_day (sL S) (sP S) (sD S)
  show (replay (sL S) (sP S) (sD S)).2.1 + 1 < 900
  omega
theorem kd_kept {k : Nat} (hk : k < 3) : pm_kd (53 + 4 * k) = 0 := by
  have : k = 0 ∨ k = 1 ∨ k = 2 := by omega
  rcases this with e | e | e <;> subst e <;> rfl
theorem ra_kept {k : Nat} (hk : k < 3) : pm_ra 24 (nI k).toNatClampNeg = 53 + 4 * k := by
  have : k = 0 ∨ k = 1 ∨ k = 2 := by omega
  rcases this with e | e | e <;> subst e <;> rfl
section OPC2
variable {d : Nat} {m : pmMem} {Q : Option Value → pmMem → Prop} {S : Sg}
theorem C_asked (h : RC S m) (K : Q (some (.int (sTel S).1)) m) : pm_G d mX6_asked 0 [some (.ref 0)] [] m Q := by
  refine gX6_asked_0 ?_
  rw [h.2.2.2.2.2.2.1.1]; exact K
theorem C_upper (h : RC S m) (K : Q (some (.long (sTel S).2.1)) m) : pm_G d mX6_upper 0 [some (.ref 0)] [] m Q := by
  refine gX6_upper_0 ?_
  rw [h.2.2.2.2.2.2.1.2.1]; exact K
theorem C_lower (h : RC S m) (K : Q (some (.long (sTel S).2.2)) m) : pm_G d mX6_lower 0 [some (.ref 0)] [] m Q := by
  refine gX6_lower_0 ?_
  rw [h.2.2.2.2.2.2.1.2.2]; exact K
theorem C_finding (h : RC S m) (K : Q (some (.int (sFnd S).1)) m) : pm_G d mX6_finding 0 [some (.ref 0)] [] m Q := by
  refine gX6_finding_0 ?_
  rw [h.2.2.2.2.2.2.2.1.1]; exact K
theorem C_findings {x : Int32} (h : RC S m) (K : Q (some (.int (o_findings S x))) m) : pm_G d mX6_findings 0 [some (.ref 0), some (.int x)] [] m Q := by
  have h8 := h.2.2.2.2.2.2.2.1
  have e1 : (x < 1) ↔ x.toInt < 1 := by rw [Int32.lt_iff_toInt_lt]; rfl
  have e5 : (x ≤ 5) ↔ x.toInt ≤ 5 := i32_le' (n := 5) (by omega)
  have L1 : x.toInt < 1 → o_findings S x = -1 := by
    intro z
    unfold o_findings
    by_cases w : x.toInt < 0
    · rw [idx_none (by omega)]
    · obtain ⟨k, a, b, c⟩ := idx_some (n := 6) (x := x) (by omega) (by omega) (by omega)
      rw [c, nI_toInt (by omega)] at z
      rw [a]; show (if k = 0 then (-1 : Int32) else _) = -1
      rw [if_pos (by omega)]
  refine gX6_findings_0 ?_ ?_ ?_ ?_ <;> simp only [e1, e5]
  · intro a b
    obtain ⟨k, -, hk, hn⟩ := idx_some (n := 6) (x := x) (by omega) (by omega) (by omega)
    rw [hn, h8.2.1, h8.2.2]; exact ni_in hk (by omega)
  · intro z; rw [L1 z] at K; exact K
  · intro a b
    obtain ⟨k, hi, hk, hn⟩ := idx_some (n := 6) (x := x) (by omega) (by omega) (by omega)
    have hk0 : k ≠ 0 := by intro z; rw [hn, z] at a; exact a (by decide)
    simp only [o_findings, hi, if_neg hk0] at K
    rw [hn, ni_cl (by omega), h8.2.1]; exact K
  · intro a b
    simp only [o_findings, idx_none (n := 6) (x := x) (by omega)] at K
    exact K
theorem c_hillFact {x k : Nat} {l3 : Option Value} (h : RC S m) (hx : x < (sL S).1) (hk : k < 6) (K : Q (some (.int (hillF S x k))) m) : pm_G (d + 4) mX6_hillFact 0 [some (.ref 0), some (.int (nI x)), some (.int (nI k)), l3] [] m Q := by
  have hL := h.2.2.1
  have hC := h.2.2.2.1.1
  have hL6 := hL.2.1
  have g := hL.2.2 x hx
  refine gX6_hillFact_0 (ni_in (n := 6) (by omega) (by omega)) ?_
  rw [ra_hill (by omega)]
  have c := kd_hill (h := x) (by omega)
  have ks : k = 0 ∨ k = 1 ∨ k = 2 ∨ k = 3 ∨ k = 4 ∨ k = 5 := by omega
  rcases ks with e | e | e | e | e | e <;> subst e
  · refine gX6_hillFact_11_0 c ?_; rw [g.1]; exact K
  · refine gX6_hillFact_11_1 c ?_; rw [g.2.1]; exact K
  · refine gX6_hillFact_11_2 c ?_; rw [g.2.2.1]; exact K
  · exact gX6_hillFact_11_3 (c_seenFrom rfl hL hC hx (gX6_hillFact_67 K))
  · exact gX6_hillFact_11_4 (c_sumFrom rfl hL hC hx (gX6_hillFact_76 K))
  · exact gX6_hillFact_11_d (by decide) (c_wordFrom rfl hL hC hx (gX6_hillFact_85 K))
theorem C_hill {x w : Int32} (h : RC S m) (K : okC (o_hill S x w) m Q) : pm_G (d + 5) mX6_hill 0 [some (.ref 0), some (.int x), some (.int w)] [] m Q := by
  have hL := h.2.2.1
  have e0 : (w < 0) ↔ w.toInt < 0 := i32_neg
  have e6 : (w < 6) ↔ w.toInt < 6 := by rw [Int32.lt_iff_toInt_lt]; rfl
  refine gX6_hill_0 (c_isHill hL (fun r hi hr hx => ?_) (fun hi => ?_))
  · simp only [o_hill, hi] at K
    refine gX6_hill_5 (fun z => absurd z (by decide)) ?_ ?_ ?_ <;> simp only [e0, e6]
    · intro _ z
      simp only [idx_none (n := 6) (x := w) (by omega)] at K
      exact K m h (ag_refl _ _)
    · intro _ a b
      obtain ⟨k, hi2, hk, hn⟩ := idx_some (n := 6) (x := w) (by omega) (by omega) (by omega)
      simp only [hi2] at K
      rw [hx, hn]
      refine c_hillFact h hr hk (gX6_hill_27 (fun m1 e1 => ?_))
      rw [e1]
      exact K _ (RC_tell h) (ag_F (ag_refl _ _) (by omega))
    · intro _ a z
      simp only [idx_none (n := 6) (x := w) (by omega)] at K
      exact K m h (ag_refl _ _)
  · simp only [o_hill, hi] at K
    exact gX6_hill_5 (fun _ => K m h (ag_refl _ _)) (fun z => absurd rfl z) (fun z => absurd rfl z) (fun z => absurd rfl z)
theorem C_tent {x w : Int32} (h : RC S m) (K : okC (o_tent S x w) m Q) : pm_G (d + 5) mX6_tent 0 [some (.ref 0), some (.int x), some (.int w)] [] m Q := by
  have hL := h.2.2.1
  have hC := h.2.2.2.1.1
  have e0 : (w < 0) ↔ w.toInt < 0 := i32_neg
  have e3 : (w < 3) ↔ w.toInt < 3 := by rw [Int32.lt_iff_toInt_lt]; rfl
  refine gX6_tent_0 (c_isTent (fun r hi hr hx => ?_) (fun hi => ?_))
  · simp only [o_tent, hi] at K
    refine gX6_tent_4 (fun z => absurd z (by decide)) ?_ ?_ ?_ <;> simp only [e0, e3]
    · intro _ z
      simp only [idx_none (n := 3) (x := w) (by omega)] at K
      exact K m h (ag_refl _ _)
    · intro _ a b
      obtain ⟨k, hi2, hk, hn⟩ := idx_some (n := 3) (x := w) (by omega) (by omega) (by omega)
      simp only [hi2] at K
      refine c_hasNoHills hL (fun hz => ?_) (fun hz => ?_)
      · rw [if_pos hz] at K
        exact gX6_tent_22 (fun z => absurd z (by decide)) (fun z => absurd z (by decide)) (fun z => absurd z (by decide)) (fun z => absurd z (by decide)) (fun _ => K m h (ag_refl _ _))
      · rw [if_neg hz] at K
        have T : ∀ v m1, v = tentF S r k → m1 = pm_setF m 0 11 v → Q (some (.int 1)) m1 := by
          intro v m1 ev e1
          rw [e1, ev]
          exact K _ (RC_tell h) (ag_F (ag_refl _ _) (by omega))
        have w0 : w = 0 ↔ k = 0 := by rw [hn]; exact ni_eq (b := 0) (by omega) (by omega)
        have w1 : w = 1 ↔ k = 1 := by rw [hn]; exact ni_eq (b := 1) (by omega) (by omega)
        rw [hx]
        refine gX6_tent_22 ?_ ?_ ?_ ?_ (fun z => absurd rfl z) <;> simp only [w0, w1]
        · intro _ _; rw [show m.2.1 18 = (sS S).1 from hC.1, hC.2.2.2.2.2.1]; exact ni_in hr (by omega)
        · intro _ z1 z2
          refine c_hillsThatSee rfl hL hC hr (gX6_tent_77 (fun m1 e1 => T _ m1 ?_ e1))
          simp only [tentF, if_neg z1, if_neg z2]
        · intro _ z1 z2
          refine c_fateOf rfl hC hr (gX6_tent_62 (fun m1 e1 => T _ m1 ?_ e1))
          simp only [tentF, if_neg z1, if_pos z2]
        · intro _ z1 m1 e1
          refine T _ m1 ?_ e1
          rw [ni_cl (by omega), show m.2.1 18 = (sS S).1 from hC.1]
          simp only [tentF, if_pos z1]
    · intro _ a z
      simp only [idx_none (n := 3) (x := w) (by omega)] at K
      exact K m h (ag_refl _ _)
  · simp only [o_tent, hi] at K
    exact gX6_tent_4 (fun _ => K m h (ag_refl _ _)) (fun z => absurd rfl z) (fun z => absurd rfl z) (fun z => absurd rfl z)
theorem sOk_snoc {c : Nat} (h : sOk S) (hc : okDeed (sL S) c) : ∀ x ∈ sD S ++ [c], okDeed (sL S) x := by
  intro x hx
  rcases List.mem_append.mp hx with z | z
  · exact h.1 x z
  · rw [List.mem_singleton.mp z]; exact hc
theorem c_deed {c : Nat} (h : RC S m) (h40 : (sD S).length < 40) (hc : okDeed (sL S) c) (h0 : (sL S).1 ≠ 0) (K : ∀ m', RC (setD S (sD S ++ [c])) m' → ag (fun c => c < 65) m m' → Q none m') : pm_G (d + 4) mX0_doAndNote 0 [some (.ref 16), some (.int (nI c))] [] m Q := by
  refine c_doAndNote rfl h.2.2.1 h.2.2.2.1 h40 hc (day_lt (by omega)) (fun m' a b => K m' (RC_deeds h ?_ b (sOk_snoc h.2.2.2.2.2.2.2.2 hc) (fun z => absurd z h0)) (ag_mono (fun c z => by unfold inC at z; omega) b))
  rw [replay_snoc]; exact a
theorem C_speak {x : Int32} {l2 : Option Value} (h : RC S m) (K : okC (o_speak S x) m Q) : pm_G (d + 5) mX6_speak 0 [some (.ref 0), some (.int x), l2] [] m Q := by
  have hL := h.2.2.1
  have hC := h.2.2.2.1
  have hL6 := hL.2.1
  have h40 := hC.2.2.2.2.1
  refine gX6_speak_0 (c_isHill hL (fun r hi hr hx => ?_) (fun hi => ?_))
  · simp only [o_speak, hi] at K
    have e : (m.1 16 4 < 40) ↔ (sD S).length < 40 := by rw [hC.2.2.2.1]; exact ni_lt (b := 40) (by omega) (by omega)
    refine gX6_speak_5 ?_ ?_ (fun z => absurd z (by decide)) <;> simp only [e]
    · intro _ z
      rw [if_neg (by omega)] at K
      rw [hx]
      refine c_wordFrom rfl hL hC.1 hr (gX6_speak_33 ?_)
      rw [show (100 : Int32) + nI r = nI (100 + r) from nI_add 100 r]
      exact c_deed h z (Or.inr (Or.inl ⟨by omega, by omega⟩)) (by omega) (fun m' a b => gX6_speak_45 (K m' a b))
    · intro _ z
      rw [if_pos (by omega)] at K
      exact K m h (ag_refl _ _)
  · simp only [o_speak, hi] at K
    exact gX6_speak_5 (fun z => absurd rfl z) (fun z => absurd rfl z) (fun _ => K m h (ag_refl _ _))
theorem C_day (h : RC S m) (K : okC (o_day S) m Q) : pm_G (d + 5) mX6_day 0 [some (.ref 0)] [] m Q := by
  have hL := h.2.2.1
  have hC := h.2.2.2.1
  have h40 := hC.2.2.2.2.1
  unfold o_day at K
  refine gX6_day_0 (c_hasNoHills hL (fun hz => ?_) (fun hz => ?_))
  · rw [if_pos hz] at K
    exact gX6_day_4 (fun z => absurd z (by decide)) (fun z => absurd z (by decide)) (fun _ => K m h (ag_refl _ _))
  · rw [if_neg hz] at K
    have e : (m.1 16 4 < 40) ↔ (sD S).length < 40 := by rw [hC.2.2.2.1]; exact ni_lt (b := 40) (by omega) (by omega)
    refine gX6_day_4 ?_ ?_ (fun z => absurd rfl z) <;> simp only [e]
    · intro _ z
      rw [if_neg (by omega)] at K
      refine c_deed (c := 0) h z (Or.inl (by omega)) hz (fun m' a b => gX6_day_33 ?_)
      have q := a.2.2.2.1.1.2.1
      rw [q]
      have e2 : (sS (setD S (sD S ++ [0]))).2.1 = (sS S).2.1 + 1 := by
        show (replay (sL S) (sP S) (sD S ++ [0])).2.1 = _
        rw [replay_snoc]; rfl
      rw [e2]
      exact K m' a b
    · intro _ z
      rw [if_pos (by omega)] at K
      exact K m h (ag_refl _ _)
theorem C_change {x y : Int32} (h : RC S m) (K : okC (o_change S x y) m Q) : pm_G (d + 5) mX6_change 0 [some (.ref 0), some (.int x), some (.int y)] [] m Q := by
  have hL := h.2.2.1
  have hC := h.2.2.2.1
  have h40 := hC.2.2.2.2.1
  refine gX6_change_0 (c_isTent (fun i hi hr hx => ?_) (fun hi => ?_))
  · simp only [o_change, hi] at K
    refine gX6_change_4 (fun z => absurd z (by decide)) (fun _ => c_isTent (fun j hi2 hr2 hy => ?_) (fun hi2 => ?_))
    · simp only [hi2] at K
      have exy : (x = y) ↔ i = j := by rw [hx, hy]; exact ni_eq (by omega) (by omega)
      refine gX6_change_11 (fun z => absurd z (by decide)) ?_ ?_ <;> simp only [exy]
      · intro _ hij
        rw [if_neg hij] at K
        refine c_hasNoHills hL (fun hz => ?_) (fun hz => ?_)
        · rw [if_pos hz] at K
          exact gX6_change_25 (fun z => absurd z (by decide)) (fun z => absurd z (by decide)) (fun _ => K m h (ag_refl _ _))
        · rw [if_neg hz] at K
          have e : (m.1 16 4 < 40) ↔ (sD S).length < 40 := by rw [hC.2.2.2.1]; exact ni_lt (b := 40) (by omega) (by omega)
          refine gX6_change_25 ?_ ?_ (fun z => absurd rfl z) <;> simp only [e]
          · intro _ z
            rw [if_neg (by omega)] at K
            rw [show (200 + (12 * x)) + y = nI (200 + 12 * i + j) by rw [hx, hy, show (12 : Int32) = nI 12 from rfl, pk_mul, show (200 : Int32) = nI 200 from rfl, nI_add, nI_add]]
            refine c_deed h z (Or.inr (Or.inr ⟨by omega, by omega⟩)) hz (fun m' a b => gX6_change_63 (c_hillsThatBless rfl a.2.2.1 a.2.2.2.1.1 (gX6_change_70 (K m' a b))))
          · intro _ z
            rw [if_pos (by omega)] at K
            exact K m h (ag_refl _ _)
      · intro _ hij
        rw [if_pos hij] at K
        exact K m h (ag_refl _ _)
    · simp only [hi2] at K
      exact gX6_change_11 (fun _ => K m h (ag_refl _ _)) (fun z => absurd rfl z) (fun z => absurd rfl z)
  · simp only [o_change, hi] at K
    exact gX6_change_4 (fun _ => K m h (ag_refl _ _)) (fun z => absurd rfl z)
theorem nI_sub {a b : Nat} (h : b ≤ a) : nI a - nI b = nI (a - b) := by
  have := nI_add (a - b) b
  rw [Nat.sub_add_cancel h] at this
  rw [← this]; simp
theorem C_undo {x : Int32} {l2 : Option Value} (h : RC S m) (K : okC (o_undo S x) m Q) : pm_G (d + 5) mX6_undo 0 [some (.ref 0), some (.int x), l2] [] m Q := by
  have hL := h.2.2.1
  have hC := h.2.2.2.1
  have h40 := hC.2.2.2.2.1
  have h9 := h.2.2.2.2.2.2.2.2
  have e0 : (x < 0) ↔ x.toInt < 0 := i32_neg
  have e1 : (x ≤ m.1 16 4) ↔ x.toInt ≤ (sD S).length := by rw [hC.2.2.2.1]; exact i32_le' (by omega)
  refine gX6_undo_0 ?_ ?_ ?_ <;> simp only [e0, e1]
  · intro z
    simp only [o_undo, idx_none (n := (sD S).length + 1) (x := x) (by omega)] at K
    exact K m h (ag_refl _ _)
  · intro a b
    obtain ⟨k, hi, hk, hn⟩ := idx_some (n := (sD S).length + 1) (x := x) (by omega) (by omega) (by omega)
    simp only [o_undo, hi] at K
    rw [hC.2.2.2.1, hn, nI_sub (by omega)]
    refine c_goBackTo rfl hL hC (by omega) h9.1 (fun m' a b => gX6_undo_35 (K m' (RC_deeds h a b (fun x hx => h9.1 x (List.mem_of_mem_take hx)) (fun z => by rw [(h9.2.2 z).1]; exact List.take_nil)) (ag_mono (fun c z => by unfold inC at z; omega) b)))
  · intro a z
    simp only [o_undo, idx_none (n := (sD S).length + 1) (x := x) (by omega)] at K
    exact K m h (ag_refl _ _)
theorem C_keep {x : Int32} (h : RC S m) (K : okC (o_keep S x) m Q) : pm_G (d + 5) mX6_keep 0 [some (.ref 0), some (.int x)] [] m Q := by
  have hL := h.2.2.1
  have hC := h.2.2.2.1
  have hK := h.2.2.2.2.1
  have h9 := h.2.2.2.2.2.2.2.2
  refine gX6_keep_0 (c_isKeepingPlace (fun k hi hk hx => ?_) (fun hi => ?_))
  · simp only [o_keep, hi] at K
    refine gX6_keep_4 (fun _ => c_hasNoHills hL (fun hz => ?_) (fun hz => ?_)) (fun z => absurd z (by decide))
    · rw [if_pos hz] at K
      exact gX6_keep_13 (fun z => absurd z (by decide)) (fun z => absurd z (by decide)) (fun _ => K m h (ag_refl _ _))
    · rw [if_neg hz] at K
      refine gX6_keep_13 (fun _ => by rw [hx]; exact ni_in (n := 3) hk (by omega)) (fun _ => ?_) (fun z => absurd rfl z)
      rw [hx, ra_kept hk]
      refine c_take (kd_kept hk) rfl (by omega) (hK.2 k hk).1 hC (fun m' a b => ?_)
      have e25 : m'.2.1 25 = m.2.1 25 := (b 25 (by unfold inC; omega)).2.1
      have e16 : m'.1 16 = m.1 16 := (b 16 (by unfold inC; omega)).1
      refine gX6_keep_32 (by rw [e25, hK.1]; exact ni_in hk (by omega)) (fun m1 e1 => ?_)
      rw [e25, ni_cl (by omega)] at e1
      have b1 : ag (fun c => c = 25 ∨ inC (53 + 4 * k) c) m m1 := by rw [e1]; exact ag_A (ag_mono (fun c z => Or.inr z) b) (Or.inl rfl)
      rw [show m1.1 16 4 = nI (sD S).length by rw [e1]; show m'.1 16 4 = _; rw [e16]; exact hC.2.2.2.1]
      refine K m1 ?_ (ag_mono (fun c z => by unfold inC at z; omega) b1)
      have e251 : m1.2.1 25 = (m.2.1 25).set k 1 := by rw [e1, pm_rA, if_pos rfl]
      refine RC_upd h b1 (Or.inl ⟨rfl, fun c _ _ z => by unfold inC at z; omega⟩) (Or.inl ⟨rfl, fun c _ _ z => by unfold inC at z; omega⟩) (Or.inl ⟨rfl, fun c _ _ z => by unfold inC at z; omega⟩) (Or.inl ⟨rfl, rfl, rfl, fun c _ _ z => by unfold inC at z; omega⟩) (Or.inr ?_) (Or.inl fun c _ z => by unfold inC at z; omega) (Or.inl ⟨rfl, fun z => by unfold inC at z; omega⟩) (Or.inl ⟨rfl, fun z => by unfold inC at z; omega, fun z => by unfold inC at z; omega⟩) ⟨h9.1, ?_, fun z => absurd z hz⟩
      · refine ⟨by rw [e251, List.length_set]; exact hK.1, fun q hq => ?_⟩
        have a1 : ag (fun c => c = 25) m' m1 := by rw [e1]; exact ag_A (ag_refl _ _) rfl
        show campLen (53 + 4 * q) m1 ∧ _
        by_cases e : q = k
        · subst e
          have F1 : campF (sP S) (sD S) (sS S) (53 + 4 * q) m1 := campF_ag a a1 (fun c z w => by unfold inC at z; omega)
          refine ⟨⟨?_, ?_, F1.2.2.2.2.2.1⟩, ?_⟩
          · rw [F1.2.1]; exact F1.2.2.1
          · rw [F1.1.1]; exact F1.1.2.2.2.2.2.1
          · show match upo (sK S) q (some (sD S)) q with | none => _ | some ds => _
            unfold upo
            rw [if_pos rfl]
            refine ⟨?_, F1⟩
            rw [e251, getD_set (by rw [hK.1]; exact hq), if_pos rfl]
        · have nb : ∀ c, inC (53 + 4 * q) c → ¬ (c = 25 ∨ inC (53 + 4 * k) c) := fun c z w => by unfold inC at z w; omega
          refine ⟨campLen_ag (hK.2 q hq).1 b1 nb, ?_⟩
          show match upo (sK S) k (some (sD S)) q with | none => _ | some ds => _
          unfold upo
          rw [if_neg e]
          have g := (hK.2 q hq).2
          have eg : (m1.2.1 25).getD q 0 = (m.2.1 25).getD q 0 := by rw [e251, getD_set (by rw [hK.1]; exact hk), if_neg e]
          cases ho : sK S q with
          | none => rw [ho] at g; show (m1.2.1 25).getD q 0 = 0; rw [eg]; exact g
          | some ds => rw [ho] at g; exact ⟨by rw [eg]; exact g.1, campF_ag g.2 b1 nb⟩
      · intro q ds hq
        show ∀ x ∈ ds, okDeed (sL S) x
        have hq : upo (sK S) k (some (sD S)) q = some ds := hq
        unfold upo at hq
        by_cases e : q = k
        · rw [if_pos e] at hq; cases hq; exact h9.1
        · rw [if_neg e] at hq; exact h9.2.1 q ds hq
  · simp only [o_keep, hi] at K
    exact gX6_keep_4 (fun z => absurd rfl z) (fun _ => K m h (ag_refl _ _))
theorem C_only {x y : Int32} {l3 : Option Value} (h : RC S m) (K : okC (o_only S x y) m Q) : pm_G (d + 5) mX6_only 0 [some (.ref 0), some (.int x), some (.int y), l3] [] m Q := by
  have hL := h.2.2.1
  have hC := h.2.2.2.1.1
  have hL6 := hL.2.1
  refine gX6_only_0 (c_isHill hL (fun i hi hr hx => ?_) (fun hi => ?_))
  · simp only [o_only, hi] at K
    refine gX6_only_5 (fun z => absurd z (by decide)) (fun _ => c_isHill hL (fun j hi2 hr2 hy => ?_) (fun hi2 => ?_))
    · simp only [hi2] at K
      have exy : (x = y) ↔ i = j := by rw [hx, hy]; exact ni_eq (by omega) (by omega)
      refine gX6_only_13 (fun z => absurd z (by decide)) ?_ ?_ <;> simp only [exy]
      · intro _ hij
        rw [if_neg hij] at K
        rw [hx, hy]
        refine c_seenFrom rfl hL hC hr (gX6_only_31 (c_seenFrom rfl hL hC hr2 (gX6_only_39 ?_)))
        rw [ni_andn]
        refine c_bitCount (dif_lt (seenS_lt _ _ _ _ _)) (gX6_only_48 (fun m1 e1 => ?_))
        rw [e1]
        exact K _ (RC_tell h) (ag_F (ag_refl _ _) (by omega))
      · intro _ hij
        rw [if_pos hij] at K
        exact K m h (ag_refl _ _)
    · simp only [hi2] at K
      exact gX6_only_13 (fun _ => K m h (ag_refl _ _)) (fun z => absurd rfl z) (fun z => absurd rfl z)
  · simp only [o_only, hi] at K
    exact gX6_only_5 (fun _ => K m h (ag_refl _ _)) (fun z => absurd rfl z)
theorem C_hidden (h : RC S m) (K : okC (o_hidden S) m Q) : pm_G (d + 5) mX6_hidden 0 [some (.ref 0)] [] m Q := by
  have hL := h.2.2.1
  have hC := h.2.2.2.1.1
  have hL6 := hL.2.1
  unfold o_hidden at K
  refine gX6_hidden_0 (c_hasNoHills hL (fun hz => ?_) (fun hz => ?_))
  · rw [if_pos hz] at K
    exact gX6_hidden_4 (fun z => absurd z (by decide)) (fun _ => K m h (ag_refl _ _))
  · rw [if_neg hz] at K
    refine gX6_hidden_4 (fun _ => c_allHills hL (gX6_hidden_21 ?_)) (fun z => absurd rfl z)
    have lt : 2 ^ (sL S).1 - 1 < 4096 := by
      have : 2 ^ (sL S).1 ≤ 2 ^ 6 := Nat.pow_le_pow_right (by omega) hL6
      omega
    refine c_seenFromAny rfl hL hC lt (gX6_hidden_24 ?_)
    rw [show (4095 : Int32) = nI 4095 from rfl, ni_andn]
    exact K m h (ag_refl _ _)
end OPC2
