section HELP
variable {d : Nat} {m : pmMem} {Q : Option Value → pmMem → Prop} {S : Sg}
theorem i32_neg {x : Int32} : x < 0 ↔ x.toInt < 0 := Int32.lt_iff_toInt_lt
theorem i32_le {x : Int32} {n : Nat} (hn : n < 2147483648) : nI n ≤ x ↔ (n : Int) ≤ x.toInt := by rw [Int32.le_iff_toInt_le, nI_toInt hn]
theorem i32_lt {x : Int32} {n : Nat} (hn : n < 2147483648) : nI n < x ↔ (n : Int) < x.toInt := by rw [Int32.lt_iff_toInt_lt, nI_toInt hn]
theorem i32_le' {x : Int32} {n : Nat} (hn : n < 2147483648) : x ≤ nI n ↔ x.toInt ≤ (n : Int) := by rw [Int32.le_iff_toInt_le, nI_toInt hn]
theorem rng {x : Int32} {n : Nat} {A : Prop} {B : Nat → Prop} (hn : n < 2147483648) (kt : ∀ r, idx n x = some r → r < n → x = nI r → B r) (kf : idx n x = none → A) : ((x < 0) → A) ∧ ((¬ x < 0) → (nI n ≤ x) → A) ∧ ((¬ x < 0) → (¬ nI n ≤ x) → ∃ r, B r) := by
  refine ⟨fun h => kf (idx_none (fun z => ?_)), fun _ h => kf (idx_none (fun z => ?_)), fun h1 h2 => ?_⟩
  · have := i32_neg.mp h; omega
  · have := (i32_le hn).mp h; omega
  · have h1 : ¬ x.toInt < 0 := fun z => h1 (i32_neg.mpr z)
    have h2 : ¬ (n : Int) ≤ x.toInt := fun z => h2 ((i32_le hn).mpr z)
    obtain ⟨r, a, b, c⟩ := idx_some hn (x := x) (by omega) (by omega)
    exact ⟨r, kt r a b c⟩
theorem c_isRow {x : Int32} (kt : ∀ r, idx 6 x = some r → r < 6 → x = nI r → Q (some (.int 1)) m) (kf : idx 6 x = none → Q (some (.int 0)) m) : pm_G d mX6_isRow 0 [some (.int x)] [] m Q := by
  obtain ⟨a, b, c⟩ := rng (B := fun _ => Q (some (.int 1)) m) (by omega) kt kf
  exact gX6_isRow_0 a b (fun h1 h2 => (c h1 h2).elim fun _ h => h)
theorem c_isText {x : Int32} (kt : ∀ r, idx 4 x = some r → r < 4 → x = nI r → Q (some (.int 1)) m) (kf : idx 4 x = none → Q (some (.int 0)) m) : pm_G d mX6_isText 0 [some (.int x)] [] m Q := by
  obtain ⟨a, b, c⟩ := rng (B := fun _ => Q (some (.int 1)) m) (by omega) kt kf
  exact gX6_isText_0 a b (fun h1 h2 => (c h1 h2).elim fun _ h => h)
theorem c_isTent {x : Int32} (kt : ∀ r, idx 12 x = some r → r < 12 → x = nI r → Q (some (.int 1)) m) (kf : idx 12 x = none → Q (some (.int 0)) m) : pm_G d mX6_isTent 0 [some (.int x)] [] m Q := by
  obtain ⟨a, b, c⟩ := rng (B := fun _ => Q (some (.int 1)) m) (by omega) kt kf
  exact gX6_isTent_0 a b (fun h1 h2 => (c h1 h2).elim fun _ h => h)
theorem c_isWord {x : Int32} (kt : ∀ r, idx 3 x = some r → r < 3 → x = nI r → Q (some (.int 1)) m) (kf : idx 3 x = none → Q (some (.int 0)) m) : pm_G d mX6_isWord 0 [some (.int x)] [] m Q := by
  obtain ⟨a, b, c⟩ := rng (B := fun _ => Q (some (.int 1)) m) (by omega) kt kf
  exact gX6_isWord_0 a b (fun h1 h2 => (c h1 h2).elim fun _ h => h)
theorem c_isKeepingPlace {x : Int32} (kt : ∀ r, idx 3 x = some r → r < 3 → x = nI r → Q (some (.int 1)) m) (kf : idx 3 x = none → Q (some (.int 0)) m) : pm_G d mX6_isKeepingPlace 0 [some (.int x)] [] m Q := by
  obtain ⟨a, b, c⟩ := rng (B := fun _ => Q (some (.int 1)) m) (by omega) kt kf
  exact gX6_isKeepingPlace_0 a b (fun h1 h2 => (c h1 h2).elim fun _ h => h)
theorem lt_le9 {x : Int32} {n : Nat} (hn : n + 1 < 2147483648) : (nI n < x) ↔ (nI (n + 1) ≤ x) := by
  rw [i32_lt (by omega), i32_le (by omega)]; omega
theorem c_isFee {x : Int32} (kt : ∀ r, idx 10 x = some r → r < 10 → x = nI r → Q (some (.int 1)) m) (kf : idx 10 x = none → Q (some (.int 0)) m) : pm_G d mX6_isFee 0 [some (.int x)] [] m Q := by
  obtain ⟨a, b, c⟩ := rng (B := fun _ => Q (some (.int 1)) m) (by omega) kt kf
  exact gX6_isFee_0 a (fun h1 h2 => b h1 ((lt_le9 (n := 9) (by omega)).mp h2)) (fun h1 h2 => (c h1 (fun z => h2 ((lt_le9 (n := 9) (by omega)).mpr z))).elim fun _ h => h)
theorem c_isChance {x : Int32} (kt : ∀ r, idx 13 x = some r → r < 13 → x = nI r → Q (some (.int 1)) m) (kf : idx 13 x = none → Q (some (.int 0)) m) : pm_G d mX6_isChance 0 [some (.int x)] [] m Q := by
  obtain ⟨a, b, c⟩ := rng (B := fun _ => Q (some (.int 1)) m) (by omega) kt kf
  exact gX6_isChance_0 a (fun h1 h2 => b h1 ((lt_le9 (n := 12) (by omega)).mp h2)) (fun h1 h2 => (c h1 (fun z => h2 ((lt_le9 (n := 12) (by omega)).mpr z))).elim fun _ h => h)
theorem c_isHill {x : Int32} {L : Ld} (hL : landM L m) (kt : ∀ r, idx L.1 x = some r → r < L.1 → x = nI r → Q (some (.int 1)) m) (kf : idx L.1 x = none → Q (some (.int 0)) m) : pm_G d mX6_isHill 0 [some (.ref 0), some (.int x)] [] m Q := by
  have h6 := hL.2.1
  obtain ⟨a, b, c⟩ := rng (B := fun _ => Q (some (.int 1)) m) (by omega) kt kf
  refine gX6_isHill_0 a ?_ ?_
  · rw [hL.1]; exact b
  · rw [hL.1]; exact fun h1 h2 => (c h1 h2).elim fun _ h => h
theorem c_hasNoHills {L : Ld} (hL : landM L m) (kt : L.1 = 0 → Q (some (.int 1)) m) (kf : L.1 ≠ 0 → Q (some (.int 0)) m) : pm_G d mX6_hasNoHills 0 [some (.ref 0)] [] m Q := by
  have h6 := hL.2.1
  refine gX6_hasNoHills_0 ?_ ?_ <;> rw [hL.1]
  · intro h; exact kf (ni_ne (n := 0) h)
  · intro h; exact kt ((ni_eq (b := 0) (by omega) (by omega)).mp h)
theorem c_allHills {L : Ld} (hL : landM L m) (K : Q (some (.int (nI (2 ^ L.1 - 1)))) m) : pm_G d mX6_allHills 0 [some (.ref 0)] [] m Q := by
  have h6 := hL.2.1
  refine gX6_allHills_0 ?_
  rw [hL.1, ni_shl _ (by omega), show (1 : Int32) = nI 1 from rfl, pk_sub (Nat.one_le_two_pow)]
  exact K
/-- a finding is noted -/
theorem c_refuse {f : Nat} (hf : 1 ≤ f) (hf2 : f ≤ 5) (h : RC S m) (K : okC (-3, find S f) m Q) : pm_G d mX6_refuse 0 [some (.ref 0), some (.int (nI f))] [] m Q := by
  have h8 := h.2.2.2.2.2.2.2.1
  have n1 : ¬ nI f < 1 := fun z => by have := (ni_lt (b := 1) (by omega) (by omega)).mp z; omega
  have n2 : ¬ (5 : Int32) < nI f := fun z => by have := (ni_lt (a := 5) (by omega) (by omega)).mp z; omega
  refine gX6_refuse_0 (fun m1 e1 _ _ => ?_) (fun m1 e1 z => absurd z n1) (fun m1 e1 _ z => absurd z n2) (fun m1 e1 _ _ m2 e2 => ?_)
  · rw [e1]
    show vp_in (nI f) (m.2.1 32).length
    rw [h8.2.1, h8.2.2]; exact ni_in (by omega) (by omega)
  · have ag2 : ag (fun c => c = 0 ∨ c = 32) m m2 := by rw [e2, e1]; exact ag_A (ag_F (ag_refl _ _) (Or.inl rfl)) (Or.inr rfl)
    refine K m2 ?_ (ag_mono (fun c z => by omega) ag2)
    have f2 : m2.1 0 10 = nI f := by rw [e2, e1]; show (pm_setF m 0 10 (nI f)).1 0 10 = _; rw [pm_rF, if_pos ⟨rfl, rfl⟩]
    have f3 : m2.1 0 11 = m.1 0 11 := by rw [e2, e1]; show (pm_setF m 0 10 (nI f)).1 0 11 = _; rw [pm_rF, if_neg (by omega)]
    have f4 : m2.2.2 = m.2.2 := by rw [e2, e1]; rfl
    have f5 : m2.2.1 32 = (sFnd S).2.set f ((sFnd S).2.getD f 0 + 1) := by
      rw [e2, pm_rA, if_pos rfl, e1, ni_cl (by omega)]
      show (m.2.1 32).set f ((m.2.1 32).getD f 0 + 1) = _
      rw [h8.2.1]
    have h7 := h.2.2.2.2.2.2.1
    refine RC_upd h ag2 (Or.inl ⟨rfl, fun c _ _ z => by omega⟩) (Or.inl ⟨rfl, fun c _ _ z => by omega⟩) (Or.inl ⟨rfl, fun c _ _ z => by omega⟩) (Or.inl ⟨rfl, rfl, rfl, fun c _ _ z => by omega⟩) (Or.inl ⟨rfl, rfl, rfl, fun z => by omega, fun c _ _ z => by omega⟩) (Or.inl fun c _ z => by omega) (Or.inr ?_) (Or.inr ?_) h.2.2.2.2.2.2.2.2
    · exact ⟨f3.trans h7.1, by rw [f4]; exact h7.2.1, by rw [f4]; exact h7.2.2⟩
    · refine ⟨f2, f5, ?_⟩
      show ((sFnd S).2.set f _).length = 6
      rw [List.length_set]; exact h8.2.2
/-! sheets -/
theorem kd_row {r : Nat} (h : r < 6) : pm_kd (33 + 2 * r) = 5 := by
  have key : ∀ r, r < 6 → pm_kd (33 + 2 * r) = 5 := by decide +kernel
  exact key r h
theorem kd_text {r : Nat} (h : r < 4) : pm_kd (45 + 2 * r) = 5 := by
  have key : ∀ r, r < 4 → pm_kd (45 + 2 * r) = 5 := by decide +kernel
  exact key r h
theorem ra_row {r : Nat} (h : r < 6) : pm_ra 1 (nI r).toNatClampNeg = 33 + 2 * r := by rw [ni_cl (by omega)]; rfl
theorem ra_text {r : Nat} (h : r < 4) : pm_ra 2 (nI r).toNatClampNeg = 45 + 2 * r := by rw [ni_cl (by omega)]; rfl
theorem c_isMissing {o : Option (List Int32)} {cap a : Nat} (hc : pm_kd a = 5) (h : sheetM o cap a m) (hcap : cap < 1000) (kt : o = none → Q (some (.int 1)) m) (kf : ∀ l, o = some l → Q (some (.int 0)) m) : pm_G d mX5_isMissing 0 [some (.ref a)] [] m Q := by
  refine gX5_isMissing_0 hc ?_ ?_
  · intro hne
    cases o with
    | none => exact absurd h.2 hne
    | some l => exact kf l rfl
  · intro he
    cases o with
    | none => exact kt rfl
    | some l =>
      have h2 := h.2.1.symm.trans he
      have h3 := h.2.2.1
      have := congrArg Int32.toInt h2
      rw [nI_toInt (by omega)] at this
      exact absurd this (by
        rw [show ((-1 : Int32).toInt) = -1 from by decide]
        omega)
theorem c_size {l : List Int32} {cap a : Nat} (hc : pm_kd a = 5) (h : sheetM (some l) cap a m) (K : Q (some (.int (nI l.length))) m) : pm_G d mX5_size 0 [some (.ref a)] [] m Q := by
  refine gX5_size_0 hc ?_
  rw [h.2.1]; exact K
theorem c_has {l : List Int32} {cap a : Nat} {x : Int32} (hc : pm_kd a = 5) (h : sheetM (some l) cap a m) (hcap : cap < 1000) (kt : ∀ i, idx l.length x = some i → i < l.length → x = nI i → Q (some (.int 1)) m) (kf : idx l.length x = none → Q (some (.int 0)) m) : pm_G d mX5_has 0 [some (.ref a), some (.int x)] [] m Q := by
  have h3 := h.2.2.1
  obtain ⟨q1, q2, q3⟩ := rng (B := fun _ => Q (some (.int 1)) m) (by omega) kt kf
  refine gX5_has_0 hc q1 ?_ ?_
  · rw [h.2.1]; exact q2
  · rw [h.2.1]; exact fun h1 h2 => (q3 h1 h2).elim fun _ h => h
theorem sheet_get {l : List Int32} {cap a i : Nat} (h : sheetM (some l) cap a m) (hi : i < l.length) : (m.2.1 (a + 1)).getD i 0 = l.getD i 0 := by
  have e := congrArg (fun z => z[i]?) h.2.2.2
  simp only [List.getElem?_take_of_lt hi] at e
  rw [List.getD_eq_getElem?_getD, List.getD_eq_getElem?_getD, e]
theorem c_get {l : List Int32} {cap a i : Nat} (hc : pm_kd a = 5) (h : sheetM (some l) cap a m) (hcap : cap < 1000) (hi : i < l.length) (K : Q (some (.int (l.getD i 0))) m) : pm_G (d + 1) mX5_get 0 [some (.ref a), some (.int (nI i))] [] m Q := by
  have h3 := h.2.2.1
  refine gX5_get_0 hc (c_has hc h hcap (fun j _ _ _ => ?_) (fun z => by rw [idx_nI (by omega) hi] at z; cases z))
  refine gX5_get_5 hc (fun _ => ?_) (fun z => absurd z (by decide)) (fun _ => ?_)
  · rw [h.1]; exact ni_in (by omega) (by omega)
  · rw [ni_cl (by omega), sheet_get h hi]; exact K
end HELP
