def shS (a c : Nat) : Prop := c = a ∨ c = a + 1
/-- what is wrong with a place of a sheet: 0 nothing, 1 no sheet, 2 no such place -/
def placeF (o : Option (List Int32)) (x : Int32) : Nat := match o with
  | none => 1
  | some l => match idx l.length x with
    | none => 2
    | some _ => 0
abbrev fitR (l : List Int32) (i n : Int32) : Prop := 0 ≤ i.toInt ∧ 0 ≤ n.toInt ∧ i.toInt + n.toInt ≤ (l.length : Int)
section SHEET
variable {d : Nat} {m : pmMem} {Q : Option Value → pmMem → Prop} {S : Sg} {l : List Int32} {cap a : Nat}
theorem c_set {i : Nat} {v : Int32} (hc : pm_kd a = 5) (h : sheetM (some l) cap a m) (hcap : cap < 1000) (hi : i < l.length) (K : ∀ m', sheetM (some (l.set i v)) cap a m' → m'.1 = m.1 → m'.2.2 = m.2.2 → ag (shS a) m m' → Q none m') : pm_G (d + 1) mX5_set 0 [some (.ref a), some (.int (nI i)), some (.int v)] [] m Q := by
  have h3 := h.2.2.1
  refine gX5_set_0 hc (c_has hc h hcap (fun j _ _ _ => ?_) (fun z => by rw [idx_nI (by omega) hi] at z; cases z))
  refine gX5_set_5 hc (fun _ => ?_) (fun z => absurd z (by decide)) (fun _ m1 e1 => ?_)
  · rw [h.1]; exact ni_in (by omega) (by omega)
  · rw [ni_cl (by omega)] at e1
    refine K m1 ⟨?_, ?_, ?_, ?_⟩ (by rw [e1]; rfl) (by rw [e1]; rfl) (by rw [e1]; exact ag_A (ag_refl _ _) (Or.inr rfl))
    · rw [e1, pm_rA, if_pos rfl, List.length_set]; exact h.1
    · rw [e1, List.length_set]; exact h.2.1
    · rw [List.length_set]; exact h3
    · rw [e1, pm_rA, if_pos rfl, List.length_set, List.take_set, h.2.2.2]
theorem c_drop {o : Option (List Int32)} (hc : pm_kd a = 5) (h : sheetM o cap a m) (K : ∀ m', sheetM none cap a m' → ag (shS a) m m' → Q none m') : pm_G d mX5_drop 0 [some (.ref a)] [] m Q := by
  refine gX5_drop_0 hc (fun m1 e1 => K m1 ⟨?_, ?_⟩ ?_)
  · rw [e1]; exact h.1
  · rw [e1, pm_rF, if_pos ⟨rfl, rfl⟩]
  · rw [e1]; exact ag_F (ag_refl _ _) (Or.inl rfl)
theorem c_open {o : Option (List Int32)} {n : Nat} {v : Int32} {l3 : Option Value} (hc : pm_kd a = 5) (h : sheetM o cap a m) (hcap : cap < 1000) (hn : n ≤ cap) (K : ∀ m', sheetM (some (List.replicate n v)) cap a m' → ag (shS a) m m' → Q none m') : pm_G (d + 1) mX5_open 0 [some (.ref a), some (.int (nI n)), some (.int v), l3] [] m Q := by
  refine gX5_open_0 hc (fun m1 e1 => ?_)
  have hl := h.1
  have e0 : (if 0 < (if (Int32.ofNat (m.2.1 (a + 1)).length) < nI n then (Int32.ofNat (m.2.1 (a + 1)).length) else nI n) then (if (Int32.ofNat (m.2.1 (a + 1)).length) < nI n then (Int32.ofNat (m.2.1 (a + 1)).length) else nI n) else 0) = nI n := by
    have x1 : ¬ (Int32.ofNat (m.2.1 (a + 1)).length) < nI n := by
      rw [hl]
      intro z
      have := (ni_lt (a := cap) (by omega) (by omega)).mp z
      omega
    rw [if_neg x1]
    by_cases z : (0 : Int32) < nI n
    · rw [if_pos z]
    · rw [if_neg z]
      have z2 : ¬ 0 < n := fun y => z ((ni_lt (a := 0) (by omega) (by omega)).mpr y)
      rw [show n = 0 by omega]; rfl
  rw [e0] at e1
  have loop : ∀ (k i : Nat) (m2 : pmMem), i + k = n → (m2.2.1 (a + 1)).length = cap → (m2.2.1 (a + 1)).take i = List.replicate i v → m2.1 a 1 = nI n → ag (shS a) m m2 → pm_G (d + 1) mX5_open 19 [some (.ref a), some (.int (nI n)), some (.int v), some (.int (nI i))] [] m2 Q := by
    intro k
    induction k with
    | zero =>
      intro i m2 hi g1 g2 g3 g4
      have hin : i = n := by omega
      subst hin
      have le : m2.1 a 1 ≤ nI i := by rw [g3]; exact Int32.le_refl _
      refine gX5_open_19 hc (fun z => absurd le z) (fun _ => K m2 ⟨g1, ?_, ?_, ?_⟩ g4) (fun z => absurd le z)
      · rw [g3, List.length_replicate]
      · rw [List.length_replicate]; exact hn
      · rw [List.length_replicate]; exact g2
    | succ k ih =>
      intro i m2 hi g1 g2 g3 g4
      have n1 : ¬ m2.1 a 1 ≤ nI i := by
        rw [g3]; intro z
        have := (ni_le (by omega) (by omega)).mp z
        omega
      refine gX5_open_19 hc (fun _ => ?_) (fun z => absurd z n1) (fun _ m3 e3 => ?_)
      · rw [g1]; exact ni_in (by omega) (by omega)
      · rw [ni_cl (by omega)] at e3
        rw [nI_1]
        refine ih (i + 1) m3 (by omega) ?_ ?_ ?_ ?_
        · rw [e3, pm_rA, if_pos rfl, List.length_set]; exact g1
        · rw [e3, pm_rA, if_pos rfl, List.take_add_one, List.take_set_of_le (by omega), g2, List.getElem?_set_self (by rw [g1]; omega)]
          rw [List.replicate_succ']; rfl
        · rw [e3]; exact g3
        · rw [e3]; exact ag_A g4 (Or.inr rfl)
  refine loop n 0 m1 (by omega) ?_ (by simp) ?_ ?_
  · rw [e1]; exact hl
  · rw [e1, pm_rF, if_pos ⟨rfl, rfl⟩]
  · rw [e1]; exact ag_F (ag_refl _ _) (Or.inl rfl)
theorem c_placeFault {o : Option (List Int32)} {x : Int32} (hc : pm_kd a = 5) (h : sheetM o cap a m) (hcap : cap < 1000) (K : Q (some (.int (nI (placeF o x)))) m) : pm_G (d + 1) mX6_placeFault 0 [some (.ref a), some (.int x)] [] m Q := by
  refine gX6_placeFault_0 hc (c_isMissing hc h hcap (fun ho => ?_) (fun l ho => ?_))
  · subst ho
    exact gX6_placeFault_4 hc (fun z => absurd z (by decide)) (fun _ => K)
  · subst ho
    refine gX6_placeFault_4 hc (fun _ => c_has hc h hcap (fun i hi _ _ => ?_) (fun hn => ?_)) (fun z => absurd rfl z)
    · unfold placeF at K
      simp only [hi] at K
      exact gX6_placeFault_14 (fun z => absurd z (by decide)) (fun _ => K)
    · unfold placeF at K
      simp only [hn] at K
      exact gX6_placeFault_14 (fun _ => K) (fun z => absurd rfl z)
theorem c_hasRun {i n : Int32} (hc : pm_kd a = 5) (h : sheetM (some l) cap a m) (hcap : cap < 1000) (kt : fitR l i n → Q (some (.int 1)) m) (kf : ¬ fitR l i n → Q (some (.int 0)) m) : pm_G d mX5_hasRun 0 [some (.ref a), some (.int i), some (.int n)] [] m Q := by
  have h3 := h.2.2.1
  have lt : ∀ {x y : Int32}, x < y ↔ x.toInt < y.toInt := Int32.lt_iff_toInt_lt
  have e0 : (m.1 a 1).toInt = (l.length : Int) := by rw [h.2.1, nI_toInt (by omega)]
  have sub : ¬ i.toInt < 0 → ¬ (m.1 a 1).toInt < i.toInt → (m.1 a 1 - i).toInt = (l.length : Int) - i.toInt := by
    intro h1 h2
    rw [Int32.toInt_sub, e0]
    rw [e0] at h2
    exact Int.bmod_eq_of_le (by omega) (by omega)
  refine gX5_hasRun_0 hc ?_ ?_ ?_ ?_ ?_ <;> simp only [lt] <;> simp only [show (0 : Int32).toInt = 0 from rfl]
  · intro h1; exact kf (fun z => by have := z.1; omega)
  · intro h1 h2; exact kf (fun z => by have := z.2.1; omega)
  · intro h1 h2 h4; exact kf (fun z => by have := z.2.2; have := z.2.1; rw [e0] at h4; omega)
  · intro h1 h2 h4 h5; rw [sub h1 h4] at h5; exact kf (fun z => by have := z.2.2; omega)
  · intro h1 h2 h4 h5; rw [sub h1 h4] at h5; exact kt ⟨by omega, by omega, by omega⟩
/-- a stretch of a sheet into a sheet (perhaps itself) -/
theorem c_takeRun {l2 : List Int32} {a2 cap2 : Nat} {i j n : Int32} (hc : pm_kd a = 5) (hc2 : pm_kd a2 = 5) (h : sheetM (some l) cap a m) (h2 : sheetM (some l2) cap2 a2 m) (hcap : cap < 1000) (hcap2 : cap2 < 1000) (f1 : fitR l j n) (f2 : fitR l2 i n) (K : ∀ m', sheetM (some (pm_cpy l2 l i.toNatClampNeg j.toNatClampNeg n.toNatClampNeg)) cap a m' → ag (fun c => c = a + 1) m m' → Q none m') : pm_G (d + 1) mX5_takeRun 0 [some (.ref a), some (.int j), some (.ref a2), some (.int i), some (.int n)] [] m Q := by
  have h3 := h.2.2.1
  have h4 := h2.2.2.1
  have tn : ∀ x : Int32, x.toNatClampNeg = x.toInt.toNat := fun x => rfl
  obtain ⟨a1, a3, a4⟩ := id f1
  obtain ⟨b1, b3, b4⟩ := id f2
  have nn : ∀ x : Int32, 0 ≤ x.toInt → ¬ x < 0 := fun x hx z => by have := i32_neg.mp z; omega
  refine gX5_takeRun_0 hc (c_hasRun hc h hcap (fun _ => ?_) (fun z => absurd f1 z))
  refine gX5_takeRun_7 hc2 (fun z => absurd z (by decide)) (fun _ => c_hasRun hc2 h2 hcap2 (fun _ => ?_) (fun z => absurd f2 z))
  refine gX5_takeRun_17 hc2 hc (fun _ => nn _ b1) (fun _ => nn _ a1) (fun _ => nn _ a3) (fun _ => ?_) (fun _ => ?_) (fun z => absurd z (by decide)) (fun _ m1 e1 => ?_)
  · rw [h2.1, tn, tn]; omega
  · rw [h.1, tn, tn]; omega
  · have q1 : i.toNatClampNeg + n.toNatClampNeg ≤ l2.length := by rw [tn, tn]; omega
    have q2 : j.toNatClampNeg + n.toNatClampNeg ≤ l.length := by rw [tn, tn]; omega
    generalize i.toNatClampNeg = ii at K e1 q1
    generalize j.toNatClampNeg = jj at K e1 q2
    generalize n.toNatClampNeg = nn at K e1 q1 q2
    have hl1 := h.1
    have hl2 := h2.1
    have hlen := pm_cpy_len (f := l2) (g := l) q1 q2
    refine K m1 ⟨?_, ?_, ?_, ?_⟩ (by rw [e1]; exact ag_A (ag_refl _ _) rfl)
    · rw [e1, pm_rA, if_pos rfl, pm_cpy_len (by omega) (by omega)]; exact hl1
    · rw [e1, hlen]; exact h.2.1
    · rw [hlen]; exact h3
    · rw [e1, pm_rA, if_pos rfl, hlen]
      have t1 : (m.2.1 (a + 1)).take jj = l.take jj := by rw [← h.2.2.2, List.take_take, Nat.min_eq_left (by omega)]
      have t2 : ((m.2.1 (a2 + 1)).drop ii).take nn = (l2.drop ii).take nn := by
        rw [← h2.2.2.2, List.drop_take, List.take_take, Nat.min_eq_left (by omega)]
      have t3 : ((m.2.1 (a + 1)).drop (jj + nn)).take (l.length - (jj + nn)) = l.drop (jj + nn) := by
        rw [← List.drop_take, h.2.2.2]
      unfold pm_cpy
      have s1 : (l.take jj).length = jj := by rw [List.length_take]; omega
      have s2 : ((l2.drop ii).take nn).length = nn := by simp; omega
      have s3 : (l.take jj ++ (l2.drop ii).take nn).length = jj + nn := by rw [List.length_append, s1, s2]
      rw [t1, t2, List.take_append, List.take_of_length_le (show (l.take jj ++ (l2.drop ii).take nn).length ≤ l.length by omega), s3, t3]
/-- a sheet anew, out of a row of ints -/
theorem c_takeAnew {o : Option (List Int32)} {a1 n : Nat} {v : List Int32} (hc : pm_kd a = 5) (hc1 : pm_kd a1 = 8) (h : sheetM o cap a m) (hcap : cap < 1000) (hv : m.2.1 a1 = v) (hvn : n ≤ v.length) (hn : n ≤ cap) (hv2 : v.length < 1000) (hne : a1 ≠ a + 1) (K : ∀ m', sheetM (some (v.take n)) cap a m' → ag (shS a) m m' → Q none m') : pm_G (d + 2) mX5_takeAnew 0 [some (.ref a), some (.ref a1), some (.int (nI n))] [] m Q := by
  refine gX5_takeAnew_0 hc1 hc ?_
  have x1 : ¬ (Int32.ofNat (m.2.1 a1).length) < nI n := by
    rw [hv]; intro z
    have := (ni_lt (a := v.length) (by omega) (by omega)).mp z
    omega
  rw [if_neg x1]
  refine c_open hc h hcap hn ?_
  intro m1 g1 gag
  have hne2 : a1 ≠ a := fun z => by rw [z, hc] at hc1; cases hc1
  have ev : m1.2.1 a1 = v := by
    rw [(gag a1 (by unfold shS; omega)).2.1]; exact hv
  have f1 : m1.1 a 1 = nI n := by rw [g1.2.1, List.length_replicate]
  have cl : (m1.1 a 1).toNatClampNeg = n := by rw [f1]; exact ni_cl (by omega)
  refine gX5_takeAnew_11 hc hc1 ?_ ?_ ?_ (fun m2 e2 => ?_)
  · rw [f1]; exact nI_pos (by omega)
  · rw [cl, ev]; omega
  · rw [cl, g1.1]; omega
  · rw [cl, ev] at e2
    have hl := g1.1
    refine K m2 ⟨?_, ?_, ?_, ?_⟩ (by rw [e2]; exact ag_A gag (Or.inr rfl))
    · rw [e2, pm_rA, if_pos rfl, pm_cpy_len (by omega) (by omega)]; exact hl
    · rw [e2, List.length_take, Nat.min_eq_left hvn]; exact f1
    · rw [List.length_take]; omega
    · rw [e2, pm_rA, if_pos rfl, List.length_take, Nat.min_eq_left hvn]
      simp only [pm_cpy, List.take_zero, List.nil_append, List.drop_zero, Nat.zero_add]
      have s1 : (v.take n).length = n := by rw [List.length_take]; omega
      rw [List.take_append, s1, Nat.sub_self, List.take_zero, List.append_nil, List.take_of_length_le (by omega)]
def sum64 (l : List Int32) : Nat → Int64
  | 0 => 0
  | n + 1 => sum64 l n + Int32.toInt64 (l.getD n 0)
theorem c_total {l1 l2 l3 : Option Value} (hc : pm_kd a = 5) (h : sheetM (some l) cap a m) (hcap : cap < 1000) (K : Q (some (.long (sum64 l l.length))) m) : pm_G d mX5_total 0 [some (.ref a), l1, l2, l3] [] m Q := by
  have h3 := h.2.2.1
  have loop : ∀ (k i : Nat) (l2 : Option Value), i + k = l.length → pm_G d mX5_total 4 [some (.ref a), some (.long (sum64 l i)), l2, some (.int (nI i))] [] m Q := by
    intro k
    induction k with
    | zero =>
      intro i l2 hi
      have hin : i = l.length := by omega
      subst hin
      have le : m.1 a 1 ≤ nI l.length := by rw [h.2.1]; exact Int32.le_refl _
      exact gX5_total_4 hc (fun z => absurd le z) (fun _ => K) (fun z => absurd le z)
    | succ k ih =>
      intro i l2 hi
      have n1 : ¬ m.1 a 1 ≤ nI i := by
        rw [h.2.1]; intro z
        have := (ni_le (by omega) (by omega)).mp z
        omega
      refine gX5_total_4 hc (fun _ => ?_) (fun z => absurd z n1) (fun _ v1 ev => ?_)
      · rw [h.1]; exact ni_in (by omega) (by omega)
      · rw [ni_cl (by omega), sheet_get h (by omega)] at ev
        rw [nI_1, ev]
        exact ih (i + 1) none (by omega)
  exact gX5_total_0 (loop l.length 0 none (by omega))
end SHEET
