/-! the abstract state: rows, texts, hills, what was pitched, deeds, kept deeds, what was told, findings -/
abbrev Sg : Type := (Nat → Option (List Int32)) × (Nat → Option (List Int32)) × Ld × List Int32 × List Nat × (Nat → Option (List Nat)) × (Int32 × Int64 × Int64) × (Int32 × List Int32)
abbrev sR (S : Sg) : Nat → Option (List Int32) := S.1
abbrev sT (S : Sg) : Nat → Option (List Int32) := S.2.1
abbrev sL (S : Sg) : Ld := S.2.2.1
abbrev sP (S : Sg) : List Int32 := S.2.2.2.1
abbrev sD (S : Sg) : List Nat := S.2.2.2.2.1
abbrev sK (S : Sg) : Nat → Option (List Nat) := S.2.2.2.2.2.1
abbrev sTel (S : Sg) : Int32 × Int64 × Int64 := S.2.2.2.2.2.2.1
abbrev sFnd (S : Sg) : Int32 × List Int32 := S.2.2.2.2.2.2.2
abbrev sS (S : Sg) : Cs := replay (sL S) (sP S) (sD S)
def upo {α : Type} (f : Nat → α) (k : Nat) (v : α) : Nat → α := fun j => if j = k then v else f j
def setR (S : Sg) (r : Nat) (o : Option (List Int32)) : Sg := (upo S.1 r o, S.2)
def setT (S : Sg) (t : Nat) (o : Option (List Int32)) : Sg := (S.1, upo S.2.1 t o, S.2.2)
def setD (S : Sg) (ds : List Nat) : Sg := (S.1, S.2.1, S.2.2.1, S.2.2.2.1, ds, S.2.2.2.2.2)
def setK (S : Sg) (k : Nat) (o : Option (List Nat)) : Sg := (S.1, S.2.1, S.2.2.1, S.2.2.2.1, S.2.2.2.2.1, upo S.2.2.2.2.2.1 k o, S.2.2.2.2.2.2)
def tell (S : Sg) (x : Int32) : Sg := (S.1, S.2.1, S.2.2.1, S.2.2.2.1, S.2.2.2.2.1, S.2.2.2.2.2.1, (x, S.2.2.2.2.2.2.1.2), S.2.2.2.2.2.2.2)
def tellP (S : Sg) (u l : Int64) : Sg := (S.1, S.2.1, S.2.2.1, S.2.2.2.1, S.2.2.2.2.1, S.2.2.2.2.2.1, (S.2.2.2.2.2.2.1.1, u, l), S.2.2.2.2.2.2.2)
def find (S : Sg) (f : Nat) : Sg := (S.1, S.2.1, S.2.2.1, S.2.2.2.1, S.2.2.2.2.1, S.2.2.2.2.2.1, S.2.2.2.2.2.2.1, (nI f, S.2.2.2.2.2.2.2.2.set f (S.2.2.2.2.2.2.2.2.getD f 0 + 1)))
/-- what holds of every abstract state -/
def sOk (S : Sg) : Prop := (∀ x ∈ sD S, okDeed (sL S) x) ∧ (∀ k ds, sK S k = some ds → ∀ x ∈ ds, okDeed (sL S) x) ∧ ((sL S).1 = 0 → sD S = [] ∧ ∀ k, sK S k = none)
/-! the class -/
def sheetM (o : Option (List Int32)) (cap a : Nat) (m : pmMem) : Prop := (m.2.1 (a + 1)).length = cap ∧ match o with
  | none => m.1 a 1 = -1
  | some l => m.1 a 1 = nI l.length ∧ l.length ≤ cap ∧ (m.2.1 (a + 1)).take l.length = l
def rowsC (R : Nat → Option (List Int32)) (m : pmMem) : Prop := ∀ r, r < 6 → sheetM (R r) 40 (33 + 2 * r) m
def textsC (T : Nat → Option (List Int32)) (m : pmMem) : Prop := ∀ t, t < 4 → sheetM (T t) 60 (45 + 2 * t) m
def keptC (L : Ld) (p : List Int32) (K : Nat → Option (List Nat)) (m : pmMem) : Prop := (m.2.1 25).length = 3 ∧ ∀ k, k < 3 → campLen (53 + 4 * k) m ∧ match K k with
  | none => (m.2.1 25).getD k 0 = 0
  | some ds => (m.2.1 25).getD k 0 = 1 ∧ campF p ds (replay L p ds) (53 + 4 * k) m
def scrC (m : pmMem) : Prop := (m.2.1 4).length = 12 ∧ (m.2.1 5).length = 6 ∧ (m.2.1 6).length = 6 ∧ (m.2.1 7).length = 6 ∧ campLen 20 m ∧ (m.2.1 27).length = 6 ∧ (m.2.1 28).length = 6 ∧ (m.2.1 29).length = 6 ∧ (m.2.1 30).length = 6 ∧ (m.2.1 31).length = 6
def telC (t : Int32 × Int64 × Int64) (m : pmMem) : Prop := m.1 0 11 = t.1 ∧ m.2.2 0 12 = t.2.1 ∧ m.2.2 0 13 = t.2.2
def fndC (f : Int32 × List Int32) (m : pmMem) : Prop := m.1 0 10 = f.1 ∧ m.2.1 32 = f.2 ∧ f.2.length = 6
def RC (S : Sg) (m : pmMem) : Prop := rowsC (sR S) m ∧ textsC (sT S) m ∧ landM (sL S) m ∧ campF (sP S) (sD S) (sS S) 16 m ∧ keptC (sL S) (sP S) (sK S) m ∧ scrC m ∧ telC (sTel S) m ∧ fndC (sFnd S) m ∧ sOk S
theorem sheetM_ag {o : Option (List Int32)} {cap a : Nat} {D : Nat → Prop} {m m' : pmMem} (h : sheetM o cap a m) (ha : ag D m m') (h0 : ¬ D a) (h1 : ¬ D (a + 1)) : sheetM o cap a m' := by
  unfold sheetM at h ⊢
  rw [(ha a h0).1, (ha (a + 1) h1).2.1]
  exact h
theorem rowsC_ag {R : Nat → Option (List Int32)} {D : Nat → Prop} {m m' : pmMem} (h : rowsC R m) (ha : ag D m m') (hD : ∀ c, 33 ≤ c → c < 45 → ¬ D c) : rowsC R m' :=
  fun r hr => sheetM_ag (h r hr) ha (hD _ (by omega) (by omega)) (hD _ (by omega) (by omega))
theorem textsC_ag {R : Nat → Option (List Int32)} {D : Nat → Prop} {m m' : pmMem} (h : textsC R m) (ha : ag D m m') (hD : ∀ c, 45 ≤ c → c < 53 → ¬ D c) : textsC R m' :=
  fun r hr => sheetM_ag (h r hr) ha (hD _ (by omega) (by omega)) (hD _ (by omega) (by omega))
theorem campLen_ag {a : Nat} {D : Nat → Prop} {m m' : pmMem} (h : campLen a m) (ha : ag D m m') (hD : ∀ c, inC a c → ¬ D c) : campLen a m' := by
  unfold campLen at h ⊢
  rw [(ha (a + 1) (hD _ ⟨by omega, by omega⟩)).2.1, (ha (a + 2) (hD _ ⟨by omega, by omega⟩)).2.1, (ha (a + 3) (hD _ ⟨by omega, by omega⟩)).2.1]
  exact h
theorem keptC_ag {L : Ld} {p : List Int32} {K : Nat → Option (List Nat)} {D : Nat → Prop} {m m' : pmMem} (h : keptC L p K m) (ha : ag D m m') (h25 : ¬ D 25) (hD : ∀ c, 53 ≤ c → c < 65 → ¬ D c) : keptC L p K m' := by
  have e := (ha 25 h25).2.1
  refine ⟨by rw [e]; exact h.1, fun k hk => ⟨campLen_ag (h.2 k hk).1 ha (fun c z => hD c (by have := z.1; omega) (by have := z.2; omega)), ?_⟩⟩
  have hk2 := (h.2 k hk).2
  cases hK : K k with
  | none =>
    rw [hK] at hk2
    show (m'.2.1 25).getD k 0 = 0
    rw [e]; exact hk2
  | some ds =>
    rw [hK] at hk2
    refine ⟨by rw [e]; exact hk2.1, campF_ag hk2.2 ha (fun c z => hD c (by have := z.1; omega) (by have := z.2; omega))⟩
theorem scrC_ag {D : Nat → Prop} {m m' : pmMem} (h : scrC m) (ha : ag D m m') (h1 : ∀ c, 3 ≤ c → c < 8 → ¬ D c) (h2 : ∀ c, 20 ≤ c → c < 24 → ¬ D c) (h3 : ∀ c, 26 ≤ c → c < 32 → ¬ D c) : scrC m' := by
  obtain ⟨a1, a2, a3, a4, a5, a6, a7, a8, a9, a10⟩ := h
  refine ⟨?_, ?_, ?_, ?_, campLen_ag a5 ha (fun c z => h2 c (by have := z.1; omega) (by have := z.2; omega)), ?_, ?_, ?_, ?_, ?_⟩
  · rw [(ha 4 (h1 _ (by omega) (by omega))).2.1]; exact a1
  · rw [(ha 5 (h1 _ (by omega) (by omega))).2.1]; exact a2
  · rw [(ha 6 (h1 _ (by omega) (by omega))).2.1]; exact a3
  · rw [(ha 7 (h1 _ (by omega) (by omega))).2.1]; exact a4
  · rw [(ha 27 (h3 _ (by omega) (by omega))).2.1]; exact a6
  · rw [(ha 28 (h3 _ (by omega) (by omega))).2.1]; exact a7
  · rw [(ha 29 (h3 _ (by omega) (by omega))).2.1]; exact a8
  · rw [(ha 30 (h3 _ (by omega) (by omega))).2.1]; exact a9
  · rw [(ha 31 (h3 _ (by omega) (by omega))).2.1]; exact a10
theorem telC_ag {t : Int32 × Int64 × Int64} {D : Nat → Prop} {m m' : pmMem} (h : telC t m) (ha : ag D m m') (h0 : ¬ D 0) : telC t m' := by
  unfold telC at h ⊢
  rw [(ha 0 h0).1, (ha 0 h0).2.2]; exact h
theorem fndC_ag {t : Int32 × List Int32} {D : Nat → Prop} {m m' : pmMem} (h : fndC t m) (ha : ag D m m') (h0 : ¬ D 0) (h32 : ¬ D 32) : fndC t m' := by
  unfold fndC at h ⊢
  rw [(ha 0 h0).1, (ha 32 h32).2.1]; exact h
/-- a new state of the class: each part is new, or as it was -/
theorem RC_upd {S S' : Sg} {D : Nat → Prop} {m m' : pmMem} (h : RC S m) (ha : ag D m m')
    (q1 : (sR S' = sR S ∧ ∀ c, 33 ≤ c → c < 45 → ¬ D c) ∨ rowsC (sR S') m')
    (q2 : (sT S' = sT S ∧ ∀ c, 45 ≤ c → c < 53 → ¬ D c) ∨ textsC (sT S') m')
    (q3 : (sL S' = sL S ∧ ∀ c, 8 ≤ c → c < 16 → ¬ D c) ∨ landM (sL S') m')
    (q4 : (sL S' = sL S ∧ sP S' = sP S ∧ sD S' = sD S ∧ ∀ c, 16 ≤ c → c < 20 → ¬ D c) ∨ campF (sP S') (sD S') (sS S') 16 m')
    (q5 : (sL S' = sL S ∧ sP S' = sP S ∧ sK S' = sK S ∧ ¬ D 25 ∧ ∀ c, 53 ≤ c → c < 65 → ¬ D c) ∨ keptC (sL S') (sP S') (sK S') m')
    (q6 : (∀ c, (3 ≤ c ∧ c < 8) ∨ (20 ≤ c ∧ c < 24) ∨ (26 ≤ c ∧ c < 32) → ¬ D c) ∨ scrC m')
    (q7 : (sTel S' = sTel S ∧ ¬ D 0) ∨ telC (sTel S') m')
    (q8 : (sFnd S' = sFnd S ∧ ¬ D 0 ∧ ¬ D 32) ∨ fndC (sFnd S') m') (q9 : sOk S') : RC S' m' := by
  obtain ⟨h1, h2, h3, h4, h5, h6, h7, h8, h9⟩ := h
  refine ⟨?_, ?_, ?_, ?_, ?_, ?_, ?_, ?_, q9⟩
  · rcases q1 with ⟨e, z⟩ | z
    · rw [e]; exact rowsC_ag h1 ha z
    · exact z
  · rcases q2 with ⟨e, z⟩ | z
    · rw [e]; exact textsC_ag h2 ha z
    · exact z
  · rcases q3 with ⟨e, z⟩ | z
    · rw [e]; exact landM_ag h3 ha z
    · exact z
  · rcases q4 with ⟨e1, e2, e3, z⟩ | z
    · show campF (sP S') (sD S') (replay (sL S') (sP S') (sD S')) 16 m'
      rw [e1, e2, e3]; exact campF_ag h4 ha (fun c w => z c w.1 w.2)
    · exact z
  · rcases q5 with ⟨e1, e2, e3, z0, z⟩ | z
    · rw [e1, e2, e3]; exact keptC_ag h5 ha z0 z
    · exact z
  · rcases q6 with z | z
    · exact scrC_ag h6 ha (fun c a b => z c (Or.inl ⟨a, b⟩)) (fun c a b => z c (Or.inr (Or.inl ⟨a, b⟩))) (fun c a b => z c (Or.inr (Or.inr ⟨a, b⟩)))
    · exact z
  · rcases q7 with ⟨e, z⟩ | z
    · rw [e]; exact telC_ag h7 ha z
    · exact z
  · rcases q8 with ⟨e, z0, z⟩ | z
    · rw [e]; exact fndC_ag h8 ha z0 z
    · exact z
theorem RC_frame {S : Sg} {m m' : pmMem} (h : RC S m) (ha : ag (fun c => 65 ≤ c) m m') : RC S m' :=
  RC_upd h ha (Or.inl ⟨rfl, fun c _ _ z => by omega⟩) (Or.inl ⟨rfl, fun c _ _ z => by omega⟩) (Or.inl ⟨rfl, fun c _ _ z => by omega⟩) (Or.inl ⟨rfl, rfl, rfl, fun c _ _ z => by omega⟩) (Or.inl ⟨rfl, rfl, rfl, fun z => by omega, fun c _ _ z => by omega⟩) (Or.inl fun c _ z => by omega) (Or.inl ⟨rfl, fun z => by omega⟩) (Or.inl ⟨rfl, fun z => by omega, fun z => by omega⟩) h.2.2.2.2.2.2.2.2
/-! the reference -/
def gridM (o : Option (List Int32)) (cap r : Nat) (sz row : List Int32) : Prop := match o with
  | none => sz.getD r 0 = -1
  | some l => sz.getD r 0 = nI l.length ∧ l.length ≤ cap ∧ ∀ i, i < l.length → row.getD (cap * r + i) 0 = l.getD i 0
def rowsR (R : Nat → Option (List Int32)) (m : pmMem) : Prop := (m.2.1 66).length = 240 ∧ (m.2.1 67).length = 6 ∧ ∀ r, r < 6 → gridM (R r) 40 r (m.2.1 67) (m.2.1 66)
def textsR (T : Nat → Option (List Int32)) (m : pmMem) : Prop := (m.2.1 68).length = 240 ∧ (m.2.1 69).length = 4 ∧ ∀ t, t < 4 → gridM (T t) 60 t (m.2.1 69) (m.2.1 68)
def keptR (K : Nat → Option (List Nat)) (m : pmMem) : Prop := (m.2.1 75).length = 120 ∧ (m.2.1 76).length = 3 ∧ ∀ k, k < 3 → match K k with
  | none => (m.2.1 76).getD k 0 = -1
  | some ds => (m.2.1 76).getD k 0 = nI ds.length ∧ ds.length ≤ 40 ∧ ∀ i, i < ds.length → (m.2.1 75).getD (40 * k + i) 0 = nI (encR (ds.getD i 0))
def scrRR (m : pmMem) : Prop := (m.2.1 79).length = 12 ∧ (m.2.1 80).length = 12 ∧ (m.2.1 82).length = 18 ∧ (m.2.1 83).length = 12 ∧ (m.2.1 84).length = 6 ∧ (m.2.1 85).length = 12 ∧ (m.2.1 86).length = 12
def telR (t : Int32 × Int64 × Int64) (m : pmMem) : Prop := m.1 65 19 = t.1 ∧ m.2.2 65 20 = t.2.1 ∧ m.2.2 65 21 = t.2.2
def fndR (f : Int32 × List Int32) (m : pmMem) : Prop := m.1 65 22 = f.1 ∧ m.2.1 81 = f.2 ∧ f.2.length = 6
def RR (S : Sg) (m : pmMem) : Prop := rowsR (sR S) m ∧ textsR (sT S) m ∧ landR (sL S) m ∧ campR (sP S) (sD S) m ∧ nowR (sS S) m ∧ keptR (sK S) m ∧ scrRR m ∧ telR (sTel S) m ∧ fndR (sFnd S) m ∧ sOk S
/-- only these rows (D), int fields (E), long fields (G) of the reference have changed -/
def agR (D E G : Nat → Prop) (m m' : pmMem) : Prop := (∀ c, c < 65 → m'.1 c = m.1 c ∧ m'.2.2 c = m.2.2 c) ∧ (∀ c, ¬ D c → m'.2.1 c = m.2.1 c) ∧ (∀ k, ¬ E k → m'.1 65 k = m.1 65 k) ∧ ∀ k, ¬ G k → m'.2.2 65 k = m.2.2 65 k
theorem agR_refl (D E G : Nat → Prop) (m : pmMem) : agR D E G m m := ⟨fun _ _ => ⟨rfl, rfl⟩, fun _ _ => rfl, fun _ _ => rfl, fun _ _ => rfl⟩
theorem agR_trans {D E G : Nat → Prop} {m m1 m2 : pmMem} (h1 : agR D E G m m1) (h2 : agR D E G m1 m2) : agR D E G m m2 := ⟨fun c hc => ⟨(h2.1 c hc).1.trans (h1.1 c hc).1, (h2.1 c hc).2.trans (h1.1 c hc).2⟩, fun c hc => (h2.2.1 c hc).trans (h1.2.1 c hc), fun c hc => (h2.2.2.1 c hc).trans (h1.2.2.1 c hc), fun c hc => (h2.2.2.2 c hc).trans (h1.2.2.2 c hc)⟩
theorem agR_F {D E G : Nat → Prop} {m m1 : pmMem} {k : Nat} {v : Int32} (h : agR D E G m m1) (hk : E k) : agR D E G m (pm_setF m1 65 k v) := ⟨fun c hc => ⟨by
  show (if c = 65 then _ else m1.1 c) = _
  rw [if_neg (by omega)]; exact (h.1 c hc).1, (h.1 c hc).2⟩, h.2.1, fun k' hk' => by
  rw [pm_rF, if_neg (fun z : 65 = 65 ∧ k' = k => hk' (z.2 ▸ hk))]; exact h.2.2.1 k' hk', h.2.2.2⟩
theorem agR_A {D E G : Nat → Prop} {m m1 : pmMem} {c : Nat} {l : List Int32} (h : agR D E G m m1) (hc : D c) : agR D E G m (pm_setA m1 c l) := ⟨h.1, fun c' hc' => by
  rw [pm_rA, if_neg (fun z : c' = c => hc' (z ▸ hc))]; exact h.2.1 c' hc', h.2.2.1, h.2.2.2⟩
theorem agR_L {D E G : Nat → Prop} {m m1 : pmMem} {k : Nat} {v : Int64} (h : agR D E G m m1) (hk : G k) : agR D E G m (pm_setL m1 65 k v) := ⟨fun c hc => ⟨(h.1 c hc).1, by
  show (if c = 65 then _ else m1.2.2 c) = _
  rw [if_neg (by omega)]; exact (h.1 c hc).2⟩, h.2.1, h.2.2.1, fun k' hk' => by
  rw [pm_rL, if_neg (fun z : 65 = 65 ∧ k' = k => hk' (z.2 ▸ hk))]; exact h.2.2.2 k' hk'⟩
theorem agR_agA {D E G : Nat → Prop} {S : Nat → Prop} {m m1 m2 : pmMem} (h : agR D E G m m1) (h2 : agA S m1 m2) (hS : ∀ c, S c → D c) : agR D E G m m2 := ⟨fun c hc => ⟨by rw [h2.1]; exact (h.1 c hc).1, by rw [h2.2.1]; exact (h.1 c hc).2⟩, fun c hc => (h2.2.2 c (fun z => hc (hS c z))).trans (h.2.1 c hc), fun k hk => by rw [h2.1]; exact h.2.2.1 k hk, fun k hk => by rw [h2.2.1]; exact h.2.2.2 k hk⟩
theorem agR_mono {D E G D' E' G' : Nat → Prop} {m m' : pmMem} (h : agR D E G m m') (h1 : ∀ c, D c → D' c) (h2 : ∀ c, E c → E' c) (h3 : ∀ c, G c → G' c) : agR D' E' G' m m' := ⟨h.1, fun c hc => h.2.1 c (fun z => hc (h1 c z)), fun c hc => h.2.2.1 c (fun z => hc (h2 c z)), fun c hc => h.2.2.2 c (fun z => hc (h3 c z))⟩
theorem agR_ag {D E G : Nat → Prop} {m m' : pmMem} (h : agR D E G m m') (hD : ∀ c, D c → 65 ≤ c) : ag (fun c => 65 ≤ c) m m' := fun c hc => by
  have hc : ¬ 65 ≤ c := hc
  exact ⟨(h.1 c (by omega)).1, h.2.1 c (fun z => hc (hD c z)), (h.1 c (by omega)).2⟩
theorem RR_upd {S S' : Sg} {D E G : Nat → Prop} {m m' : pmMem} (h : RR S m) (ha : agR D E G m m')
    (q1 : (sR S' = sR S ∧ ¬ D 66 ∧ ¬ D 67) ∨ rowsR (sR S') m')
    (q2 : (sT S' = sT S ∧ ¬ D 68 ∧ ¬ D 69) ∨ textsR (sT S') m')
    (q3 : (sL S' = sL S ∧ ¬ E 4 ∧ ¬ D 70 ∧ ¬ D 71 ∧ ¬ D 72) ∨ landR (sL S') m')
    (q4 : (sP S' = sP S ∧ sD S' = sD S ∧ ¬ D 73 ∧ ¬ D 74 ∧ ¬ E 10) ∨ campR (sP S') (sD S') m')
    (q5 : (sL S' = sL S ∧ sP S' = sP S ∧ sD S' = sD S ∧ ¬ D 77 ∧ ¬ D 78 ∧ ¬ E 15 ∧ ¬ E 16) ∨ nowR (sS S') m')
    (q6 : (sK S' = sK S ∧ ¬ D 75 ∧ ¬ D 76) ∨ keptR (sK S') m')
    (q7 : (∀ c, c = 79 ∨ c = 80 ∨ c = 82 ∨ c = 83 ∨ c = 84 ∨ c = 85 ∨ c = 86 → ¬ D c) ∨ scrRR m')
    (q8 : (sTel S' = sTel S ∧ ¬ E 19 ∧ ¬ G 20 ∧ ¬ G 21) ∨ telR (sTel S') m')
    (q9 : (sFnd S' = sFnd S ∧ ¬ E 22 ∧ ¬ D 81) ∨ fndR (sFnd S') m') (q10 : sOk S') : RR S' m' := by
  obtain ⟨h1, h2, h3, h4, h5, h6, h7, h8, h9, h10⟩ := h
  obtain ⟨-, hA, hE, hG⟩ := ha
  refine ⟨?_, ?_, ?_, ?_, ?_, ?_, ?_, ?_, ?_, q10⟩
  · rcases q1 with ⟨e, z1, z2⟩ | z
    · rw [e]; unfold rowsR; rw [hA 66 z1, hA 67 z2]; exact h1
    · exact z
  · rcases q2 with ⟨e, z1, z2⟩ | z
    · rw [e]; unfold textsR; rw [hA 68 z1, hA 69 z2]; exact h2
    · exact z
  · rcases q3 with ⟨e, z1, z2, z3, z4⟩ | z
    · rw [e]; unfold landR; rw [hE 4 z1, hA 70 z2, hA 71 z3, hA 72 z4]; exact h3
    · exact z
  · rcases q4 with ⟨e1, e2, z1, z2, z3⟩ | z
    · rw [e1, e2]; unfold campR; rw [hA 73 z1, hA 74 z2, hE 10 z3]; exact h4
    · exact z
  · rcases q5 with ⟨e1, e2, e3, z1, z2, z3, z4⟩ | z
    · show nowR (replay (sL S') (sP S') (sD S')) m'
      rw [e1, e2, e3]; unfold nowR; rw [hA 77 z1, hA 78 z2, hE 15 z3, hE 16 z4]; exact h5
    · exact z
  · rcases q6 with ⟨e, z1, z2⟩ | z
    · rw [e]; unfold keptR; rw [hA 75 z1, hA 76 z2]; exact h6
    · exact z
  · rcases q7 with z | z
    · unfold scrRR
      rw [hA 79 (z _ (by omega)), hA 80 (z _ (by omega)), hA 82 (z _ (by omega)), hA 83 (z _ (by omega)), hA 84 (z _ (by omega)), hA 85 (z _ (by omega)), hA 86 (z _ (by omega))]
      exact h7
    · exact z
  · rcases q8 with ⟨e, z1, z2, z3⟩ | z
    · rw [e]; unfold telR; rw [hE 19 z1, hG 20 z2, hG 21 z3]; exact h8
    · exact z
  · rcases q9 with ⟨e, z1, z2⟩ | z
    · rw [e]; unfold fndR; rw [hE 22 z1, hA 81 z2]; exact h9
    · exact z
theorem RR_frame {S : Sg} {m m' : pmMem} (h : RR S m) (ha : ag (fun c => c < 65) m m') : RR S m' := by
  have hh : ∀ c, 65 ≤ c → m'.1 c = m.1 c ∧ m'.2.1 c = m.2.1 c ∧ m'.2.2 c = m.2.2 c := fun c hc => ha c (by omega)
  obtain ⟨h1, h2, h3, h4, h5, h6, h7, h8, h9, h10⟩ := h
  refine ⟨?_, ?_, ?_, ?_, ?_, ?_, ?_, ?_, ?_, h10⟩
  · unfold rowsR; rw [(hh 66 (by omega)).2.1, (hh 67 (by omega)).2.1]; exact h1
  · unfold textsR; rw [(hh 68 (by omega)).2.1, (hh 69 (by omega)).2.1]; exact h2
  · unfold landR; rw [(hh 65 (by omega)).1, (hh 70 (by omega)).2.1, (hh 71 (by omega)).2.1, (hh 72 (by omega)).2.1]; exact h3
  · unfold campR; rw [(hh 65 (by omega)).1, (hh 73 (by omega)).2.1, (hh 74 (by omega)).2.1]; exact h4
  · unfold nowR; rw [(hh 65 (by omega)).1, (hh 77 (by omega)).2.1, (hh 78 (by omega)).2.1]; exact h5
  · unfold keptR; rw [(hh 75 (by omega)).2.1, (hh 76 (by omega)).2.1]; exact h6
  · unfold scrRR; rw [(hh 79 (by omega)).2.1, (hh 80 (by omega)).2.1, (hh 82 (by omega)).2.1, (hh 83 (by omega)).2.1, (hh 84 (by omega)).2.1, (hh 85 (by omega)).2.1, (hh 86 (by omega)).2.1]; exact h7
  · unfold telR; rw [(hh 65 (by omega)).1, (hh 65 (by omega)).2.2]; exact h8
  · unfold fndR; rw [(hh 65 (by omega)).1, (hh 81 (by omega)).2.1]; exact h9
/-- an answer and the next state, on either side -/
def okC (o : Int32 × Sg) (m : pmMem) (Q : Option Value → pmMem → Prop) : Prop := ∀ m', RC o.2 m' → ag (fun c => c < 65) m m' → Q (some (.int o.1)) m'
def okR (o : Int32 × Sg) (m : pmMem) (Q : Option Value → pmMem → Prop) : Prop := ∀ m', RR o.2 m' → ag (fun c => 65 ≤ c) m m' → Q (some (.int o.1)) m'
/-- the number of a place, if it is one below n -/
def idx (n : Nat) (x : Int32) : Option Nat := if 0 ≤ x.toInt ∧ x.toInt < n then some x.toInt.toNat else none
theorem idx_some {n : Nat} {x : Int32} (hn : n < 2147483648) (h1 : 0 ≤ x.toInt) (h2 : x.toInt < n) : ∃ r, idx n x = some r ∧ r < n ∧ x = nI r := by
  refine ⟨x.toInt.toNat, if_pos ⟨h1, h2⟩, by omega, ?_⟩
  apply Int32.toInt_inj.mp
  rw [nI_toInt (by omega)]
  omega
theorem idx_none {n : Nat} {x : Int32} (h : ¬ (0 ≤ x.toInt ∧ x.toInt < n)) : idx n x = none := if_neg h
theorem idx_nI {n r : Nat} (hn : n < 2147483648) (h : r < n) : idx n (nI r) = some r := by
  unfold idx
  rw [nI_toInt (by omega)]
  rw [if_pos ⟨by omega, by omega⟩]
  simp
