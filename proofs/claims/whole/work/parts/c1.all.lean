/-! the whole message: the reference -/
def jA (D : Nat → Nat) (q : Nat) : Prop := D q = 33 ∧ aName D q = numL lJob
def mJ1 (D : Nat → Nat) (G : List Nat) (v : z_W) : Prop := (v.1 0 0 16 = 0 ∧ ∀ q ∈ G, ¬ jA D q) ∨ (v.1 0 0 16 = 1 ∧ ∃ q ∈ G, jA D q ∧ v.1 0 0 17 = iN (aX D q))
def setL (D : Nat → Nat) : List Nat → Option (Nat → Nat) → Option (Nat → Nat)
  | [], o => o
  | q :: r, o => setL D r (o.bind (setS D q))
theorem setL_snoc (D : Nat → Nat) : ∀ (G : List Nat) (q : Nat) (o : Option (Nat → Nat)), setL D (G ++ [q]) o = (setL D G o).bind (setS D q) := by
  intro G
  induction G with
  | nil => intro q o; rfl
  | cons a G ih => intro q o; exact ih q _
def AttrSpec (D : Nat → Nat) (len : Nat) (s : Int32) (I : List Nat → z_W → Prop) : Prop := ∀ (G : List Nat) (p : Nat) (v : z_W) (Q : z_W → Option z_V → Prop), mD len D v → v.1 0 0 13 = 1 → v.1 0 0 14 = iN p → p ≤ len → mN G v → G.length < 60 → (∀ q ∈ G, nOK D len q) → I G v →
  (aGood D len p → ¬ dup D G p → ∀ v', qF v v' → v'.1 0 0 13 = 1 → v'.1 0 0 14 = iN (sE D p) → mN (G ++ [p]) v' → I (G ++ [p]) v' → Q v' none) → (¬ (aGood D len p ∧ ¬ dup D G p) → ∀ v', qF v v' → v'.1 0 0 13 = 0 → Q v' none) →
  mRun kX_attribute (0, [some (zR 0 0), some (zI s), none, none, none, none, none, none, none, none], [], v) Q
theorem attr1 {D : Nat → Nat} {len : Nat} {o : Option (Nat → Nat)} : AttrSpec D len 0 (fun G v => mJ1 D G v ∧ mSet o v ∧ v.1 0 0 15 = 0 ∧ v.1 2 0 258 = 0) := by
  intro G p v Q hd h13 h14 hpl hG hG60 hg ⟨hJ, hS, h15, h258⟩ K1 K0
  refine m_attrA hd h13 h14 hpl hG hG60 hg (fun hgd hnd v' hF g13 g14 hG' => ?_) (fun hno v' hF g => K0 hno v' hF.q g)
  have hp : p < len := by have := hgd.1; omega
  have hd' := hd.q hF.q
  have hDp := (hd.2.2 p hp).2
  have f : ∀ k, ¬ k = 13 → ¬ k = 14 → ¬ k = 21 → v'.1 0 0 k = v.1 0 0 k := fun k a b c => hF.2 0 0 k (by omega) (by omega)
  have f2 : ∀ k, v'.1 2 0 k = v.1 2 0 k := fun k => hF.2 2 0 k (by omega) (by omega)
  have hS' : ∀ x y, mSet o (z_si (z_si v' 0 0 16 x) 0 0 17 y) := fun x y => by
    obtain ⟨s1, s2, s3⟩ := hS
    refine ⟨(f 18 (by decide) (by decide) (by decide)).trans s1, ?_, fun S hS9 => ?_⟩
    · show v'.1 0 0 19 = 0 ∨ v'.1 0 0 19 = 1
      rw [f 19 (by decide) (by decide) (by decide)]
      exact s2
    · obtain ⟨t1, t2⟩ := s3 S hS9
      exact ⟨fun k hk => (f2 _).trans (t1 k hk), fun h9 => t2 ((f 19 (by decide) (by decide) (by decide)).symm.trans h9)⟩
  have qs : ∀ x y, qF v (z_si (z_si v' 0 0 16 x) 0 0 17 y) := fun x y => hF.q.tr ⟨rfl, fun g i k a _ _ _ => (if_neg (fun h => a ⟨h.1, by omega, by omega⟩)).trans (if_neg (fun h => a ⟨h.1, by omega, by omega⟩))⟩
  have fin : ∀ x y, mJ1 D (G ++ [p]) (z_si (z_si v' 0 0 16 x) 0 0 17 y) → Q (z_si (z_si v' 0 0 16 x) 0 0 17 y) none := fun x y hJ' => K1 hgd hnd _ (qs x y) g13 g14 (hG'.fr rfl (fun _ => rfl)) ⟨hJ', hS' x y, (f 15 (by decide) (by decide) (by decide)).trans h15, (f2 258).trans h258⟩
  -- what was found before: it stays
  have old : ¬ jA D p → mRun kX_attribute (283, [some (zR 0 0), some (zI 0), some (zI (iN (D p))), some (zI (iN (sN D p))), some (zI (iN (p + 3))), some (zI (iN (sZ D p))), some (zI (iN (sV D p))), some (zI 1), some (zI (aNum D p)), none], [], v') Q := fun hn => by
    have e16 := f 16 (by decide) (by decide) (by decide)
    have e17 := f 17 (by decide) (by decide) (by decide)
    rcases hJ with ⟨j1, j2⟩ | ⟨j1, q, j2, j3, j4⟩
    · refine z_C.go 4 rfl ?_
      refine z_C.ld rfl rfl (e16.trans j1) ?_
      refine z_C.go 1 rfl ?_
      refine z_C.if (fun _ => ?_) (fun h => absurd (by decide) h)
      refine z_C.go 2 rfl ?_
      refine z_C.if (fun _ => ?_) (fun h => absurd (by decide) h)
      refine z_C.go 5 rfl ?_
      refine z_C.if (fun _ => ?_) (fun h => absurd (by decide) h)
      refine z_C.go 4 rfl ?_
      refine z_C.ret rfl rfl (fin 0 (v'.1 0 0 17) (Or.inl ⟨rfl, fun q hq => ?_⟩))
      rcases List.mem_append.mp hq with hq | hq
      · exact j2 q hq
      · cases List.mem_singleton.mp hq
        exact hn
    · refine z_C.go 4 rfl ?_
      refine z_C.ld rfl rfl (e16.trans j1) ?_
      refine z_C.go 1 rfl ?_
      refine z_C.if (fun h => absurd h (by decide)) (fun _ => ?_)
      refine z_C.go 6 rfl ?_
      refine z_C.if (fun _ => ?_) (fun h => absurd (by decide) h)
      refine z_C.go 4 rfl ?_
      refine z_C.ret rfl rfl (fin 1 (v'.1 0 0 17) (Or.inr ⟨rfl, q, List.mem_append_left _ j2, j3, e17.trans j4⟩))
  refine z_C.go 2 rfl ?_
  refine z_C.if (fun _ => ?_) (fun h => absurd (by decide) h)
  refine z_C.go 3 rfl ?_
  refine z_C.if (fun h => ?_) (fun h => ?_)
  · have h33 : D p = 33 := (iN_inj (b := 33) (by omega) (by decide)).mp h
    refine z_C.go 5 rfl ?_
    by_cases hn : aName D p = numL lJob
    · refine z_C.call rfl rfl (m_spellL (word := 2538) (m := 3) (l := lJob) (Q := fun w' r => w' = v' ∧ r = some (zI 1)) (by decide +kernel) rfl hd' hgd.2.2.1.1 hgd.2.1.2 hgd.2.2.1.2 (fun _ => ⟨rfl, rfl⟩) (fun h => absurd hn h)) (fun w' r h => ?_)
      obtain ⟨rfl, rfl⟩ := h
      have ean : aNum D p = iN (aX D p) := aNum_n (by omega)
      have newJ : mJ1 D (G ++ [p]) (z_si (z_si w' 0 0 16 1) 0 0 17 (aNum D p)) := Or.inr ⟨rfl, p, List.mem_append_right _ (List.mem_singleton.mpr rfl), ⟨h33, hn⟩, ean⟩
      have e16 := f 16 (by decide) (by decide) (by decide)
      refine z_C.go 1 rfl ?_
      refine z_C.if (fun h => absurd h (by decide)) (fun _ => ?_)
      refine z_C.go 5 rfl ?_
      rcases hJ with ⟨j1, -⟩ | ⟨j1, -⟩
      · refine z_C.ld rfl rfl (e16.trans j1) ?_
        refine z_C.go 1 rfl ?_
        refine z_C.if (fun _ => ?_) (fun h => absurd (by decide) h)
        refine z_C.go 2 rfl ?_
        refine z_C.if (fun h => absurd h (by decide)) (fun _ => ?_)
        refine z_C.go 6 rfl ?_
        refine z_C.if (fun h => absurd h (by decide)) (fun _ => ?_)
        refine z_C.go 4 rfl ?_
        exact z_C.ret rfl rfl (fin 1 (aNum D p) newJ)
      · refine z_C.ld rfl rfl (e16.trans j1) ?_
        refine z_C.go 1 rfl ?_
        refine z_C.if (fun h => absurd h (by decide)) (fun _ => ?_)
        refine z_C.go 6 rfl ?_
        refine z_C.if (fun h => absurd h (by decide)) (fun _ => ?_)
        refine z_C.go 4 rfl ?_
        exact z_C.ret rfl rfl (fin 1 (aNum D p) newJ)
    · refine z_C.call rfl rfl (m_spellL (word := 2538) (m := 3) (l := lJob) (Q := fun w' r => w' = v' ∧ r = some (zI 0)) (by decide +kernel) rfl hd' hgd.2.2.1.1 hgd.2.1.2 hgd.2.2.1.2 (fun h => absurd h hn) (fun _ => ⟨rfl, rfl⟩)) (fun w' r h => ?_)
      obtain ⟨rfl, rfl⟩ := h
      refine z_C.go 1 rfl ?_
      refine z_C.if (fun _ => ?_) (fun h => absurd (by decide) h)
      exact old (fun h9 => hn h9.2)
  · have h33 : ¬ D p = 33 := fun h9 => h ((iN_inj (b := 33) (by omega) (by decide)).mpr h9)
    exact old (fun h9 => h33 h9.1)
theorem attr2 {D : Nat → Nat} {len : Nat} {G1 : List Nat} {o : Option (Nat → Nat)} : AttrSpec D len 1 (fun G v => mJ1 D G1 v ∧ mSet (setL D G o) v ∧ v.1 0 0 15 = 1 ∧ v.1 2 0 258 = 0) := by
  intro G p v Q hd h13 h14 hpl hG hG60 hg ⟨hJ, hS, h15, h258⟩ K1 K0
  refine m_attrA hd h13 h14 hpl hG hG60 hg (fun hgd hnd v' hF g13 g14 hG' => ?_) (fun hno v' hF g => K0 hno v' hF.q g)
  have hp : p < len := by have := hgd.1; omega
  have hd' := hd.q hF.q
  have f : ∀ k, ¬ k = 13 → ¬ k = 14 → ¬ k = 21 → v'.1 0 0 k = v.1 0 0 k := fun k a b c => hF.2 0 0 k (by omega) (by omega)
  have f2 : ∀ k, v'.1 2 0 k = v.1 2 0 k := fun k => hF.2 2 0 k (by omega) (by omega)
  have hS' : mSet (setL D G o) v' := by
    obtain ⟨s1, s2, s3⟩ := hS
    refine ⟨(f 18 (by decide) (by decide) (by decide)).trans s1, ?_, fun S hS9 => ?_⟩
    · rw [f 19 (by decide) (by decide) (by decide)]
      exact s2
    · obtain ⟨t1, t2⟩ := s3 S hS9
      exact ⟨fun k hk => (f2 _).trans (t1 k hk), fun h9 => t2 ((f 19 (by decide) (by decide) (by decide)).symm.trans h9)⟩
  refine z_C.go 2 rfl ?_
  refine z_C.if (fun h => absurd h (by decide)) (fun _ => ?_)
  refine z_C.go 7 rfl ?_
  refine z_C.call rfl rfl (m_told (q := p) (o := setL D G o) (Q := fun v2 r => r = none ∧ tF v' v2 ∧ mSet ((setL D G o).bind (setS D p)) v2) hd' hgd hp hS' (fun v2 a b => ⟨rfl, a, b⟩)) (fun v2 r h => ?_)
  obtain ⟨rfl, fT, hS2⟩ := h
  have t : ∀ k, ¬ k = 18 → ¬ k = 19 → v2.1 0 0 k = v'.1 0 0 k := fun k a b => fT.2 0 0 k (by omega) (by omega)
  refine z_C.ret rfl rfl (K1 hgd hnd v2 (hF.q.tr fT.q) ((t 13 (by decide) (by decide)).trans g13) ((t 14 (by decide) (by decide)).trans g14) (hG'.fr (t 21 (by decide) (by decide)) (fun k => fT.2 4 0 k (by omega) (by omega))) ⟨?_, by rw [setL_snoc]; exact hS2, ((t 15 (by decide) (by decide)).trans (f 15 (by decide) (by decide) (by decide))).trans h15, ((fT.2 2 0 258 (by omega) (by omega)).trans (f2 258)).trans h258⟩)
  have e16 := (t 16 (by decide) (by decide)).trans (f 16 (by decide) (by decide) (by decide))
  have e17 := (t 17 (by decide) (by decide)).trans (f 17 (by decide) (by decide) (by decide))
  rcases hJ with ⟨j1, j2⟩ | ⟨j1, q, j2, j3, j4⟩
  · exact Or.inl ⟨e16.trans j1, j2⟩
  · exact Or.inr ⟨e16.trans j1, q, j2, j3, e17.trans j4⟩
/-- a group -/
theorem m_grp_loop {D : Nat → Nat} {len : Nat} {s : Int32} {I : List Nat → z_W → Prop} {o : Option (List Nat × Nat)} {V0 : z_W} {Q : z_W → Option z_V → Prop} (hA : AttrSpec D len s I)
    (K1 : ∀ G p, o = some (G, p) → p < len → (D p = 2 ∨ D p = 3) → ∀ v', qF V0 v' → v'.1 0 0 13 = 1 → v'.1 0 0 14 = iN p → I G v' → Q v' none) (K0 : (∀ G p, o = some (G, p) → ¬ (p < len ∧ (D p = 2 ∨ D p = 3))) → ∀ v', qF V0 v' → v'.1 0 0 13 = 0 → Q v' none) :
    ∀ (f p : Nat) (G : List Nat) (v : z_W), f + G.length = 34 → grpR D len f p G o → qF V0 v → mD len D v → v.1 0 0 13 = 1 → v.1 0 0 14 = iN p → p ≤ len → mN G v → (∀ q ∈ G, nOK D len q) → I G v → 9 + 7 * G.length ≤ p →
    mRun kX_group (5, [some (zR 0 0), some (zI s)], [], v) Q := by
  have dead : ∀ v : z_W, (∀ G p, o = some (G, p) → ¬ (p < len ∧ (D p = 2 ∨ D p = 3))) → qF V0 v → v.1 0 0 13 = 0 → mRun kX_group (5, [some (zR 0 0), some (zI s)], [], v) Q := fun v ho hq h13 => by
    refine z_C.go 1 rfl ?_
    refine z_C.ld rfl rfl h13 ?_
    refine z_C.go 1 rfl ?_
    refine z_C.if (fun _ => ?_) (fun h => absurd (by decide) h)
    exact z_C.ret rfl rfl (K0 ho v hq h13)
  intro f
  induction f with
  | zero =>
    intro p G v hf hr hq hd h13 h14 hpl hG hg hI h7
    have := hd.1
    omega
  | succ f ih =>
    intro p G v hf hr hq hd h13 h14 hpl hG hg hI h7
    have hlen := hd.1
    have hG60 : G.length < 60 := by omega
    -- an attribute is tried
    have try1 : ¬ (p < len ∧ (D p = 2 ∨ D p = 3)) → mRun kX_group (28, [some (zR 0 0), some (zI s)], [], v) Q := fun hn => by
      refine z_C.go 1 rfl ?_
      refine z_C.ld rfl rfl hG.1 ?_
      refine z_C.go 2 rfl ?_
      refine z_C.if (fun h => absurd ((iN_le (a := 60) (by decide) (by omega)).mp h) (by omega)) (fun _ => ?_)
      refine z_C.go 2 rfl ?_
      by_cases hok : aGood D len p ∧ ¬ dup D G p
      · have htg : p < len ∧ isTg (D p) := ⟨by have := hok.1.1; omega, by rcases hok.1.2.2.2.2.1 with h | h | h; exact Or.inl h.1; exact Or.inr (Or.inl h.1); exact Or.inr (Or.inr h.1)⟩
        have hr2 : grpR D len f (sE D p) (G ++ [p]) o := by
          rcases hr with ⟨-, -, h9⟩ | ⟨-, h9, -⟩ | ⟨h9, -⟩
          · exact h9
          · exact absurd hok h9
          · exact absurd htg h9
        refine z_C.call rfl rfl (hA G p v (fun v' r => r = none ∧ qF v v' ∧ v'.1 0 0 13 = 1 ∧ v'.1 0 0 14 = iN (sE D p) ∧ mN (G ++ [p]) v' ∧ I (G ++ [p]) v') hd h13 h14 hpl hG hG60 hg hI (fun _ _ v' a b c d e => ⟨rfl, a, b, c, d, e⟩) (fun h => absurd hok h)) (fun v' r h => ?_)
        obtain ⟨rfl, q1, q2, q3, q4, q5⟩ := h
        refine z_C.go 1 rfl ?_
        have hse := sE_ge hok.1
        exact ih (sE D p) (G ++ [p]) v' (by rw [List.length_append]; show f + (G.length + 1) = 34; omega) hr2 (hq.tr q1) (hd.q q1) q2 q3 hok.1.2.2.2.2.2.1 q4 (fun q hq => by
          rcases List.mem_append.mp hq with hq | hq
          · exact hg q hq
          · cases List.mem_singleton.mp hq
            exact hok.1.n) q5 (by rw [List.length_append]; show 9 + 7 * (G.length + 1) ≤ _; omega)
      · refine z_C.call rfl rfl (hA G p v (fun v' r => r = none ∧ qF v v' ∧ v'.1 0 0 13 = 0) hd h13 h14 hpl hG hG60 hg hI (fun a b => absurd ⟨a, b⟩ hok) (fun _ v' a b => ⟨rfl, a, b⟩)) (fun v' r h => ?_)
        obtain ⟨rfl, q1, q2⟩ := h
        refine z_C.go 1 rfl ?_
        refine dead v' (fun G' p' ho => ?_) (hq.tr q1) q2
        rcases hr with ⟨-, h9, -⟩ | ⟨-, -, h9⟩ | ⟨-, h9⟩
        · exact absurd h9 hok
        · rw [h9] at ho
          cases ho
        · rw [h9] at ho
          cases ho
          exact hn
    refine z_C.go 1 rfl ?_
    refine z_C.ld rfl rfl h13 ?_
    refine z_C.go 1 rfl ?_
    refine z_C.if (fun h => absurd h (by decide)) (fun _ => ?_)
    refine z_C.go 1 rfl ?_
    by_cases hp : p < len
    · have hDp := (hd.2.2 p hp).2
      have end1 : D p = 2 ∨ D p = 3 → Q v none := fun h23 => by
        refine K1 G p ?_ hp h23 v hq h13 h14 hI
        rcases hr with ⟨⟨-, h9⟩, -⟩ | ⟨⟨-, h9⟩, -⟩ | ⟨-, h9⟩
        · rcases h9 with h9 | h9 | h9 <;> omega
        · rcases h9 with h9 | h9 | h9 <;> omega
        · exact h9
      refine z_C.call rfl rfl (m_peek (Q := fun v' r => v' = v ∧ r = some (zI (iN (D p)))) hd h14 (by omega) (fun _ => ⟨rfl, rfl⟩) (fun h => absurd hp h)) (fun v' r h => ?_)
      obtain ⟨rfl, rfl⟩ := h
      refine z_C.go 2 rfl ?_
      refine z_C.if (fun h => ?_) (fun h2 => ?_)
      · exact z_C.ret rfl rfl (end1 (Or.inl ((iN_inj (b := 2) (by omega) (by decide)).mp h)))
      · have h2 : ¬ D p = 2 := fun h9 => h2 ((iN_inj (b := 2) (by omega) (by decide)).mpr h9)
        refine z_C.go 1 rfl ?_
        refine z_C.call rfl rfl (m_peek (Q := fun v2 r => v2 = v' ∧ r = some (zI (iN (D p)))) hd h14 (by omega) (fun _ => ⟨rfl, rfl⟩) (fun h => absurd hp h)) (fun v2 r h => ?_)
        obtain ⟨rfl, rfl⟩ := h
        refine z_C.go 2 rfl ?_
        refine z_C.if (fun h => ?_) (fun h3 => ?_)
        · exact z_C.ret rfl rfl (end1 (Or.inr ((iN_inj (b := 3) (by omega) (by decide)).mp h)))
        · have h3 : ¬ D p = 3 := fun h9 => h3 ((iN_inj (b := 3) (by omega) (by decide)).mpr h9)
          exact try1 (fun h9 => by rcases h9.2 with h9 | h9 <;> omega)
    · refine z_C.call rfl rfl (m_peek (Q := fun v' r => v' = v ∧ r = some (zI (-1))) hd h14 (by omega) (fun h => absurd h hp) (fun _ => ⟨rfl, rfl⟩)) (fun v' r h => ?_)
      obtain ⟨rfl, rfl⟩ := h
      refine z_C.go 2 rfl ?_
      refine z_C.if (fun h => absurd h (by decide)) (fun _ => ?_)
      refine z_C.go 1 rfl ?_
      refine z_C.call rfl rfl (m_peek (Q := fun v2 r => v2 = v' ∧ r = some (zI (-1))) hd h14 (by omega) (fun h => absurd h hp) (fun _ => ⟨rfl, rfl⟩)) (fun v2 r h => ?_)
      obtain ⟨rfl, rfl⟩ := h
      refine z_C.go 2 rfl ?_
      refine z_C.if (fun h => absurd h (by decide)) (fun _ => ?_)
      exact try1 (fun h9 => hp h9.1)
theorem m_grp {D : Nat → Nat} {len p : Nat} {s : Int32} {I : List Nat → z_W → Prop} {o : Option (List Nat × Nat)} {v : z_W} {Q : z_W → Option z_V → Prop} (hA : AttrSpec D len s I) (hI0 : ∀ x, I [] (z_si v 0 0 21 x)) (hr : grpR D len 34 p [] o) (hd : mD len D v) (h13 : v.1 0 0 13 = 1) (h14 : v.1 0 0 14 = iN p) (hpl : p ≤ len) (h9 : 9 ≤ p)
    (K1 : ∀ G p, o = some (G, p) → p < len → (D p = 2 ∨ D p = 3) → ∀ v', qF v v' → v'.1 0 0 13 = 1 → v'.1 0 0 14 = iN p → I G v' → Q v' none) (K0 : (∀ G p, o = some (G, p) → ¬ (p < len ∧ (D p = 2 ∨ D p = 3))) → ∀ v', qF v v' → v'.1 0 0 13 = 0 → Q v' none) :
    mRun kX_group (0, [some (zR 0 0), some (zI s)], [], v) Q := by
  have q1 : qF v (z_si v 0 0 21 0) := (aF.si (Or.inr (Or.inr rfl))).q
  refine z_C.go 3 rfl ?_
  exact m_grp_loop (V0 := v) hA K1 K0 34 p [] _ rfl hr q1 (hd.q q1) h13 h14 hpl ⟨rfl, fun i q h => by cases h⟩ (fun q hq => by cases hq) (hI0 0) (by show 9 + 7 * 0 ≤ p; omega)
theorem m_grp0 {s : Int32} {v : z_W} {Q : z_W → Option z_V → Prop} (h13 : v.1 0 0 13 = 0) (hq : Q (z_si v 0 0 21 0) none) : mRun kX_group (0, [some (zR 0 0), some (zI s)], [], v) Q := by
  refine z_C.go 3 rfl ?_
  refine z_C.go 1 rfl ?_
  refine z_C.ld rfl rfl (show (z_si v 0 0 21 0).1 0 0 13 = 0 from h13) ?_
  refine z_C.go 1 rfl ?_
  refine z_C.if (fun _ => ?_) (fun h => absurd (by decide) h)
  exact z_C.ret rfl rfl hq
