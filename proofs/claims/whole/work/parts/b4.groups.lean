/-! groups of attributes, and the whole message: the class -/
theorem z_C.ldL {S : z_S} {M : Nat → z_M} {C : Nat → Nat → Option z_I} {mi pc p' : Nat} {I : z_I} {L L' : z_L} {st st' : List z_V} {w w' : z_W} {x y : Int64} {Q : z_W → Option z_V → Prop} (hC : C mi pc = some I) (hs : z_step S M I pc L st w = some (.inl (p', L', .inr (.inl x) :: st', w'))) (hx : x = y) (k : z_C S M C mi (p', L', .inr (.inl y) :: st', w') Q) : z_C S M C mi (pc, L, st, w) Q := by
  subst hx
  exact z_C.go1 hC hs k
def dup (D : Nat → Nat) (G : List Nat) (p : Nat) : Prop := ∃ q ∈ G, aName D q = aName D p
/-- the attributes of a group from p on, behind G: what is read, and where it ends; nothing if one of them is not as it must be -/
def grpR (D : Nat → Nat) (len : Nat) : Nat → Nat → List Nat → Option (List Nat × Nat) → Prop
  | 0, p, G, o => o = some (G, p)
  | f + 1, p, G, o => ((p < len ∧ isTg (D p)) ∧ (aGood D len p ∧ ¬ dup D G p) ∧ grpR D len f (sE D p) (G ++ [p]) o) ∨ ((p < len ∧ isTg (D p)) ∧ ¬ (aGood D len p ∧ ¬ dup D G p) ∧ o = none) ∨ (¬ (p < len ∧ isTg (D p)) ∧ o = some (G, p))
theorem grpR_ex (D : Nat → Nat) (len : Nat) : ∀ f p G, ∃ o, grpR D len f p G o := by
  intro f
  induction f with
  | zero => intro p G; exact ⟨_, rfl⟩
  | succ f ih =>
    intro p G
    by_cases h1 : p < len ∧ isTg (D p)
    · by_cases h2 : aGood D len p ∧ ¬ dup D G p
      · obtain ⟨o, ho⟩ := ih (sE D p) (G ++ [p])
        exact ⟨o, Or.inl ⟨h1, h2, ho⟩⟩
      · exact ⟨none, Or.inr (Or.inl ⟨h1, h2, rfl⟩)⟩
    · exact ⟨some (G, p), Or.inr (Or.inr ⟨h1, rfl⟩)⟩
theorem sE_ge {D : Nat → Nat} {len p : Nat} (h : aGood D len p) : p + 7 ≤ sE D p := by
  obtain ⟨-, h2, -, -, h5, -⟩ := h
  have : 1 ≤ sZ D p := by rcases h5 with h | h | h <;> omega
  unfold sE sV
  omega
def cA (D : Nat → Nat) (L : List Nat) (w : z_W) : Prop := w.1 3 0 4 = iN L.length ∧ ∀ i p, L[i]? = some p → w.1 4 0 i = iN (D p) ∧ w.2.1 5 0 i = iL (aName D p) ∧ w.2.1 6 0 i = aVal D p
theorem get_snocN {l : List Nat} {x y q : Nat} (h : (l ++ [x])[q]? = some y) : (q < l.length ∧ l[q]? = some y) ∨ (q = l.length ∧ y = x) := by
  rw [List.getElem?_append] at h
  split at h
  · exact Or.inl ⟨‹_›, h⟩
  · rename_i h1
    have h2 : q - l.length < [x].length := by
      rcases Nat.lt_or_ge (q - l.length) [x].length with h9 | h9
      · exact h9
      · rw [List.getElem?_eq_none h9] at h
        cases h
    have h3 : q = l.length := by
      have : [x].length = 1 := rfl
      omega
    subst h3
    rw [Nat.sub_self] at h
    exact Or.inr ⟨rfl, (Option.some.inj h).symm⟩
theorem cA.snoc {D : Nat → Nat} {L : List Nat} {p : Nat} {w w' : z_W} (h : cA D L w) (hf : atF D L.length p w w') : cA D (L ++ [p]) w' := by
  obtain ⟨h1, h2⟩ := h
  obtain ⟨f1, f2, f3, f4, f5, f6, f7, f8⟩ := hf
  refine ⟨?_, fun i q hq => ?_⟩
  · rw [f4, List.length_append]
    rfl
  · rcases get_snocN hq with ⟨g1, g2⟩ | ⟨g1, g2⟩
    · obtain ⟨a1, a2, a3⟩ := h2 i q g2
      exact ⟨(f1 4 0 i (by omega) (by omega) (by omega)).trans a1, (f8 5 0 i (by omega) (by omega)).trans a2, (f8 6 0 i (by omega) (by omega)).trans a3⟩
    · subst g1
      subst g2
      exact ⟨f3, f6, f7⟩
/-- what reading changes -/
def mF (w w' : z_W) : Prop := w'.2.2 = w.2.2 ∧ (∀ g i k, ¬ (g = 1 ∧ i = 0 ∧ k = 2) → ¬ g = 4 → ¬ (g = 3 ∧ i = 0 ∧ k = 4) → w'.1 g i k = w.1 g i k)
theorem mF.rf (w : z_W) : mF w w := ⟨rfl, fun _ _ _ _ _ _ => rfl⟩
theorem mF.tr {w w' w'' : z_W} (h1 : mF w w') (h2 : mF w' w'') : mF w w'' := ⟨h2.1.trans h1.1, fun g i k a b c => (h2.2 g i k a b c).trans (h1.2 g i k a b c)⟩
theorem mF.cu {w w' : z_W} (h : cuF w w') : mF w w' := ⟨by rw [h.1], fun g i k a _ _ => h.2 g i k a⟩
theorem mF.at {D : Nat → Nat} {m p : Nat} {w w' : z_W} (h : atF D m p w w') : mF w w' := ⟨h.2.2.2.2.1, fun g i k a b c => h.1 g i k a (fun h => b h.1) c⟩
theorem cD.mF {len : Nat} {D : Nat → Nat} {w w' : z_W} (h : cD len D w) (hf : mF w w') : cD len D w' :=
  ⟨h.1, (hf.2 1 0 1 (by omega) (by omega) (by omega)).trans h.2.1, fun k hk => ⟨(hf.2 2 0 k (by omega) (by omega) (by omega)).trans (h.2.2 k hk).1, (h.2.2 k hk).2⟩⟩
theorem aName_63 {D : Nat → Nat} {len p : Nat} (h : aGood D len p) : aName D p < 9223372036854775808 := numF_63 h.2.1.2 h.2.2.1.2
theorem e_twice_loop {D : Nat → Nat} {len p m : Nat} {L : List Nat} {s : Int32} {w : z_W} {Q : z_W → Option z_V → Prop} (ha : cA D (L ++ [p]) w) (hL : L.length < 34) (hg : ∀ q ∈ L, aGood D len q) (hgp : aGood D len p) (h1 : dup D (L.drop m) p → Q w (some (zI 1))) (h0 : ¬ dup D (L.drop m) p → Q w (some (zI 0))) : ∀ (d i : Nat), i + d = L.length → m ≤ i → (∀ j q, m ≤ j → j < i → L[j]? = some q → ¬ aName D q = aName D p) →
    z_C sC zM zCr kM_isLastNameTwice (9, [some (zR 3 0), some (zI s), some (zI (iN L.length)), some (zI (iN i))], [], w) Q := by
  intro d
  induction d with
  | zero =>
    intro i hi hm hno
    refine z_C.go 3 rfl ?_
    refine z_C.if (fun _ => ?_) (fun h => absurd ((iN_le (by omega) (by omega)).mpr (by omega)) h)
    refine z_C.go 1 rfl ?_
    refine z_C.ret rfl rfl (h0 (fun h => ?_))
    obtain ⟨q, q1, q2⟩ := h
    obtain ⟨j, hj, e⟩ := List.mem_iff_getElem.mp q1
    rw [List.getElem_drop] at e
    rw [List.length_drop] at hj
    exact hno (m + j) q (by omega) (by omega) (by rw [List.getElem?_eq_getElem (by omega), e]) q2
  | succ d ih =>
    intro i hi hm hno
    have hiL : i < L.length := by omega
    have ei : (L ++ [p])[i]? = some (L[i]'hiL) := by rw [List.getElem?_append_left hiL, List.getElem?_eq_getElem hiL]
    have el : (L ++ [p])[L.length]? = some p := by rw [List.getElem?_append_right (Nat.le_refl _), Nat.sub_self]; rfl
    have i1 : z_in (iN i) 34 = true := iN_in (by omega) (by omega)
    have i2 : z_in (iN L.length) 34 = true := iN_in (by omega) (by omega)
    have n1 : w.2.1 5 0 (iN i).toNatClampNeg = iL (aName D (L[i]'hiL)) := by rw [iN_nat (by omega)]; exact (ha.2 i _ ei).2.1
    have n2 : w.2.1 5 0 (iN L.length).toNatClampNeg = iL (aName D p) := by rw [iN_nat (by omega)]; exact (ha.2 _ _ el).2.1
    have hgi := hg _ (List.getElem_mem hiL)
    refine z_C.go 3 rfl ?_
    refine z_C.if (fun h => absurd ((iN_le (by omega) (by omega)).mp h) (by omega)) (fun _ => ?_)
    refine z_C.go 3 rfl ?_
    refine z_C.ldL rfl (if_pos ⟨rfl, i1⟩) n1 ?_
    refine z_C.go 3 rfl ?_
    refine z_C.ldL rfl (if_pos ⟨rfl, i2⟩) n2 ?_
    refine z_C.go 2 rfl ?_
    refine z_C.if (fun h => ?_) (fun h => ?_)
    · have h : lg_cmp (iL (aName D (L[i]'hiL))) (iL (aName D p)) = 0 := h
      rw [lg_eq, iL_inj (aName_63 hgi) (aName_63 hgp)] at h
      refine z_C.go 1 rfl ?_
      refine z_C.ret rfl rfl (h1 ⟨L[i]'hiL, ?_, h⟩)
      refine List.mem_iff_getElem.mpr ⟨i - m, by rw [List.length_drop]; omega, ?_⟩
      rw [List.getElem_drop]
      congr 1
      omega
    · have h : ¬ lg_cmp (iL (aName D (L[i]'hiL))) (iL (aName D p)) = 0 := h
      rw [lg_eq, iL_inj (aName_63 hgi) (aName_63 hgp)] at h
      refine z_C.go 2 rfl ?_
      have k9 := ih (i + 1) (by omega) (by omega) (fun j q a b c => by
        by_cases e : j = i
        · subst e
          rw [List.getElem?_eq_getElem hiL] at c
          cases c
          exact h
        · exact hno j q a (by omega) c)
      rw [← iN_add i 1] at k9
      exact k9
theorem e_twice {D : Nat → Nat} {len p m : Nat} {L : List Nat} {w : z_W} {Q : z_W → Option z_V → Prop} (ha : cA D (L ++ [p]) w) (hL : L.length < 34) (hm : m ≤ L.length) (hg : ∀ q ∈ L, aGood D len q) (hgp : aGood D len p) (h1 : dup D (L.drop m) p → Q w (some (zI 1))) (h0 : ¬ dup D (L.drop m) p → Q w (some (zI 0))) :
    z_C sC zM zCr kM_isLastNameTwice (0, [some (zR 3 0), some (zI (iN m)), none, none], [], w) Q := by
  have h4 : w.1 3 0 4 = iN (L.length + 1) := by rw [ha.1, List.length_append]; rfl
  refine z_C.go 1 rfl ?_
  refine z_C.ld rfl rfl h4 ?_
  refine z_C.go 5 rfl ?_
  have k9 := e_twice_loop (s := iN m) ha hL hg hgp h1 h0 (L.length - m) m (by omega) (Nat.le_refl _) (fun j q a b => by omega)
  rw [← iN_pred L.length] at k9
  exact k9
theorem k_isTag {t : Nat} {w : z_W} {Q : z_W → Option z_V → Prop} (ht : t < 1000) (h1 : isTg t → Q w (some (zI 1))) (h0 : ¬ isTg t → Q w (some (zI 0))) : z_C sC zM zCr kM_isTag (0, [some (zI (iN t))], [], w) Q := by
  refine z_C.go 3 rfl ?_
  refine z_C.if (fun h => ?_) (fun h => ?_)
  · refine z_C.go 2 rfl ?_
    exact z_C.ret rfl rfl (h1 (Or.inl ((iN_inj (b := 33) (by omega) (by decide)).mp h)))
  · have a1 : ¬ t = 33 := fun h9 => h ((iN_inj (b := 33) (by omega) (by decide)).mpr h9)
    refine z_C.go 3 rfl ?_
    refine z_C.if (fun h => ?_) (fun h => ?_)
    · refine z_C.go 2 rfl ?_
      exact z_C.ret rfl rfl (h1 (Or.inr (Or.inl ((iN_inj (b := 34) (by omega) (by decide)).mp h))))
    · have a2 : ¬ t = 34 := fun h9 => h ((iN_inj (b := 34) (by omega) (by decide)).mpr h9)
      refine z_C.go 3 rfl ?_
      refine z_C.if (fun h => ?_) (fun h => ?_)
      · refine z_C.go 2 rfl ?_
        exact z_C.ret rfl rfl (h1 (Or.inr (Or.inr ((iN_inj (b := 68) (by omega) (by decide)).mp h))))
      · have a3 : ¬ t = 68 := fun h9 => h ((iN_inj (b := 68) (by omega) (by decide)).mpr h9)
        refine z_C.go 1 rfl ?_
        exact z_C.ret rfl rfl (h0 (fun h9 => by rcases h9 with h9 | h9 | h9 <;> omega))
theorem k_isTagN {w : z_W} {Q : z_W → Option z_V → Prop} (h0 : Q w (some (zI 0))) : z_C sC zM zCr kM_isTag (0, [some (zI (-1))], [], w) Q := by
  refine z_C.go 3 rfl ?_
  refine z_C.if (fun h => absurd h (by decide)) (fun _ => ?_)
  refine z_C.go 3 rfl ?_
  refine z_C.if (fun h => absurd h (by decide)) (fun _ => ?_)
  refine z_C.go 3 rfl ?_
  refine z_C.if (fun h => absurd h (by decide)) (fun _ => ?_)
  refine z_C.go 1 rfl ?_
  exact z_C.ret rfl rfl h0
theorem e_grp_loop {D : Nat → Nat} {len : Nat} {pre : List Nat} {o : Option (List Nat × Nat)} {W0 : z_W} {Q : z_W → Option z_V → Prop} (h1 : ∀ G p, o = some (G, p) → ∀ w', mF W0 w' → cA D (pre ++ G) w' → w'.1 1 0 2 = iN p → (∀ q ∈ pre ++ G, aGood D len q) → p ≤ len → 9 + 7 * (pre ++ G).length ≤ p → Q w' (some (zI 1))) (h0 : o = none → ∀ w', mF W0 w' → Q w' (some (zI 0))) : ∀ (f p : Nat) (G : List Nat) (w : z_W), f ≤ 34 → grpR D len f p G o → mF W0 w → cD len D w → cA D (pre ++ G) w → w.1 1 0 2 = iN p → p ≤ len → (∀ q ∈ pre ++ G, aGood D len q) → 9 + 7 * (pre ++ G).length ≤ p →
    cRun kM_readGroup (7, [some (zR 3 0), some (zI (iN pre.length)), some (zI (iN (34 - f)))], [], w) Q := by
  intro f
  induction f with
  | zero =>
    intro p G w hf34 hr hF hd ha hp hpl hg h7
    refine z_C.go 3 rfl ?_
    refine z_C.if (fun _ => ?_) (fun h => absurd (by decide) h)
    refine z_C.go 1 rfl ?_
    exact z_C.ret rfl rfl (h1 G p hr w hF ha hp hg hpl h7)
  | succ f ih =>
    intro p G w hf34 hr hF hd ha hp hpl hg h7
    have hlen := hd.1
    refine z_C.go 3 rfl ?_
    refine z_C.if (fun h => absurd ((iN_le (a := 34) (by decide) (by omega)).mp h) (by omega)) (fun _ => ?_)
    refine z_C.go 4 rfl ?_
    refine z_C.ld rfl rfl hp ?_
    have hcap : (w.1 1 0 1).toInt ≤ (sCl 2 0 : Int) := by rw [hd.2.1]; exact iN_cap hlen (by decide)
    by_cases hpp : p < len
    · have hDp := hd.2.2 p hpp
      have hat : atR (w.1 2 0) (w.1 1 0 1) (iN p) = iN (D p) := by
        unfold atR
        rw [hd.2.1, if_pos ⟨Int32.not_lt.mp (idx_ng (by omega)), (iN_lt (by omega) (by omega)).mpr hpp⟩, iN_nat (by omega)]
        exact hDp.1
      refine z_C.call rfl rfl (e_at (b := 0) (k := iN p) (Q := fun w' r => w' = w ∧ r = some (zI (iN (D p)))) hcap ⟨rfl, by rw [hat]⟩) (fun w' r h => ?_)
      obtain ⟨rfl, rfl⟩ := h
      by_cases ht : isTg (D p)
      · refine z_C.call rfl rfl (zC_up (C' := zC) (k_isTag (t := D p) (Q := fun w2 r => w2 = w' ∧ r = some (zI 1)) (by omega) (fun _ => ⟨rfl, rfl⟩) (fun h => absurd ht h))) (fun w2 r h => ?_)
        obtain ⟨rfl, rfl⟩ := h
        have hm34 : (pre ++ G).length < 34 := by omega
        refine z_C.go 1 rfl ?_
        refine z_C.if (fun h => absurd h (by decide)) (fun _ => ?_)
        refine z_C.go 1 rfl ?_
        by_cases hG : aGood D len p
        · refine z_C.call rfl rfl (e_attr (m := (pre ++ G).length) (Q := fun w3 r => atF D (pre ++ G).length p w2 w3 ∧ r = some (zI 1)) hd hp hpp ht ha.1 hm34 (fun _ w3 a => ⟨a, rfl⟩) (fun h => absurd hG h)) (fun w3 r h => ?_)
          obtain ⟨f3, rfl⟩ := h
          have ha3 := ha.snoc f3
          refine z_C.go 1 rfl ?_
          refine z_C.if (fun h => absurd h (by decide)) (fun _ => ?_)
          refine z_C.go 2 rfl ?_
          have ed : (pre ++ G).drop pre.length = G := List.drop_left
          by_cases hdp : dup D G p
          · refine z_C.call rfl rfl (zC_up (C' := zC) (e_twice (m := pre.length) (len := len) (Q := fun w4 r => w4 = w3 ∧ r = some (zI 1)) ha3 hm34 (by rw [List.length_append]; omega) hg hG (fun _ => ⟨rfl, rfl⟩) (fun h => absurd (by rw [ed]; exact hdp) h))) (fun w4 r h => ?_)
            obtain ⟨rfl, rfl⟩ := h
            refine z_C.go 1 rfl ?_
            refine z_C.if (fun h => absurd h (by decide)) (fun _ => ?_)
            refine z_C.go 1 rfl ?_
            refine z_C.ret rfl rfl (h0 ?_ w4 (hF.tr (mF.at f3)))
            rcases hr with ⟨-, h9, -⟩ | ⟨-, -, h9⟩ | ⟨h9, -⟩
            · exact absurd hdp h9.2
            · exact h9
            · exact absurd ⟨hpp, ht⟩ h9
          · refine z_C.call rfl rfl (zC_up (C' := zC) (e_twice (m := pre.length) (len := len) (Q := fun w4 r => w4 = w3 ∧ r = some (zI 0)) ha3 hm34 (by rw [List.length_append]; omega) hg hG (fun h => absurd (by rw [ed] at h; exact h) hdp) (fun _ => ⟨rfl, rfl⟩))) (fun w4 r h => ?_)
            obtain ⟨rfl, rfl⟩ := h
            refine z_C.go 1 rfl ?_
            refine z_C.if (fun _ => ?_) (fun h => absurd (by decide) h)
            refine z_C.go 2 rfl ?_
            have hr2 : grpR D len f (sE D p) (G ++ [p]) o := by
              rcases hr with ⟨-, -, h9⟩ | ⟨-, h9, -⟩ | ⟨h9, -⟩
              · exact h9
              · exact absurd ⟨hG, hdp⟩ h9
              · exact absurd ⟨hpp, ht⟩ h9
            have eas : pre ++ (G ++ [p]) = pre ++ G ++ [p] := (List.append_assoc ..).symm
            have hse := sE_ge hG
            have k9 := ih (sE D p) (G ++ [p]) w4 (by omega) hr2 (hF.tr (mF.at f3)) (hd.mF (mF.at f3)) (by rw [eas]; exact ha3) f3.2.1 hG.2.2.2.2.2.1 (by
              rw [eas]
              intro q hq
              rcases List.mem_append.mp hq with hq | hq
              · exact hg q hq
              · cases List.mem_singleton.mp hq
                exact hG) (by rw [eas, List.length_append]; show 9 + 7 * ((pre ++ G).length + 1) ≤ _; omega)
            rw [show 34 - f = 34 - (f + 1) + 1 by omega, ← iN_add _ 1] at k9
            exact k9
        · refine z_C.call rfl rfl (e_attr (m := (pre ++ G).length) (Q := fun w3 r => cuF w2 w3 ∧ r = some (zI 0)) hd hp hpp ht ha.1 hm34 (fun h => absurd h hG) (fun _ w3 a => ⟨a, rfl⟩)) (fun w3 r h => ?_)
          obtain ⟨f3, rfl⟩ := h
          refine z_C.go 1 rfl ?_
          refine z_C.if (fun _ => ?_) (fun h => absurd (by decide) h)
          refine z_C.go 1 rfl ?_
          refine z_C.ret rfl rfl (h0 ?_ w3 (hF.tr (mF.cu f3)))
          rcases hr with ⟨-, h9, -⟩ | ⟨-, -, h9⟩ | ⟨h9, -⟩
          · exact absurd h9.1 hG
          · exact h9
          · exact absurd ⟨hpp, ht⟩ h9
      · refine z_C.call rfl rfl (zC_up (C' := zC) (k_isTag (t := D p) (Q := fun w2 r => w2 = w' ∧ r = some (zI 0)) (by omega) (fun h => absurd h ht) (fun _ => ⟨rfl, rfl⟩))) (fun w2 r h => ?_)
        obtain ⟨rfl, rfl⟩ := h
        refine z_C.go 1 rfl ?_
        refine z_C.if (fun _ => ?_) (fun h => absurd (by decide) h)
        refine z_C.go 1 rfl ?_
        refine z_C.ret rfl rfl (h1 G p ?_ w2 hF ha hp hg hpl h7)
        rcases hr with ⟨h9, -⟩ | ⟨h9, -⟩ | ⟨-, h9⟩
        · exact absurd h9.2 ht
        · exact absurd h9.2 ht
        · exact h9
    · have hat : atR (w.1 2 0) (w.1 1 0 1) (iN p) = -1 := by
        unfold atR
        rw [hd.2.1, if_neg (fun h => hpp ((iN_lt (by omega) (by omega)).mp h.2))]
      refine z_C.call rfl rfl (e_at (b := 0) (k := iN p) (Q := fun w' r => w' = w ∧ r = some (zI (-1))) hcap ⟨rfl, by rw [hat]⟩) (fun w' r h => ?_)
      obtain ⟨rfl, rfl⟩ := h
      refine z_C.call rfl rfl (zC_up (C' := zC) (k_isTagN (Q := fun w2 r => w2 = w' ∧ r = some (zI 0)) ⟨rfl, rfl⟩)) (fun w2 r h => ?_)
      obtain ⟨rfl, rfl⟩ := h
      refine z_C.go 1 rfl ?_
      refine z_C.if (fun _ => ?_) (fun h => absurd (by decide) h)
      refine z_C.go 1 rfl ?_
      refine z_C.ret rfl rfl (h1 G p ?_ w2 hF ha hp hg hpl h7)
      rcases hr with ⟨h9, -⟩ | ⟨h9, -⟩ | ⟨-, h9⟩
      · exact absurd h9.1 hpp
      · exact absurd h9.1 hpp
      · exact h9
theorem e_grp {D : Nat → Nat} {len p : Nat} {pre : List Nat} {o : Option (List Nat × Nat)} {w : z_W} {Q : z_W → Option z_V → Prop} (hr : grpR D len 34 p [] o) (hd : cD len D w) (ha : cA D pre w) (hp : w.1 1 0 2 = iN p) (hpl : p ≤ len) (hg : ∀ q ∈ pre, aGood D len q) (h7 : 9 + 7 * pre.length ≤ p)
    (h1 : ∀ G p, o = some (G, p) → ∀ w', mF w w' → cA D (pre ++ G) w' → w'.1 1 0 2 = iN p → (∀ q ∈ pre ++ G, aGood D len q) → p ≤ len → 9 + 7 * (pre ++ G).length ≤ p → Q w' (some (zI 1))) (h0 : o = none → ∀ w', mF w w' → Q w' (some (zI 0))) : cRun kM_readGroup (0, [some (zR 3 0), none, none], [], w) Q := by
  refine z_C.go 1 rfl ?_
  refine z_C.ld rfl rfl ha.1 ?_
  refine z_C.go 3 rfl ?_
  exact e_grp_loop (W0 := w) h1 h0 34 p [] w (by decide) hr (mF.rf w) hd (by rw [List.append_nil]; exact ha) hp hpl (by rw [List.append_nil]; exact hg) (by rw [List.append_nil]; exact h7)
