/-! settings: the sides, and all of them -/
section TOLD2
variable {len q : Nat} {D : Nat → Nat} {o : Option (Nat → Nat)} {v : z_W} {Q : z_W → Option z_V → Prop}
def sdO (x : Nat) : Option Nat := if x = numL lOne then some 0 else if x = numL lLon then some 1 else if x = numL lSho then some 2 else none
theorem words_ne : ¬ numL lOne = numL lLon ∧ ¬ numL lOne = numL lSho ∧ ¬ numL lLon = numL lSho := by decide +kernel

theorem td_setSid (hd : mD len D v) (hg : aGood D len q) (h : mSet o v) (hc : D q = 68 ∧ aName D q = numL lSid) (K : ∀ v', tF v v' → mSet (o.bind (fun S => (sdO (aX D q)).map (fun x => updS S 5 x))) v' → Q v' none) : mRun kX_told (217, [some (zR 0 0), some (zI (iN (D q))), some (zI (iN (q + 3))), some (zI (iN (sN D q))), some (zI (iN (sV D q))), some (zI (iN (sZ D q))), some (zI (aNum D q)), some (zI 250), none, none, none], [], v) Q := by
  have hz : 1 ≤ sZ D q ∧ sZ D q ≤ 8 := by rcases hg.2.2.2.2.1 with h9 | h9 | h9 <;> omega
  have he : sV D q + sZ D q ≤ len := hg.2.2.2.2.2.1
  have hL : Lt D (sV D q) (sZ D q) := hg.2.2.2.2.2.2.2 hc.1
  obtain ⟨w1, w2, w3⟩ := words_ne
  have sp : ∀ (word : Int64) (m : Nat) (l : List Nat), okW word l = true → m = l.length → ∃ b : Bool, (b = true ↔ aX D q = numL l) ∧ mRun kX_spells (0, [some (zR 0 0), some (zI (iN (sV D q))), some (zI (iN (sZ D q))), some (zI (iN m)), some (zL word), none, none, none], [], v) (fun v' r => v' = v ∧ r = some (zI (bI b))) := fun word m l hw hm => by
    by_cases hn : aX D q = numL l
    · exact ⟨true, ⟨fun _ => hn, fun _ => rfl⟩, m_spellL hw hm hd he hz.2 hL (fun _ => ⟨rfl, rfl⟩) (fun h => absurd hn h)⟩
    · exact ⟨false, ⟨(fun h => by cases h), fun h => absurd h hn⟩, m_spellL hw hm hd he hz.2 hL (fun h => absurd h hn) (fun _ => ⟨rfl, rfl⟩)⟩
  obtain ⟨b1, hb1, r1⟩ := sp 5583 3 lOne (by decide +kernel) rfl
  obtain ⟨b2, hb2, r2⟩ := sp 244204 4 lLon (by decide +kernel) rfl
  obtain ⟨b3, hb3, r3⟩ := sp 21576979 5 lSho (by decide +kernel) rfl
  refine z_C.go 5 rfl ?_
  refine z_C.call rfl rfl r1 (fun v' r h => ?_)
  obtain ⟨rfl, rfl⟩ := h
  refine z_C.go 6 rfl ?_
  refine z_C.call rfl rfl r2 (fun v2 r h => ?_)
  obtain ⟨rfl, rfl⟩ := h
  refine z_C.go 6 rfl ?_
  refine z_C.call rfl rfl r3 (fun v3 r h => ?_)
  obtain ⟨rfl, rfl⟩ := h
  refine z_C.go 1 rfl ?_
  show mRun kX_told (259, [some (zR 0 0), some (zI (iN (D q))), some (zI (iN (q + 3))), some (zI (iN (sN D q))), some (zI (iN (sV D q))), some (zI (iN (sZ D q))), some (zI (aNum D q)), some (zI 250), some (zI (bI b1)), some (zI (bI b2)), some (zI (bI b3))], [], v3) Q
  have hsd : sdO (aX D q) = if b1 = true then some 0 else if b2 = true then some 1 else if b3 = true then some 2 else none := by
    unfold sdO
    simp only [← hb1, ← hb2, ← hb3]
  have fin : ∀ b : Bool, (b = true ↔ o.isSome = true ∧ (b1 = true ∨ b2 = true ∨ b3 = true)) → mRun kX_told (287, [some (zR 0 0), some (zI (iN (D q))), some (zI (iN (q + 3))), some (zI (iN (sN D q))), some (zI (iN (sV D q))), some (zI (iN (sZ D q))), some (zI (aNum D q)), some (zI 250), some (zI (bI b1)), some (zI (bI b2)), some (zI (bI b3))], [zI (bI b), zR 0 0], v3) Q := fun b hb => by
    have hbI : bI b = 0 ∨ bI b = 1 := by cases b; exact Or.inl rfl; exact Or.inr rfl
    refine z_C.go1 rfl (if_pos ⟨rfl, Or.inr hbI⟩) ?_
    have K9 : ∀ y : Nat, (b1 = true → y = 0) → (b2 = true → y = 1) → (b3 = true → b2 = false → y = 2) → Q (z_si (z_si v3 0 0 18 (bI b)) 2 0 (250 + 5) (iN y)) none := fun y y1 y2 y3 => K _ ((tF.s (Or.inl rfl)).tr (tF.j (by decide))) (by
      have hp := h.put (k := 5) (x := y) (y := iN y) (b := b) (by unfold inS; decide) (by decide) (fun hbt => ⟨(hb.mp hbt).1, rfl⟩) (fun _ => trivial)
      have e : (if b = true then o.bind (fun S => some (updS S 5 y)) else none) = o.bind (fun S => (sdO (aX D q)).map (fun x => updS S 5 x)) := by
        cases ho : o with
        | none => cases b <;> rfl
        | some S =>
          cases hbv : b with
          | true =>
            obtain ⟨-, hb9⟩ := hb.mp hbv
            rw [hsd, if_pos rfl]
            show some (updS S 5 y) = Option.map _ _
            cases c1 : b1 with
            | true => rw [if_pos rfl, y1 c1]; rfl
            | false =>
              rw [if_neg (by decide)]
              cases c2 : b2 with
              | true => rw [if_pos rfl, y2 c2]; rfl
              | false =>
                rw [if_neg (by decide)]
                cases c3 : b3 with
                | true => rw [if_pos rfl, y3 c3 c2]; rfl
                | false =>
                  rw [c1, c2, c3] at hb9
                  rcases hb9 with h | h | h <;> cases h
          | false =>
            have hno : ¬ (b1 = true ∨ b2 = true ∨ b3 = true) := fun h9 => by
              have := hb.mpr ⟨by rw [ho]; rfl, h9⟩
              rw [hbv] at this
              cases this
            rw [hsd, if_neg (fun h => hno (Or.inl h)), if_neg (fun h => hno (Or.inr (Or.inl h))), if_neg (fun h => hno (Or.inr (Or.inr h)))]
            rfl
      rw [e] at hp
      exact hp)
    have c12 : b1 = true → b2 = true → False := fun h1 h2 => w1 ((hb1.mp h1).symm.trans (hb2.mp h2))
    have c13 : b1 = true → b3 = true → False := fun h1 h2 => w2 ((hb1.mp h1).symm.trans (hb3.mp h2))
    have c23 : b2 = true → b3 = true → False := fun h1 h2 => w3 ((hb2.mp h1).symm.trans (hb3.mp h2))
    refine z_C.go 7 rfl ?_
    cases e2 : b2 with
    | true =>
      refine z_C.if (fun h => absurd h (by decide)) (fun _ => ?_)
      refine z_C.go 4 rfl ?_
      exact z_C.ret rfl rfl (K9 1 (fun h => (c12 h e2).elim) (fun _ => rfl) (fun h _ => (c23 e2 h).elim))
    | false =>
      refine z_C.if (fun _ => ?_) (fun h => absurd (by decide) h)
      refine z_C.go 2 rfl ?_
      cases e3 : b3 with
      | true =>
        refine z_C.if (fun h => absurd h (by decide)) (fun _ => ?_)
        refine z_C.go 4 rfl ?_
        exact z_C.ret rfl rfl (K9 2 (fun h => (c13 h e3).elim) (fun h => by rw [e2] at h; cases h) (fun _ _ => rfl))
      | false =>
        refine z_C.if (fun _ => ?_) (fun h => absurd (by decide) h)
        refine z_C.go 3 rfl ?_
        exact z_C.ret rfl rfl (K9 0 (fun _ => rfl) (fun h => by rw [e2] at h; cases h) (fun h => by rw [e3] at h; cases h))
  refine z_C.go 2 rfl ?_
  refine z_C.ld rfl rfl h.1 ?_
  refine z_C.go 1 rfl ?_
  by_cases ho : o.isSome = true
  · rw [if_pos ho]
    refine z_C.if (fun h => absurd h (by decide)) (fun _ => ?_)
    refine z_C.go 2 rfl ?_
    cases e1 : b1 with
    | true =>
      rw [e1] at fin
      refine z_C.if (fun h => absurd h (by decide)) (fun _ => ?_)
      refine z_C.go 2 rfl ?_
      exact fin true ⟨fun _ => ⟨ho, Or.inl rfl⟩, fun _ => rfl⟩
    | false =>
      rw [e1] at fin
      refine z_C.if (fun _ => ?_) (fun h => absurd (by decide) h)
      refine z_C.go 2 rfl ?_
      cases e2 : b2 with
      | true =>
        rw [e2] at fin
        refine z_C.if (fun h => absurd h (by decide)) (fun _ => ?_)
        refine z_C.go 2 rfl ?_
        exact fin true ⟨fun _ => ⟨ho, Or.inr (Or.inl rfl)⟩, fun _ => rfl⟩
      | false =>
        rw [e2] at fin
        refine z_C.if (fun _ => ?_) (fun h => absurd (by decide) h)
        refine z_C.go 2 rfl ?_
        cases e3 : b3 with
        | true =>
          rw [e3] at fin
          refine z_C.if (fun h => absurd h (by decide)) (fun _ => ?_)
          refine z_C.go 2 rfl ?_
          exact fin true ⟨fun _ => ⟨ho, Or.inr (Or.inr rfl)⟩, fun _ => rfl⟩
        | false =>
          rw [e3] at fin
          refine z_C.if (fun _ => ?_) (fun h => absurd (by decide) h)
          refine z_C.go 1 rfl ?_
          exact fin false ⟨(fun h => by cases h), fun h9 => by rcases h9.2 with h | h | h <;> cases h⟩
  · rw [if_neg ho]
    refine z_C.if (fun _ => ?_) (fun h => absurd (by decide) h)
    refine z_C.go 1 rfl ?_
    exact fin false ⟨(fun h => by cases h), fun h9 => absurd h9.1 ho⟩
theorem m_told (hd : mD len D v) (hg : aGood D len q) (hq : q < len) (h : mSet o v) (K : ∀ v', tF v v' → mSet (o.bind (setS D q)) v' → Q v' none) : mRun kX_told (0, [some (zR 0 0), some (zI (iN (D q))), some (zI (iN (q + 3))), some (zI (iN (sN D q))), some (zI (iN (sV D q))), some (zI (iN (sZ D q))), some (zI (aNum D q)), none, none, none, none], [], v) Q := by
  have hD := (hd.2.2 q hq).2
  have hb : ∀ k, k < len → D k < 256 := fun k hk => (hd.2.2 k hk).2
  have bnone : ∀ (c : Prop) [Decidable c] (f : (Nat → Nat) → Nat → Nat), (o.bind (fun S => if c then some (f S) else none)) = (if c then o.bind (fun S => some (f S)) else none) := fun c _ f => by
    by_cases hc : c
    · simp only [if_pos hc]
    · simp only [if_neg hc]
      cases o <;> rfl
  refine z_C.go 2 rfl ?_
  refine td_Cop hd hg hD (fun c => ?_) (fun n1 => ?_)
  · refine td_setCop hd hg h c (aX_32 hb hg c.1) (fun v' a b => K v' a ?_)
    unfold setS
    simp only [if_pos c]
    rw [bnone]
    exact b
  refine td_Pri hd hg hD (fun c => ?_) (fun n2 => ?_)
  · refine td_setPri hd hg h c (aX_32 hb hg c.1) (fun v' a b => K v' a ?_)
    unfold setS
    simp only [if_neg n1, if_pos c]
    rw [bnone]
    exact b
  refine td_Up hd hg hD (fun c => ?_) (fun n3 => ?_)
  · refine td_setUp hd hg h c (aX_32 hb hg c.1) (fun v' a b => K v' a ?_)
    unfold setS
    simp only [if_neg n1, if_neg n2, if_pos c]
    rw [bnone]
    exact b
  refine td_Sid hd hg hD (fun c => ?_) (fun n4 => ?_)
  · refine td_setSid hd hg h c (fun v' a b => K v' a ?_)
    unfold setS
    simp only [if_neg n1, if_neg n2, if_neg n3, if_pos c]
    have e : (fun S => (sdO (aX D q)).map (fun x => updS S 5 x)) = (fun S => if aX D q = numL lOne then some (updS S 5 0) else if aX D q = numL lLon then some (updS S 5 1) else if aX D q = numL lSho then some (updS S 5 2) else none) := by
      funext S
      unfold sdO
      split
      · rfl
      · split
        · rfl
        · split <;> rfl
    rw [e] at b
    exact b
  refine td_Boo hd hg hD (fun c => ?_) (fun n5 => ?_)
  · refine td_setBoo h c (fun v' a b => K v' a ?_)
    unfold setS
    simp only [if_neg n1, if_neg n2, if_neg n3, if_neg n4, if_pos c]
    exact b
  refine td_Hol hd hg hD (fun c => ?_) (fun n6 => ?_)
  · refine td_setHol h c (fun v' a b => K v' a ?_)
    unfold setS
    simp only [if_neg n1, if_neg n2, if_neg n3, if_neg n4, if_neg n5, if_pos c]
    exact b
  refine z_C.go 3 rfl ?_
  refine z_C.ret rfl rfl (K (z_si v 0 0 18 0) (tF.s (Or.inl rfl)) ?_)
  have e : o.bind (setS D q) = none := by
    cases o with
    | none => rfl
    | some S =>
      show setS D q S = none
      unfold setS
      simp only [if_neg n1, if_neg n2, if_neg n3, if_neg n4, if_neg n5, if_neg n6]
  rw [e]
  exact ⟨rfl, h.2.1, fun S hS => by cases hS⟩
end TOLD2
