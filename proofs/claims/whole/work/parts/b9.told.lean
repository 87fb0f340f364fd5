/-! settings -/
theorem iN_eq32 {x k : Nat} (hx : x < 4294967296) (hk : k < 4294967296) : iN x = iN k ↔ x = k := by
  constructor
  · intro h
    have h1 := congrArg Int32.toBitVec h
    rw [Int32.toBitVec_ofNat', Int32.toBitVec_ofNat'] at h1
    have h2 := congrArg BitVec.toNat h1
    rw [BitVec.toNat_ofNat, BitVec.toNat_ofNat] at h2
    omega
  · intro h
    rw [h]
theorem in_rng {x B : Nat} (hx : x < 4294967296) (hB : B < 2147483648) : (1 ≤ iN x ∧ iN x ≤ iN B) ↔ 1 ≤ x ∧ x ≤ B := by
  constructor
  · intro h
    obtain ⟨e, e2⟩ := iN_of (Int32.le_trans (by decide) h.1)
    generalize (iN x).toInt.toNat = k at e e2
    have ek : x = k := (iN_eq32 hx (by omega)).mp e
    subst ek
    exact ⟨(iN_le (a := 1) (by decide) e2).mp h.1, (iN_le e2 hB).mp h.2⟩
  · intro h
    exact ⟨(iN_le (a := 1) (by decide) (by omega)).mpr h.1, (iN_le (by omega) hB).mpr h.2⟩
def numL (l : List Nat) : Nat := numF (fun k => 96 + l.getD k 0) 0 l.length
abbrev lJob : List Nat := [10, 15, 2]
abbrev lCop : List Nat := [3, 15, 16, 9, 5, 19]
abbrev lPri : List Nat := [16, 18, 9, 15, 18, 9, 20, 25]
abbrev lUp : List Nat := [21, 16]
abbrev lSid : List Nat := [19, 9, 4, 5, 19]
abbrev lBoo : List Nat := [2, 15, 15, 11, 12, 5, 20]
abbrev lHol : List Nat := [8, 15, 12, 4]
abbrev lOne : List Nat := [15, 14, 5]
abbrev lLon : List Nat := [12, 15, 14, 7]
abbrev lSho : List Nat := [19, 8, 15, 18, 20]
def okW (word : Int64) (l : List Nat) : Bool := (List.range l.length).all (fun k => decide (w5 word k = iN (l.getD k 0)) && decide (1 ≤ l.getD k 0) && decide (l.getD k 0 ≤ 26)) && decide (l.length ≤ 8)
theorem okW_of {word : Int64} {l : List Nat} (h : okW word l = true) : l.length ≤ 8 ∧ ∀ k, k < l.length → w5 word k = iN (l.getD k 0) ∧ 1 ≤ l.getD k 0 ∧ l.getD k 0 ≤ 26 := by
  unfold okW at h
  rw [Bool.and_eq_true, decide_eq_true_eq] at h
  refine ⟨h.2, fun k hk => ?_⟩
  have h1 := List.all_eq_true.mp h.1 k (List.mem_range.mpr hk)
  simp only [Bool.and_eq_true, decide_eq_true_eq] at h1
  exact ⟨h1.1.1, h1.1.2, h1.2⟩
theorem m_spellL {len p n : Nat} {D : Nat → Nat} {v : z_W} {word : Int64} {m : Nat} {l : List Nat} {Q : z_W → Option z_V → Prop} (hw : okW word l = true) (hm : m = l.length) (hd : mD len D v) (hpn : p + n ≤ len) (hn : n ≤ 8) (hL : Lt D p n)
    (h1 : numF D p n = numL l → Q v (some (zI 1))) (h0 : ¬ numF D p n = numL l → Q v (some (zI 0))) : mRun kX_spells (0, [some (zR 0 0), some (zI (iN p)), some (zI (iN n)), some (zI (iN m)), some (zL word), none, none, none], [], v) Q := by
  subst hm
  obtain ⟨a, b⟩ := okW_of hw
  exact m_spl hd hpn hn hL a b h1 h0
def updS (S : Nat → Nat) (k x j : Nat) : Nat := if j = k then x else S j
def aX (D : Nat → Nat) (q : Nat) : Nat := numF D (sV D q) (sZ D q)
def setS (D : Nat → Nat) (q : Nat) (S : Nat → Nat) : Option (Nat → Nat) :=
  if D q = 33 ∧ aName D q = numL lCop then (if 1 ≤ aX D q ∧ aX D q ≤ 3 then some (updS S 2 (aX D q)) else none)
  else if D q = 33 ∧ aName D q = numL lPri then (if 1 ≤ aX D q ∧ aX D q ≤ 100 then some (updS S 3 (aX D q)) else none)
  else if D q = 33 ∧ aName D q = numL lUp then (if aX D q = 1 ∨ aX D q = 2 ∨ aX D q = 4 then some (updS S 4 (aX D q)) else none)
  else if D q = 68 ∧ aName D q = numL lSid then (if aX D q = numL lOne then some (updS S 5 0) else if aX D q = numL lLon then some (updS S 5 1) else if aX D q = numL lSho then some (updS S 5 2) else none)
  else if D q = 34 ∧ aName D q = numL lBoo then some (updS S 6 (aX D q))
  else if D q = 34 ∧ aName D q = numL lHol then some (updS S 9 (aX D q))
  else none
def inS (k : Nat) : Prop := k = 2 ∨ k = 3 ∨ k = 4 ∨ k = 5 ∨ k = 6 ∨ k = 9
def mSet (o : Option (Nat → Nat)) (v : z_W) : Prop := v.1 0 0 18 = iN (if o.isSome = true then 1 else 0) ∧ (v.1 0 0 19 = 0 ∨ v.1 0 0 19 = 1) ∧ ∀ S, o = some S → (∀ k, inS k → v.1 2 0 (250 + k) = iN (S k)) ∧ (v.1 0 0 19 = 0 → S 4 = 1)
def tF (v v' : z_W) : Prop := v'.2 = v.2 ∧ ∀ g i k, ¬ (g = 0 ∧ i = 0 ∧ (k = 18 ∨ k = 19)) → ¬ (g = 2 ∧ i = 0 ∧ 250 ≤ k ∧ ¬ k = 258) → v'.1 g i k = v.1 g i k
theorem tF.tr {v v' v'' : z_W} (h1 : tF v v') (h2 : tF v' v'') : tF v v'' := ⟨h2.1.trans h1.1, fun g i k a b => (h2.2 g i k a b).trans (h1.2 g i k a b)⟩
theorem tF.s {v : z_W} {k : Nat} {x : Int32} (hk : k = 18 ∨ k = 19) : tF v (z_si v 0 0 k x) := ⟨rfl, fun g i q a _ => if_neg (fun h => a ⟨h.1, h.2.1, by rw [h.2.2]; exact hk⟩)⟩
theorem tF.j {v : z_W} {k : Nat} {x : Int32} (hk : 250 ≤ k ∧ ¬ k = 258) : tF v (z_si v 2 0 k x) := ⟨rfl, fun g i q _ b => if_neg (fun h => b ⟨h.1, h.2.1, by omega, by omega⟩)⟩
theorem tF.q {v v' : z_W} (h : tF v v') : qF v v' := ⟨h.1, fun g i k a _ c _ => h.2 g i k (fun h9 => a ⟨h9.1, by omega, by omega⟩) (fun h9 => c ⟨h9.1, h9.2.2.1⟩)⟩
/-- one setting is written -/
theorem mSet.put {o : Option (Nat → Nat)} {v : z_W} {k x : Nat} {y : Int32} {b : Bool} (h : mSet o v) (hk : inS k) (hk4 : ¬ k = 4) (hb : b = true → o.isSome = true ∧ y = iN x) (hb0 : b = false → True) :
    mSet (if b = true then o.bind (fun S => some (updS S k x)) else none) (z_si (z_si v 0 0 18 (bI b)) 2 0 (250 + k) y) := by
  obtain ⟨h1, h2, h3⟩ := h
  cases b with
  | false => exact ⟨rfl, h2, fun S hS => by cases hS⟩
  | true =>
    obtain ⟨b1, b2⟩ := hb rfl
    cases o with
    | none => cases b1
    | some S =>
      refine ⟨rfl, h2, fun S' hS => ?_⟩
      cases hS
      obtain ⟨g1, g2⟩ := h3 S rfl
      refine ⟨fun j hj => ?_, fun h9 => ?_⟩
      · show (if 2 = 2 ∧ 0 = 0 ∧ 250 + j = 250 + k then y else v.1 2 0 (250 + j)) = iN (updS S k x j)
        unfold updS
        by_cases e : j = k
        · rw [if_pos ⟨rfl, rfl, by omega⟩, if_pos e, b2]
        · rw [if_neg (fun h => by omega), if_neg e]
          exact g1 j hj
      · unfold updS
        rw [if_neg (by omega)]
        exact g2 h9
theorem k_in {x a b : Int32} {v : z_W} {Q : z_W → Option z_V → Prop} (h1 : a ≤ x ∧ x ≤ b → Q v (some (zI 1))) (h0 : ¬ (a ≤ x ∧ x ≤ b) → Q v (some (zI 0))) : mRun kX_in (0, [some (zI x), some (zI a), some (zI b)], [], v) Q := by
  refine z_C.go 3 rfl ?_
  refine z_C.if (fun h => ?_) (fun h => ?_)
  · refine z_C.go 1 rfl ?_
    exact z_C.ret rfl rfl (h0 (fun h9 => absurd h (Int32.not_lt.mpr h9.1)))
  · refine z_C.go 3 rfl ?_
    refine z_C.if (fun h2 => ?_) (fun h2 => ?_)
    · refine z_C.go 1 rfl ?_
      exact z_C.ret rfl rfl (h0 (fun h9 => absurd h2 (Int32.not_lt.mpr h9.2)))
    · refine z_C.go 2 rfl ?_
      exact z_C.ret rfl rfl (h1 ⟨Int32.not_lt.mp h, Int32.not_lt.mp h2⟩)

section TOLD
variable {len q : Nat} {D : Nat → Nat} {o : Option (Nat → Nat)} {v : z_W} {Q : z_W → Option z_V → Prop}

theorem td_Cop (hd : mD len D v) (hg : aGood D len q) (hD : D q < 256) (KY : D q = 33 ∧ aName D q = numL lCop → mRun kX_told (25, [some (zR 0 0), some (zI (iN (D q))), some (zI (iN (q + 3))), some (zI (iN (sN D q))), some (zI (iN (sV D q))), some (zI (iN (sZ D q))), some (zI (aNum D q)), some (zI 250), none, none, none], [], v) Q) (KN : ¬ (D q = 33 ∧ aName D q = numL lCop) → mRun kX_told (65, [some (zR 0 0), some (zI (iN (D q))), some (zI (iN (q + 3))), some (zI (iN (sN D q))), some (zI (iN (sV D q))), some (zI (iN (sZ D q))), some (zI (aNum D q)), some (zI 250), none, none, none], [], v) Q) : mRun kX_told (5, [some (zR 0 0), some (zI (iN (D q))), some (zI (iN (q + 3))), some (zI (iN (sN D q))), some (zI (iN (sV D q))), some (zI (iN (sZ D q))), some (zI (aNum D q)), some (zI 250), none, none, none], [], v) Q := by
  refine z_C.go 3 rfl ?_
  refine z_C.if (fun h => ?_) (fun h => ?_)
  · have ht : D q = 33 := (iN_inj (b := 33) (by omega) (by decide)).mp h
    refine z_C.go 5 rfl ?_
    by_cases hn : aName D q = numL lCop
    · refine z_C.call rfl rfl (m_spellL (word := 643088867) (m := 6) (l := lCop) (Q := fun v' r => v' = v ∧ r = some (zI 1)) (by decide +kernel) rfl hd hg.2.2.1.1 hg.2.1.2 hg.2.2.1.2 (fun _ => ⟨rfl, rfl⟩) (fun h => absurd hn h)) (fun v' r h => ?_)
      obtain ⟨rfl, rfl⟩ := h
      refine z_C.go 1 rfl ?_
      refine z_C.if (fun h => absurd h (by decide)) (fun _ => ?_)
      exact KY ⟨ht, hn⟩
    · refine z_C.call rfl rfl (m_spellL (word := 643088867) (m := 6) (l := lCop) (Q := fun v' r => v' = v ∧ r = some (zI 0)) (by decide +kernel) rfl hd hg.2.2.1.1 hg.2.1.2 hg.2.2.1.2 (fun h => absurd h hn) (fun _ => ⟨rfl, rfl⟩)) (fun v' r h => ?_)
      obtain ⟨rfl, rfl⟩ := h
      refine z_C.go 1 rfl ?_
      refine z_C.if (fun _ => ?_) (fun h => absurd (by decide) h)
      exact KN (fun h9 => hn h9.2)
  · have ht : ¬ D q = 33 := fun h9 => h ((iN_inj (b := 33) (by omega) (by decide)).mpr h9)
    exact KN (fun h9 => ht h9.1)
theorem td_Pri (hd : mD len D v) (hg : aGood D len q) (hD : D q < 256) (KY : D q = 33 ∧ aName D q = numL lPri → mRun kX_told (85, [some (zR 0 0), some (zI (iN (D q))), some (zI (iN (q + 3))), some (zI (iN (sN D q))), some (zI (iN (sV D q))), some (zI (iN (sZ D q))), some (zI (aNum D q)), some (zI 250), none, none, none], [], v) Q) (KN : ¬ (D q = 33 ∧ aName D q = numL lPri) → mRun kX_told (126, [some (zR 0 0), some (zI (iN (D q))), some (zI (iN (q + 3))), some (zI (iN (sN D q))), some (zI (iN (sV D q))), some (zI (iN (sZ D q))), some (zI (aNum D q)), some (zI 250), none, none, none], [], v) Q) : mRun kX_told (65, [some (zR 0 0), some (zI (iN (D q))), some (zI (iN (q + 3))), some (zI (iN (sN D q))), some (zI (iN (sV D q))), some (zI (iN (sZ D q))), some (zI (aNum D q)), some (zI 250), none, none, none], [], v) Q := by
  refine z_C.go 3 rfl ?_
  refine z_C.if (fun h => ?_) (fun h => ?_)
  · have ht : D q = 33 := (iN_inj (b := 33) (by omega) (by decide)).mp h
    refine z_C.go 5 rfl ?_
    by_cases hn : aName D q = numL lPri
    · refine z_C.call rfl rfl (m_spellL (word := 880789661264) (m := 8) (l := lPri) (Q := fun v' r => v' = v ∧ r = some (zI 1)) (by decide +kernel) rfl hd hg.2.2.1.1 hg.2.1.2 hg.2.2.1.2 (fun _ => ⟨rfl, rfl⟩) (fun h => absurd hn h)) (fun v' r h => ?_)
      obtain ⟨rfl, rfl⟩ := h
      refine z_C.go 1 rfl ?_
      refine z_C.if (fun h => absurd h (by decide)) (fun _ => ?_)
      exact KY ⟨ht, hn⟩
    · refine z_C.call rfl rfl (m_spellL (word := 880789661264) (m := 8) (l := lPri) (Q := fun v' r => v' = v ∧ r = some (zI 0)) (by decide +kernel) rfl hd hg.2.2.1.1 hg.2.1.2 hg.2.2.1.2 (fun h => absurd h hn) (fun _ => ⟨rfl, rfl⟩)) (fun v' r h => ?_)
      obtain ⟨rfl, rfl⟩ := h
      refine z_C.go 1 rfl ?_
      refine z_C.if (fun _ => ?_) (fun h => absurd (by decide) h)
      exact KN (fun h9 => hn h9.2)
  · have ht : ¬ D q = 33 := fun h9 => h ((iN_inj (b := 33) (by omega) (by decide)).mpr h9)
    exact KN (fun h9 => ht h9.1)
theorem td_Up (hd : mD len D v) (hg : aGood D len q) (hD : D q < 256) (KY : D q = 33 ∧ aName D q = numL lUp → mRun kX_told (145, [some (zR 0 0), some (zI (iN (D q))), some (zI (iN (q + 3))), some (zI (iN (sN D q))), some (zI (iN (sV D q))), some (zI (iN (sZ D q))), some (zI (aNum D q)), some (zI 250), none, none, none], [], v) Q) (KN : ¬ (D q = 33 ∧ aName D q = numL lUp) → mRun kX_told (198, [some (zR 0 0), some (zI (iN (D q))), some (zI (iN (q + 3))), some (zI (iN (sN D q))), some (zI (iN (sV D q))), some (zI (iN (sZ D q))), some (zI (aNum D q)), some (zI 250), none, none, none], [], v) Q) : mRun kX_told (126, [some (zR 0 0), some (zI (iN (D q))), some (zI (iN (q + 3))), some (zI (iN (sN D q))), some (zI (iN (sV D q))), some (zI (iN (sZ D q))), some (zI (aNum D q)), some (zI 250), none, none, none], [], v) Q := by
  refine z_C.go 3 rfl ?_
  refine z_C.if (fun h => ?_) (fun h => ?_)
  · have ht : D q = 33 := (iN_inj (b := 33) (by omega) (by decide)).mp h
    refine z_C.go 5 rfl ?_
    by_cases hn : aName D q = numL lUp
    · refine z_C.call rfl rfl (m_spellL (word := 533) (m := 2) (l := lUp) (Q := fun v' r => v' = v ∧ r = some (zI 1)) (by decide +kernel) rfl hd hg.2.2.1.1 hg.2.1.2 hg.2.2.1.2 (fun _ => ⟨rfl, rfl⟩) (fun h => absurd hn h)) (fun v' r h => ?_)
      obtain ⟨rfl, rfl⟩ := h
      refine z_C.go 1 rfl ?_
      refine z_C.if (fun h => absurd h (by decide)) (fun _ => ?_)
      exact KY ⟨ht, hn⟩
    · refine z_C.call rfl rfl (m_spellL (word := 533) (m := 2) (l := lUp) (Q := fun v' r => v' = v ∧ r = some (zI 0)) (by decide +kernel) rfl hd hg.2.2.1.1 hg.2.1.2 hg.2.2.1.2 (fun h => absurd h hn) (fun _ => ⟨rfl, rfl⟩)) (fun v' r h => ?_)
      obtain ⟨rfl, rfl⟩ := h
      refine z_C.go 1 rfl ?_
      refine z_C.if (fun _ => ?_) (fun h => absurd (by decide) h)
      exact KN (fun h9 => hn h9.2)
  · have ht : ¬ D q = 33 := fun h9 => h ((iN_inj (b := 33) (by omega) (by decide)).mpr h9)
    exact KN (fun h9 => ht h9.1)
theorem td_Sid (hd : mD len D v) (hg : aGood D len q) (hD : D q < 256) (KY : D q = 68 ∧ aName D q = numL lSid → mRun kX_told (217, [some (zR 0 0), some (zI (iN (D q))), some (zI (iN (q + 3))), some (zI (iN (sN D q))), some (zI (iN (sV D q))), some (zI (iN (sZ D q))), some (zI (aNum D q)), some (zI 250), none, none, none], [], v) Q) (KN : ¬ (D q = 68 ∧ aName D q = numL lSid) → mRun kX_told (321, [some (zR 0 0), some (zI (iN (D q))), some (zI (iN (q + 3))), some (zI (iN (sN D q))), some (zI (iN (sV D q))), some (zI (iN (sZ D q))), some (zI (aNum D q)), some (zI 250), none, none, none], [], v) Q) : mRun kX_told (198, [some (zR 0 0), some (zI (iN (D q))), some (zI (iN (q + 3))), some (zI (iN (sN D q))), some (zI (iN (sV D q))), some (zI (iN (sZ D q))), some (zI (aNum D q)), some (zI 250), none, none, none], [], v) Q := by
  refine z_C.go 3 rfl ?_
  refine z_C.if (fun h => ?_) (fun h => ?_)
  · have ht : D q = 68 := (iN_inj (b := 68) (by omega) (by decide)).mp h
    refine z_C.go 5 rfl ?_
    by_cases hn : aName D q = numL lSid
    · refine z_C.call rfl rfl (m_spellL (word := 20091187) (m := 5) (l := lSid) (Q := fun v' r => v' = v ∧ r = some (zI 1)) (by decide +kernel) rfl hd hg.2.2.1.1 hg.2.1.2 hg.2.2.1.2 (fun _ => ⟨rfl, rfl⟩) (fun h => absurd hn h)) (fun v' r h => ?_)
      obtain ⟨rfl, rfl⟩ := h
      refine z_C.go 1 rfl ?_
      refine z_C.if (fun h => absurd h (by decide)) (fun _ => ?_)
      exact KY ⟨ht, hn⟩
    · refine z_C.call rfl rfl (m_spellL (word := 20091187) (m := 5) (l := lSid) (Q := fun v' r => v' = v ∧ r = some (zI 0)) (by decide +kernel) rfl hd hg.2.2.1.1 hg.2.1.2 hg.2.2.1.2 (fun h => absurd h hn) (fun _ => ⟨rfl, rfl⟩)) (fun v' r h => ?_)
      obtain ⟨rfl, rfl⟩ := h
      refine z_C.go 1 rfl ?_
      refine z_C.if (fun _ => ?_) (fun h => absurd (by decide) h)
      exact KN (fun h9 => hn h9.2)
  · have ht : ¬ D q = 68 := fun h9 => h ((iN_inj (b := 68) (by omega) (by decide)).mpr h9)
    exact KN (fun h9 => ht h9.1)
theorem td_Boo (hd : mD len D v) (hg : aGood D len q) (hD : D q < 256) (KY : D q = 34 ∧ aName D q = numL lBoo → mRun kX_told (341, [some (zR 0 0), some (zI (iN (D q))), some (zI (iN (q + 3))), some (zI (iN (sN D q))), some (zI (iN (sV D q))), some (zI (iN (sZ D q))), some (zI (aNum D q)), some (zI 250), none, none, none], [], v) Q) (KN : ¬ (D q = 34 ∧ aName D q = numL lBoo) → mRun kX_told (356, [some (zR 0 0), some (zI (iN (D q))), some (zI (iN (q + 3))), some (zI (iN (sN D q))), some (zI (iN (sV D q))), some (zI (iN (sZ D q))), some (zI (aNum D q)), some (zI 250), none, none, none], [], v) Q) : mRun kX_told (321, [some (zR 0 0), some (zI (iN (D q))), some (zI (iN (q + 3))), some (zI (iN (sN D q))), some (zI (iN (sV D q))), some (zI (iN (sZ D q))), some (zI (aNum D q)), some (zI 250), none, none, none], [], v) Q := by
  refine z_C.go 3 rfl ?_
  refine z_C.if (fun h => ?_) (fun h => ?_)
  · have ht : D q = 34 := (iN_inj (b := 34) (by omega) (by decide)).mp h
    refine z_C.go 5 rfl ?_
    by_cases hn : aName D q = numL lBoo
    · refine z_C.call rfl rfl (m_spellL (word := 21655567842) (m := 7) (l := lBoo) (Q := fun v' r => v' = v ∧ r = some (zI 1)) (by decide +kernel) rfl hd hg.2.2.1.1 hg.2.1.2 hg.2.2.1.2 (fun _ => ⟨rfl, rfl⟩) (fun h => absurd hn h)) (fun v' r h => ?_)
      obtain ⟨rfl, rfl⟩ := h
      refine z_C.go 1 rfl ?_
      refine z_C.if (fun h => absurd h (by decide)) (fun _ => ?_)
      exact KY ⟨ht, hn⟩
    · refine z_C.call rfl rfl (m_spellL (word := 21655567842) (m := 7) (l := lBoo) (Q := fun v' r => v' = v ∧ r = some (zI 0)) (by decide +kernel) rfl hd hg.2.2.1.1 hg.2.1.2 hg.2.2.1.2 (fun h => absurd h hn) (fun _ => ⟨rfl, rfl⟩)) (fun v' r h => ?_)
      obtain ⟨rfl, rfl⟩ := h
      refine z_C.go 1 rfl ?_
      refine z_C.if (fun _ => ?_) (fun h => absurd (by decide) h)
      exact KN (fun h9 => hn h9.2)
  · have ht : ¬ D q = 34 := fun h9 => h ((iN_inj (b := 34) (by omega) (by decide)).mpr h9)
    exact KN (fun h9 => ht h9.1)
theorem td_Hol (hd : mD len D v) (hg : aGood D len q) (hD : D q < 256) (KY : D q = 34 ∧ aName D q = numL lHol → mRun kX_told (375, [some (zR 0 0), some (zI (iN (D q))), some (zI (iN (q + 3))), some (zI (iN (sN D q))), some (zI (iN (sV D q))), some (zI (iN (sZ D q))), some (zI (aNum D q)), some (zI 250), none, none, none], [], v) Q) (KN : ¬ (D q = 34 ∧ aName D q = numL lHol) → mRun kX_told (390, [some (zR 0 0), some (zI (iN (D q))), some (zI (iN (q + 3))), some (zI (iN (sN D q))), some (zI (iN (sV D q))), some (zI (iN (sZ D q))), some (zI (aNum D q)), some (zI 250), none, none, none], [], v) Q) : mRun kX_told (356, [some (zR 0 0), some (zI (iN (D q))), some (zI (iN (q + 3))), some (zI (iN (sN D q))), some (zI (iN (sV D q))), some (zI (iN (sZ D q))), some (zI (aNum D q)), some (zI 250), none, none, none], [], v) Q := by
  refine z_C.go 3 rfl ?_
  refine z_C.if (fun h => ?_) (fun h => ?_)
  · have ht : D q = 34 := (iN_inj (b := 34) (by omega) (by decide)).mp h
    refine z_C.go 5 rfl ?_
    by_cases hn : aName D q = numL lHol
    · refine z_C.call rfl rfl (m_spellL (word := 143848) (m := 4) (l := lHol) (Q := fun v' r => v' = v ∧ r = some (zI 1)) (by decide +kernel) rfl hd hg.2.2.1.1 hg.2.1.2 hg.2.2.1.2 (fun _ => ⟨rfl, rfl⟩) (fun h => absurd hn h)) (fun v' r h => ?_)
      obtain ⟨rfl, rfl⟩ := h
      refine z_C.go 1 rfl ?_
      refine z_C.if (fun h => absurd h (by decide)) (fun _ => ?_)
      exact KY ⟨ht, hn⟩
    · refine z_C.call rfl rfl (m_spellL (word := 143848) (m := 4) (l := lHol) (Q := fun v' r => v' = v ∧ r = some (zI 0)) (by decide +kernel) rfl hd hg.2.2.1.1 hg.2.1.2 hg.2.2.1.2 (fun h => absurd h hn) (fun _ => ⟨rfl, rfl⟩)) (fun v' r h => ?_)
      obtain ⟨rfl, rfl⟩ := h
      refine z_C.go 1 rfl ?_
      refine z_C.if (fun _ => ?_) (fun h => absurd (by decide) h)
      exact KN (fun h9 => hn h9.2)
  · have ht : ¬ D q = 34 := fun h9 => h ((iN_inj (b := 34) (by omega) (by decide)).mpr h9)
    exact KN (fun h9 => ht h9.1)
theorem aNum_n (h : ¬ D q = 68) : aNum D q = iN (aX D q) := by unfold aNum aX; rw [if_neg h]
theorem aX_32 (hb : ∀ k, k < len → D k < 256) (hg : aGood D len q) (h : D q = 33) : aX D q < 4294967296 := by
  have hz : sZ D q = 4 := by rcases hg.2.2.2.2.1 with h9 | h9 | h9 <;> omega
  have he := hg.2.2.2.2.2.1
  unfold aX
  rw [hz]
  exact numF_lt 4 (fun i hi => hb _ (by unfold sE at he; omega))
theorem j250 {k : Nat} (hk : k < 10) : (250 : Int32) + iN k = iN (250 + k) ∧ z_in ((250 : Int32) + iN k) 260 = true ∧ ((250 : Int32) + iN k).toNatClampNeg = 250 + k := by
  have e : (250 : Int32) + iN k = iN (250 + k) := iN_add 250 k
  refine ⟨e, ?_, ?_⟩
  · rw [e]
    exact iN_in (by omega) (by omega)
  · rw [e]
    exact iN_nat (by omega)

theorem td_setCop (hd : mD len D v) (hg : aGood D len q) (h : mSet o v) (hc : D q = 33 ∧ aName D q = numL lCop) (hx : aX D q < 4294967296) (K : ∀ v', tF v v' → mSet (if 1 ≤ aX D q ∧ aX D q ≤ 3 then o.bind (fun S => some (updS S 2 (aX D q))) else none) v' → Q v' none) : mRun kX_told (25, [some (zR 0 0), some (zI (iN (D q))), some (zI (iN (q + 3))), some (zI (iN (sN D q))), some (zI (iN (sV D q))), some (zI (iN (sZ D q))), some (zI (aNum D q)), some (zI 250), none, none, none], [], v) Q := by
  have ean : aNum D q = iN (aX D q) := aNum_n (by omega)
  have fin : ∀ b : Bool, (b = true ↔ o.isSome = true ∧ 1 ≤ aX D q ∧ aX D q ≤ 3) → mRun kX_told (48, [some (zR 0 0), some (zI (iN (D q))), some (zI (iN (q + 3))), some (zI (iN (sN D q))), some (zI (iN (sV D q))), some (zI (iN (sZ D q))), some (zI (aNum D q)), some (zI 250), none, none, none], [zI (bI b), zR 0 0], v) Q := fun b hb => by
    have hbI : bI b = 0 ∨ bI b = 1 := by cases b; exact Or.inl rfl; exact Or.inr rfl
    refine z_C.go1 rfl (if_pos ⟨rfl, Or.inr hbI⟩) ?_
    refine z_C.go 8 rfl ?_
    have k9 := K (z_si (z_si v 0 0 18 (bI b)) 2 0 (250 + 2) (aNum D q)) ((tF.s (Or.inl rfl)).tr (tF.j (by decide))) (by
      have hp := h.put (k := 2) (x := aX D q) (y := aNum D q) (b := b) (by unfold inS; decide) (by decide) (fun hbt => ⟨(hb.mp hbt).1, ean⟩) (fun _ => trivial)
      by_cases hr : 1 ≤ aX D q ∧ aX D q ≤ 3
      · rw [if_pos hr]
        cases hbv : b with
        | true =>
          rw [hbv, if_pos rfl] at hp
          exact hp
        | false =>
          have ho : o = none := by
            cases ho : o with
            | none => rfl
            | some S => exact absurd (hb.mpr ⟨by rw [ho]; rfl, hr⟩) (by rw [hbv]; decide)
          rw [hbv, if_neg (by decide)] at hp
          rw [ho]
          exact hp
      · rw [if_neg hr]
        have hbv : b = false := by
          cases hbv : b with
          | false => rfl
          | true => exact absurd (hb.mp hbv).2 hr
        rw [hbv, if_neg (by decide)] at hp
        rw [hbv]
        exact hp)
    exact z_C.ret rfl rfl k9
  refine z_C.go 2 rfl ?_
  refine z_C.ld rfl rfl h.1 ?_
  refine z_C.go 1 rfl ?_
  by_cases ho : o.isSome = true
  · rw [if_pos ho]
    refine z_C.if (fun h => absurd h (by decide)) (fun _ => ?_)
    refine z_C.go 3 rfl ?_
    by_cases hr : 1 ≤ aX D q ∧ aX D q ≤ 3
    · refine z_C.call rfl rfl (k_in (x := aNum D q) (a := 1) (b := 3) (Q := fun v' r => v' = v ∧ r = some (zI 1)) (fun _ => ⟨rfl, rfl⟩) (fun h9 => absurd (by rw [ean]; exact (in_rng (B := 3) hx (by decide)).mpr hr) h9)) (fun v' r h9 => ?_)
      obtain ⟨rfl, rfl⟩ := h9
      refine z_C.go 1 rfl ?_
      refine z_C.if (fun h => absurd h (by decide)) (fun _ => ?_)
      refine z_C.go 2 rfl ?_
      exact fin true ⟨fun _ => ⟨ho, hr⟩, fun _ => rfl⟩
    · refine z_C.call rfl rfl (k_in (x := aNum D q) (a := 1) (b := 3) (Q := fun v' r => v' = v ∧ r = some (zI 0)) (fun h9 => absurd ((in_rng (B := 3) hx (by decide)).mp (by rw [ean] at h9; exact h9)) hr) (fun _ => ⟨rfl, rfl⟩)) (fun v' r h9 => ?_)
      obtain ⟨rfl, rfl⟩ := h9
      refine z_C.go 1 rfl ?_
      refine z_C.if (fun _ => ?_) (fun h => absurd (by decide) h)
      refine z_C.go 1 rfl ?_
      exact fin false ⟨(fun h => by cases h), fun h9 => absurd h9.2 hr⟩
  · rw [if_neg ho]
    refine z_C.if (fun _ => ?_) (fun h => absurd (by decide) h)
    refine z_C.go 1 rfl ?_
    exact fin false ⟨(fun h => by cases h), fun h9 => absurd h9.1 ho⟩
theorem td_setPri (hd : mD len D v) (hg : aGood D len q) (h : mSet o v) (hc : D q = 33 ∧ aName D q = numL lPri) (hx : aX D q < 4294967296) (K : ∀ v', tF v v' → mSet (if 1 ≤ aX D q ∧ aX D q ≤ 100 then o.bind (fun S => some (updS S 3 (aX D q))) else none) v' → Q v' none) : mRun kX_told (85, [some (zR 0 0), some (zI (iN (D q))), some (zI (iN (q + 3))), some (zI (iN (sN D q))), some (zI (iN (sV D q))), some (zI (iN (sZ D q))), some (zI (aNum D q)), some (zI 250), none, none, none], [], v) Q := by
  have ean : aNum D q = iN (aX D q) := aNum_n (by omega)
  have fin : ∀ b : Bool, (b = true ↔ o.isSome = true ∧ 1 ≤ aX D q ∧ aX D q ≤ 100) → mRun kX_told (109, [some (zR 0 0), some (zI (iN (D q))), some (zI (iN (q + 3))), some (zI (iN (sN D q))), some (zI (iN (sV D q))), some (zI (iN (sZ D q))), some (zI (aNum D q)), some (zI 250), none, none, none], [zI (bI b), zR 0 0], v) Q := fun b hb => by
    have hbI : bI b = 0 ∨ bI b = 1 := by cases b; exact Or.inl rfl; exact Or.inr rfl
    refine z_C.go1 rfl (if_pos ⟨rfl, Or.inr hbI⟩) ?_
    refine z_C.go 8 rfl ?_
    have k9 := K (z_si (z_si v 0 0 18 (bI b)) 2 0 (250 + 3) (aNum D q)) ((tF.s (Or.inl rfl)).tr (tF.j (by decide))) (by
      have hp := h.put (k := 3) (x := aX D q) (y := aNum D q) (b := b) (by unfold inS; decide) (by decide) (fun hbt => ⟨(hb.mp hbt).1, ean⟩) (fun _ => trivial)
      by_cases hr : 1 ≤ aX D q ∧ aX D q ≤ 100
      · rw [if_pos hr]
        cases hbv : b with
        | true =>
          rw [hbv, if_pos rfl] at hp
          exact hp
        | false =>
          have ho : o = none := by
            cases ho : o with
            | none => rfl
            | some S => exact absurd (hb.mpr ⟨by rw [ho]; rfl, hr⟩) (by rw [hbv]; decide)
          rw [hbv, if_neg (by decide)] at hp
          rw [ho]
          exact hp
      · rw [if_neg hr]
        have hbv : b = false := by
          cases hbv : b with
          | false => rfl
          | true => exact absurd (hb.mp hbv).2 hr
        rw [hbv, if_neg (by decide)] at hp
        rw [hbv]
        exact hp)
    exact z_C.ret rfl rfl k9
  refine z_C.go 2 rfl ?_
  refine z_C.ld rfl rfl h.1 ?_
  refine z_C.go 1 rfl ?_
  by_cases ho : o.isSome = true
  · rw [if_pos ho]
    refine z_C.if (fun h => absurd h (by decide)) (fun _ => ?_)
    refine z_C.go 3 rfl ?_
    by_cases hr : 1 ≤ aX D q ∧ aX D q ≤ 100
    · refine z_C.call rfl rfl (k_in (x := aNum D q) (a := 1) (b := 100) (Q := fun v' r => v' = v ∧ r = some (zI 1)) (fun _ => ⟨rfl, rfl⟩) (fun h9 => absurd (by rw [ean]; exact (in_rng (B := 100) hx (by decide)).mpr hr) h9)) (fun v' r h9 => ?_)
      obtain ⟨rfl, rfl⟩ := h9
      refine z_C.go 1 rfl ?_
      refine z_C.if (fun h => absurd h (by decide)) (fun _ => ?_)
      refine z_C.go 2 rfl ?_
      exact fin true ⟨fun _ => ⟨ho, hr⟩, fun _ => rfl⟩
    · refine z_C.call rfl rfl (k_in (x := aNum D q) (a := 1) (b := 100) (Q := fun v' r => v' = v ∧ r = some (zI 0)) (fun h9 => absurd ((in_rng (B := 100) hx (by decide)).mp (by rw [ean] at h9; exact h9)) hr) (fun _ => ⟨rfl, rfl⟩)) (fun v' r h9 => ?_)
      obtain ⟨rfl, rfl⟩ := h9
      refine z_C.go 1 rfl ?_
      refine z_C.if (fun _ => ?_) (fun h => absurd (by decide) h)
      refine z_C.go 1 rfl ?_
      exact fin false ⟨(fun h => by cases h), fun h9 => absurd h9.2 hr⟩
  · rw [if_neg ho]
    refine z_C.if (fun _ => ?_) (fun h => absurd (by decide) h)
    refine z_C.go 1 rfl ?_
    exact fin false ⟨(fun h => by cases h), fun h9 => absurd h9.1 ho⟩
theorem td_setUp (hd : mD len D v) (hg : aGood D len q) (h : mSet o v) (hc : D q = 33 ∧ aName D q = numL lUp) (hx : aX D q < 4294967296) (K : ∀ v', tF v v' → mSet (if aX D q = 1 ∨ aX D q = 2 ∨ aX D q = 4 then o.bind (fun S => some (updS S 4 (aX D q))) else none) v' → Q v' none) : mRun kX_told (145, [some (zR 0 0), some (zI (iN (D q))), some (zI (iN (q + 3))), some (zI (iN (sN D q))), some (zI (iN (sV D q))), some (zI (iN (sZ D q))), some (zI (aNum D q)), some (zI 250), none, none, none], [], v) Q := by
  have ean : aNum D q = iN (aX D q) := aNum_n (by omega)
  have e1 : aNum D q = 1 ↔ aX D q = 1 := by rw [ean]; exact iN_eq32 (k := 1) hx (by decide)
  have e2 : aNum D q = 2 ↔ aX D q = 2 := by rw [ean]; exact iN_eq32 (k := 2) hx (by decide)
  have e4 : aNum D q = 4 ↔ aX D q = 4 := by rw [ean]; exact iN_eq32 (k := 4) hx (by decide)
  have fin : ∀ b : Bool, (b = true ↔ o.isSome = true ∧ (aX D q = 1 ∨ aX D q = 2 ∨ aX D q = 4)) → mRun kX_told (176, [some (zR 0 0), some (zI (iN (D q))), some (zI (iN (q + 3))), some (zI (iN (sN D q))), some (zI (iN (sV D q))), some (zI (iN (sZ D q))), some (zI (aNum D q)), some (zI 250), none, none, none], [zI (bI b), zR 0 0], v) Q := fun b hb => by
    have hbI : bI b = 0 ∨ bI b = 1 := by cases b; exact Or.inl rfl; exact Or.inr rfl
    refine z_C.go1 rfl (if_pos ⟨rfl, Or.inr hbI⟩) ?_
    refine z_C.go 11 rfl ?_
    have k9 := K (z_si (z_si (z_si v 0 0 18 (bI b)) 2 0 (250 + 4) (aNum D q)) 0 0 19 1) (((tF.s (Or.inl rfl)).tr (tF.j (by decide))).tr (tF.s (Or.inr rfl))) (by
      obtain ⟨h1, h2, h3⟩ := h
      refine ⟨?_, Or.inr rfl, fun S hS => ?_⟩
      · show bI b = _
        cases hbv : b with
        | true =>
          obtain ⟨b1, b2⟩ := hb.mp hbv
          rw [if_pos b2]
          cases ho : o with
          | none => rw [ho] at b1; cases b1
          | some S => rfl
        | false =>
          by_cases hr : aX D q = 1 ∨ aX D q = 2 ∨ aX D q = 4
          · rw [if_pos hr]
            cases ho : o with
            | none => rfl
            | some S => exact absurd (hb.mpr ⟨by rw [ho]; rfl, hr⟩) (by rw [hbv]; decide)
          · rw [if_neg hr]
            rfl
      · by_cases hr : aX D q = 1 ∨ aX D q = 2 ∨ aX D q = 4
        · rw [if_pos hr] at hS
          cases ho : o with
          | none => rw [ho] at hS; cases hS
          | some S0 =>
            rw [ho] at hS
            cases hS
            obtain ⟨g1, g2⟩ := h3 S0 ho
            refine ⟨fun j hj => ?_, fun h9 => absurd h9 (show ¬ (1 : Int32) = 0 by decide)⟩
            show (if 2 = 2 ∧ 0 = 0 ∧ 250 + j = 250 + 4 then aNum D q else v.1 2 0 (250 + j)) = iN (updS S0 4 (aX D q) j)
            unfold updS
            by_cases e : j = 4
            · rw [if_pos ⟨rfl, rfl, by omega⟩, if_pos e, ean]
            · rw [if_neg (fun h => by omega), if_neg e]
              exact g1 j hj
        · rw [if_neg hr] at hS
          cases hS)
    exact z_C.ret rfl rfl k9
  refine z_C.go 2 rfl ?_
  refine z_C.ld rfl rfl h.1 ?_
  refine z_C.go 1 rfl ?_
  by_cases ho : o.isSome = true
  · rw [if_pos ho]
    refine z_C.if (fun h => absurd h (by decide)) (fun _ => ?_)
    refine z_C.go 3 rfl ?_
    refine z_C.if (fun h => ?_) (fun h1 => ?_)
    · refine z_C.go 2 rfl ?_
      exact fin true ⟨fun _ => ⟨ho, Or.inl (e1.mp h)⟩, fun _ => rfl⟩
    · refine z_C.go 3 rfl ?_
      refine z_C.if (fun h => ?_) (fun h2 => ?_)
      · refine z_C.go 2 rfl ?_
        exact fin true ⟨fun _ => ⟨ho, Or.inr (Or.inl (e2.mp h))⟩, fun _ => rfl⟩
      · refine z_C.go 3 rfl ?_
        refine z_C.if (fun h => ?_) (fun h4 => ?_)
        · refine z_C.go 2 rfl ?_
          exact fin true ⟨fun _ => ⟨ho, Or.inr (Or.inr (e4.mp h))⟩, fun _ => rfl⟩
        · refine z_C.go 1 rfl ?_
          exact fin false ⟨(fun h => by cases h), fun h9 => by
            rcases h9.2 with h9 | h9 | h9
            · exact absurd (e1.mpr h9) h1
            · exact absurd (e2.mpr h9) h2
            · exact absurd (e4.mpr h9) h4⟩
  · rw [if_neg ho]
    refine z_C.if (fun _ => ?_) (fun h => absurd (by decide) h)
    refine z_C.go 1 rfl ?_
    exact fin false ⟨(fun h => by cases h), fun h9 => absurd h9.1 ho⟩
theorem td_setBoo (h : mSet o v) (hc : D q = 34 ∧ aName D q = numL lBoo) (K : ∀ v', tF v v' → mSet (o.bind (fun S => some (updS S 6 (aX D q)))) v' → Q v' none) : mRun kX_told (341, [some (zR 0 0), some (zI (iN (D q))), some (zI (iN (q + 3))), some (zI (iN (sN D q))), some (zI (iN (sV D q))), some (zI (iN (sZ D q))), some (zI (aNum D q)), some (zI 250), none, none, none], [], v) Q := by
  have ean : aNum D q = iN (aX D q) := aNum_n (by omega)
  refine z_C.go 8 rfl ?_
  have k9 := K (z_si v 2 0 (250 + 6) (aNum D q)) (tF.j (by decide)) (by
    obtain ⟨h1, h2, h3⟩ := h
    refine ⟨?_, h2, fun S hS => ?_⟩
    · cases ho : o with
      | none => rw [ho] at h1; exact h1
      | some S => rw [ho] at h1; exact h1
    · cases ho : o with
      | none => rw [ho] at hS; cases hS
      | some S0 =>
        rw [ho] at hS
        cases hS
        obtain ⟨g1, g2⟩ := h3 S0 ho
        refine ⟨fun j hj => ?_, fun h9 => ?_⟩
        · show (if 2 = 2 ∧ 0 = 0 ∧ 250 + j = 250 + 6 then aNum D q else v.1 2 0 (250 + j)) = iN (updS S0 6 (aX D q) j)
          unfold updS
          by_cases e : j = 6
          · rw [if_pos ⟨rfl, rfl, by omega⟩, if_pos e, ean]
          · rw [if_neg (fun h => by omega), if_neg e]
            exact g1 j hj
        · unfold updS
          rw [if_neg (by decide)]
          exact g2 h9)
  exact z_C.ret rfl rfl k9
theorem td_setHol (h : mSet o v) (hc : D q = 34 ∧ aName D q = numL lHol) (K : ∀ v', tF v v' → mSet (o.bind (fun S => some (updS S 9 (aX D q)))) v' → Q v' none) : mRun kX_told (375, [some (zR 0 0), some (zI (iN (D q))), some (zI (iN (q + 3))), some (zI (iN (sN D q))), some (zI (iN (sV D q))), some (zI (iN (sZ D q))), some (zI (aNum D q)), some (zI 250), none, none, none], [], v) Q := by
  have ean : aNum D q = iN (aX D q) := aNum_n (by omega)
  refine z_C.go 8 rfl ?_
  have k9 := K (z_si v 2 0 (250 + 9) (aNum D q)) (tF.j (by decide)) (by
    obtain ⟨h1, h2, h3⟩ := h
    refine ⟨?_, h2, fun S hS => ?_⟩
    · cases ho : o with
      | none => rw [ho] at h1; exact h1
      | some S => rw [ho] at h1; exact h1
    · cases ho : o with
      | none => rw [ho] at hS; cases hS
      | some S0 =>
        rw [ho] at hS
        cases hS
        obtain ⟨g1, g2⟩ := h3 S0 ho
        refine ⟨fun j hj => ?_, fun h9 => ?_⟩
        · show (if 2 = 2 ∧ 0 = 0 ∧ 250 + j = 250 + 9 then aNum D q else v.1 2 0 (250 + j)) = iN (updS S0 9 (aX D q) j)
          unfold updS
          by_cases e : j = 9
          · rw [if_pos ⟨rfl, rfl, by omega⟩, if_pos e, ean]
          · rw [if_neg (fun h => by omega), if_neg e]
            exact g1 j hj
        · unfold updS
          rw [if_neg (by decide)]
          exact g2 h9)
  exact z_C.ret rfl rfl k9
end TOLD
