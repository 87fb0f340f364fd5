/-! blocks are written -/
/-- d blocks with a stop set: is all written, how many are, which stop is left -/
def aW (d : Nat) (st : Option Nat) : Bool × Nat × Option Nat := match st with
  | none => (true, d, none)
  | some s => if d ≤ s then (true, d, some (s - d)) else (false, s, none)
def stopIs (st : Option Nat) (x : Int32) : Prop := match st with
  | none => x = -1
  | some s => x = iN s ∧ s < 2147483648
theorem aW_le {d s : Nat} (h : d ≤ s) : aW d (some s) = (true, d, some (s - d)) := if_pos h
theorem aW_gt {d s : Nat} (h : ¬ d ≤ s) : aW d (some s) = (false, s, none) := if_neg h
theorem aW_0 (st : Option Nat) : aW 0 st = (true, 0, st) := by
  cases st with
  | none => rfl
  | some s => exact aW_le (Nat.zero_le s)
theorem aW_s (d s : Nat) : (aW (d + 1) (some (s + 1))).1 = (aW d (some s)).1 ∧ (aW (d + 1) (some (s + 1))).2.1 = (aW d (some s)).2.1 + 1 ∧ (aW (d + 1) (some (s + 1))).2.2 = (aW d (some s)).2.2 := by
  by_cases h : d ≤ s
  · rw [aW_le h, aW_le (show d + 1 ≤ s + 1 by omega)]
    exact ⟨rfl, rfl, by show some (s + 1 - (d + 1)) = some (s - d); rw [Nat.add_sub_add_right]⟩
  · rw [aW_gt h, aW_gt (show ¬ d + 1 ≤ s + 1 by omega)]
    exact ⟨rfl, rfl, rfl⟩
/-- all but what the disk counts is as it was -/
def dFr (w w' : z_W) : Prop := (∀ g i k, ¬ (g = 11 ∧ i = 0 ∧ (k = 0 ∨ k = 2 ∨ k = 3)) → w'.1 g i k = w.1 g i k) ∧ w'.2 = w.2
theorem dFr.rf (w : z_W) : dFr w w := ⟨fun _ _ _ _ => rfl, rfl⟩
theorem dFr.tr {w w' w'' : z_W} (h1 : dFr w w') (h2 : dFr w' w'') : dFr w w'' := ⟨fun g i k hg => (h2.1 g i k hg).trans (h1.1 g i k hg), h2.2.trans h1.2⟩
theorem dFr.si {w : z_W} {k : Nat} {x : Int32} (hk : k = 0 ∨ k = 2 ∨ k = 3) : dFr w (z_si w 11 0 k x) := ⟨fun g i q hg => if_neg (fun h => hg ⟨h.1, h.2.1, by rw [h.2.2]; exact hk⟩), rfl⟩
theorem add_1_iN (x : Int32) (d : Nat) : x + 1 + iN d = x + iN (d + 1) := by
  rw [Int32.add_assoc]
  show x + (iN 1 + iN d) = _
  rw [iN_add, Nat.add_comm 1 d]
theorem e_write_loop {n : Nat} (hn : n ≤ 100) {Q : z_W → Option z_V → Prop} : ∀ (d i : Nat) (w : z_W) (st : Option Nat), i + d = n → stopIs st (w.1 11 0 3) →
    (∀ w', dFr w w' → w'.1 11 0 0 = w.1 11 0 0 + iN (aW d st).2.1 → stopIs (aW d st).2.2 (w'.1 11 0 3) → w'.1 11 0 2 = (if (aW d st).1 = true then w.1 11 0 2 else 0) → Q w' (some (zI (if (aW d st).1 = true then 1 else 0)))) →
    cRun kD_write (2, [some (zR 11 0), some (zI (iN n)), some (zI (iN i))], [], w) Q := by
  intro d
  induction d with
  | zero =>
    intro i w st hi hs hq
    rw [aW_0] at hq
    refine z_C.go 3 rfl ?_
    refine z_C.if (fun h => ?_) (fun h => absurd ((iN_le (by omega) (by omega)).mpr (by omega)) h)
    refine z_C.go 1 rfl ?_
    exact z_C.ret rfl rfl (hq w (dFr.rf w) (Int32.add_zero _).symm hs rfl)
  | succ d ih =>
    intro i w st hi hs hq
    have e : iN i + 1 = iN (i + 1) := iN_add i 1
    refine z_C.go 3 rfl ?_
    refine z_C.if (fun h => absurd ((iN_le (by omega) (by omega)).mp h) (by omega)) (fun _ => ?_)
    refine z_C.go 3 rfl ?_
    cases st with
    | none =>
      have hs : w.1 11 0 3 = -1 := hs
      refine z_C.if (fun h => ?_) (fun _ => ?_)
      · have h : w.1 11 0 3 = 0 := h
        rw [hs] at h
        cases h
      refine z_C.go 3 rfl ?_
      refine z_C.if (fun _ => ?_) (fun h => ?_)
      · refine z_C.go 8 rfl ?_
        have k9 := ih (i + 1) (z_si w 11 0 0 (w.1 11 0 0 + 1)) none (by omega) hs (fun w' g1 g2 g3 g4 => hq w' (dFr.tr (dFr.si (Or.inl rfl)) g1) (by rw [g2]; exact add_1_iN _ _) g3 g4)
        rw [← e] at k9
        exact k9
      · have h : ¬ w.1 11 0 3 ≤ 0 := h
        rw [hs] at h
        exact absurd (by decide) h
    | some s =>
      obtain ⟨hs, hs2⟩ := hs
      cases s with
      | zero =>
        refine z_C.if (fun _ => ?_) (fun h => absurd hs h)
        refine z_C.go 7 rfl ?_
        refine z_C.ret rfl rfl ?_
        have ea : aW (d + 1) (some 0) = (false, 0, none) := aW_gt (by omega)
        rw [ea] at hq
        exact hq _ (dFr.tr (dFr.si (Or.inr (Or.inr rfl))) (dFr.si (Or.inr (Or.inl rfl)))) (Int32.add_zero _).symm rfl rfl
      | succ s =>
        have hne : ¬ w.1 11 0 3 = 0 := by
          rw [hs]
          exact fun h => absurd ((iN_inj (b := 0) hs2 (by decide)).mp h) (by omega)
        refine z_C.if (fun h => absurd h hne) (fun _ => ?_)
        refine z_C.go 3 rfl ?_
        refine z_C.if (fun h => ?_) (fun _ => ?_)
        · have h : w.1 11 0 3 ≤ 0 := h
          rw [hs] at h
          exact absurd ((iN_le (b := 0) hs2 (by decide)).mp h) (by omega)
        refine z_C.go 14 rfl ?_
        obtain ⟨a1, a2, a3⟩ := aW_s d s
        rw [a1, a2, a3] at hq
        have k9 := ih (i + 1) (z_si (z_si w 11 0 3 (w.1 11 0 3 - 1)) 11 0 0 (w.1 11 0 0 + 1)) (some s) (by omega) ⟨by
          show w.1 11 0 3 - 1 = iN s
          rw [hs]
          exact iN_pred s, by omega⟩ (fun w' g1 g2 g3 g4 => hq w' (dFr.tr (dFr.tr (dFr.si (Or.inr (Or.inr rfl))) (dFr.si (Or.inl rfl))) g1) (by rw [g2]; exact add_1_iN _ _) g3 g4)
        rw [← e] at k9
        exact k9
theorem e_write {d : Nat} (hd : d ≤ 100) {w : z_W} {st : Option Nat} {Q : z_W → Option z_V → Prop} (hs : stopIs st (w.1 11 0 3)) (hq : ∀ w', dFr w w' → w'.1 11 0 0 = w.1 11 0 0 + iN (aW d st).2.1 → stopIs (aW d st).2.2 (w'.1 11 0 3) → w'.1 11 0 2 = (if (aW d st).1 = true then w.1 11 0 2 else 0) → Q w' (some (zI (if (aW d st).1 = true then 1 else 0)))) :
    cRun kD_write (0, [some (zR 11 0), some (zI (iN d)), none], [], w) Q := by
  refine z_C.go 2 rfl ?_
  exact e_write_loop hd d 0 w st (by omega) hs hq
/-! the reference goes down -/
def gd : Nat → Nat → z_W → z_W
  | 0, _, v => v
  | d + 1, i, v => gd d (i + 1) (z_si v 2 0 (10 * i + 8) (if v.1 2 0 (10 * i + 1) = 9 then v.1 2 0 (10 * i + 8) else 0))
theorem m_gd_loop {n : Nat} (hn2 : n ≤ 24) {Q : z_W → Option z_V → Prop} : ∀ (d i : Nat) (v : z_W), i + d = n → v.1 0 0 4 = iN n → Q (gd d i v) none → mRun kX_goDown (17, [some (zR 0 0), some (zI (iN i))], [], v) Q := by
  intro d
  induction d with
  | zero =>
    intro i v hi hn hq
    refine z_C.go 4 rfl ?_
    refine z_C.if (fun h => ?_) (fun h => ?_)
    · exact z_C.ret rfl rfl hq
    · have h : ¬ v.1 0 0 4 ≤ iN i := h
      rw [hn, iN_le (by omega) (by omega)] at h
      omega
  | succ d ih =>
    intro i v hi hn hq
    unfold gd at hq
    obtain ⟨-, i1, n1⟩ := j_ix (k := i) (f := 1) (by omega) (by omega)
    obtain ⟨-, i8, n8⟩ := j_ix (k := i) (f := 8) (by omega) (by omega)
    have e : iN i + 1 = iN (i + 1) := iN_add i 1
    refine z_C.go 4 rfl ?_
    refine z_C.if (fun h => ?_) (fun h => ?_)
    · have h : v.1 0 0 4 ≤ iN i := h
      rw [hn, iN_le (by omega) (by omega)] at h
      omega
    refine z_C.go 14 rfl ?_
    refine z_C.go1 rfl (if_pos ⟨rfl, i1⟩) ?_
    refine z_C.go 2 rfl ?_
    refine z_C.if (fun h => ?_) (fun h => ?_)
    · have h : v.1 2 0 (10 * iN i + iN 1).toNatClampNeg = 9 := h
      rw [n1] at h
      rw [if_pos h] at hq
      refine z_C.go 7 rfl ?_
      refine z_C.go1 rfl (if_pos ⟨rfl, i8⟩) ?_
      refine z_C.go 1 rfl ?_
      refine z_C.go1 rfl (if_pos ⟨rfl, i8⟩) ?_
      refine z_C.go 2 rfl ?_
      have k9 := ih (i + 1) (z_si v 2 0 (10 * i + 8) (v.1 2 0 (10 * i + 8))) (by omega) hn hq
      rw [← e, ← n8] at k9
      exact k9
    · have h : ¬ v.1 2 0 (10 * iN i + iN 1).toNatClampNeg = 9 := h
      rw [n1] at h
      rw [if_neg h] at hq
      refine z_C.go 1 rfl ?_
      refine z_C.go1 rfl (if_pos ⟨rfl, i8⟩) ?_
      refine z_C.go 2 rfl ?_
      have k9 := ih (i + 1) (z_si v 2 0 (10 * i + 8) 0) (by omega) hn hq
      rw [← e, ← n8] at k9
      exact k9
theorem gd_fr : ∀ (d i : Nat) (v : z_W), (gd d i v).2 = v.2 ∧ ∀ g a k, ¬ (g = 2 ∧ ∃ q, i ≤ q ∧ q < i + d ∧ k = 10 * q + 8) → (gd d i v).1 g a k = v.1 g a k := by
  intro d
  induction d with
  | zero => intro i v; exact ⟨rfl, fun _ _ _ _ => rfl⟩
  | succ d ih =>
    intro i v
    unfold gd
    obtain ⟨h1, h2⟩ := ih (i + 1) (z_si v 2 0 (10 * i + 8) (if v.1 2 0 (10 * i + 1) = 9 then v.1 2 0 (10 * i + 8) else 0))
    refine ⟨h1, fun g a k hg => ?_⟩
    rw [h2 g a k (fun h => hg ⟨h.1, by obtain ⟨q, q1, q2, q3⟩ := h.2; exact ⟨q, by omega, by omega, q3⟩⟩)]
    exact if_neg (fun h => hg ⟨h.1, i, Nat.le_refl _, by omega, h.2.2⟩)
theorem gd_in : ∀ (d i : Nat) (v : z_W) (k : Nat), i ≤ k → k < i + d → (gd d i v).1 2 0 (10 * k + 8) = if v.1 2 0 (10 * k + 1) = 9 then v.1 2 0 (10 * k + 8) else 0 := by
  intro d
  induction d with
  | zero => intro i v k h1 h2; omega
  | succ d ih =>
    intro i v k h1 h2
    unfold gd
    by_cases hk : k = i
    · subst hk
      rw [(gd_fr d (k + 1) _).2 2 0 (10 * k + 8) (fun h => by obtain ⟨q, q1, q2, q3⟩ := h.2; omega)]
      exact if_pos ⟨rfl, rfl, rfl⟩
    · rw [ih (i + 1) _ k (by omega) (by omega)]
      have e1 : ∀ x, (z_si v 2 0 (10 * i + 8) x).1 2 0 (10 * k + 1) = v.1 2 0 (10 * k + 1) := fun x => if_neg (fun h => by omega)
      have e8 : ∀ x, (z_si v 2 0 (10 * i + 8) x).1 2 0 (10 * k + 8) = v.1 2 0 (10 * k + 8) := fun x => if_neg (fun h => by omega)
      rw [e1, e8]
/-- what going down does to the reference -/
def gdn (n : Nat) (v : z_W) : z_W := gd n 0 (z_si (z_si (z_si v 0 0 1 1) 0 0 11 0) 0 0 23 (-1))
theorem m_goDown {n : Nat} {v : z_W} {Q : z_W → Option z_V → Prop} (hn2 : n ≤ 24) (hn : v.1 0 0 4 = iN n) (hq : Q (gdn n v) none) : mRun kX_goDown (0, [some (zR 0 0), none], [], v) Q := by
  refine z_C.go 11 rfl ?_
  exact m_gd_loop hn2 n 0 _ (by omega) hn hq
def stM (st : Option Nat) (v : z_W) : Prop := match st with
  | none => v.1 0 0 11 = 0
  | some s => v.1 0 0 11 = 1 ∧ v.1 0 0 12 = iN s ∧ s < 2147483648
def mFr (v v' : z_W) : Prop := (∀ g i k, ¬ (g = 0 ∧ i = 0 ∧ (k = 8 ∨ k = 12)) → v'.1 g i k = v.1 g i k) ∧ v'.2 = v.2
theorem mFr.rf (v : z_W) : mFr v v := ⟨fun _ _ _ _ => rfl, rfl⟩
theorem mFr.tr {v v' v'' : z_W} (h1 : mFr v v') (h2 : mFr v' v'') : mFr v v'' := ⟨fun g i k hg => (h2.1 g i k hg).trans (h1.1 g i k hg), h2.2.trans h1.2⟩
theorem mFr.si {v : z_W} {k : Nat} {x : Int32} (hk : k = 8 ∨ k = 12) : mFr v (z_si v 0 0 k x) := ⟨fun g i q hg => if_neg (fun h => hg ⟨h.1, h.2.1, by rw [h.2.2]; exact hk⟩), rfl⟩
theorem m_write_loop {n m : Nat} (hn : n ≤ 100) (hm : m ≤ 24) {Q : z_W → Option z_V → Prop} : ∀ (d i : Nat) (v : z_W) (st : Option Nat), i + d = n → v.1 0 0 4 = iN m → stM st v →
    (∀ v1, mFr v v1 → v1.1 0 0 8 = v.1 0 0 8 + iN (aW d st).2.1 → (aW d st).1 = true → stM (aW d st).2.2 v1 → Q v1 (some (zI 1))) →
    (∀ v1, mFr v v1 → v1.1 0 0 8 = v.1 0 0 8 + iN (aW d st).2.1 → ¬ (aW d st).1 = true → Q (gdn m v1) (some (zI 0))) →
    mRun kX_write (2, [some (zR 0 0), some (zI (iN n)), some (zI (iN i))], [], v) Q := by
  intro d
  induction d with
  | zero =>
    intro i v st hi h4 hs hq hf
    rw [aW_0] at hq
    refine z_C.go 3 rfl ?_
    refine z_C.if (fun h => ?_) (fun h => absurd ((iN_le (by omega) (by omega)).mpr (by omega)) h)
    refine z_C.go 1 rfl ?_
    exact z_C.ret rfl rfl (hq v (mFr.rf v) (Int32.add_zero _).symm rfl hs)
  | succ d ih =>
    intro i v st hi h4 hs hq hf
    have e : iN i + 1 = iN (i + 1) := iN_add i 1
    refine z_C.go 3 rfl ?_
    refine z_C.if (fun h => absurd ((iN_le (by omega) (by omega)).mp h) (by omega)) (fun _ => ?_)
    refine z_C.go 3 rfl ?_
    cases st with
    | none =>
      have hs : v.1 0 0 11 = 0 := hs
      refine z_C.if (fun _ => ?_) (fun h => absurd hs h)
      refine z_C.go 6 rfl ?_
      refine z_C.if (fun _ => ?_) (fun h => absurd hs h)
      refine z_C.go 11 rfl ?_
      have k9 := ih (i + 1) (z_si (z_si v 0 0 12 (v.1 0 0 12 - 0)) 0 0 8 (v.1 0 0 8 + 1)) none (by omega) h4 hs 
        (fun v1 g1 g2 g3 g4 => hq v1 (mFr.tr (mFr.tr (mFr.si (Or.inr rfl)) (mFr.si (Or.inl rfl))) g1) (by rw [g2]; exact add_1_iN _ _) rfl g4) (fun v1 g1 g2 g3 => absurd rfl g3)
      rw [← e] at k9
      exact k9
    | some s =>
      obtain ⟨hs, hs1, hs2⟩ := hs
      have hne : ¬ v.1 0 0 11 = 0 := by rw [hs]; decide
      refine z_C.if (fun h => absurd h hne) (fun _ => ?_)
      refine z_C.go 3 rfl ?_
      cases s with
      | zero =>
        refine z_C.if (fun _ => ?_) (fun h => absurd hs1 h)
        have ea : aW (d + 1) (some 0) = (false, 0, none) := aW_gt (by omega)
        rw [ea] at hf
        refine z_C.go 1 rfl ?_
        refine z_C.call rfl rfl (m_goDown (Q := fun w' r => w' = gdn m v ∧ r = none) hm h4 ⟨rfl, rfl⟩) (fun w' r h => ?_)
        obtain ⟨rfl, rfl⟩ := h
        refine z_C.go 1 rfl ?_
        exact z_C.ret rfl rfl (hf v (mFr.rf v) (Int32.add_zero _).symm (by decide))
      | succ s =>
        have h12 : ¬ v.1 0 0 12 = 0 := by
          rw [hs1]
          exact fun h => absurd ((iN_inj (b := 0) hs2 (by decide)).mp h) (by omega)
        refine z_C.if (fun h => absurd h h12) (fun _ => ?_)
        refine z_C.go 6 rfl ?_
        refine z_C.if (fun h => absurd h hne) (fun _ => ?_)
        refine z_C.go 12 rfl ?_
        obtain ⟨a1, a2, a3⟩ := aW_s d s
        rw [a1, a2, a3] at hq
        rw [a1, a2] at hf
        have k9 := ih (i + 1) (z_si (z_si v 0 0 12 (v.1 0 0 12 - 1)) 0 0 8 (v.1 0 0 8 + 1)) (some s) (by omega) h4 ⟨hs, by
          show v.1 0 0 12 - 1 = iN s
          rw [hs1]
          exact iN_pred s, by omega⟩
          (fun v1 g1 g2 g3 g4 => hq v1 (mFr.tr (mFr.tr (mFr.si (Or.inr rfl)) (mFr.si (Or.inl rfl))) g1) (by rw [g2]; exact add_1_iN _ _) g3 g4)
          (fun v1 g1 g2 g3 => hf v1 (mFr.tr (mFr.tr (mFr.si (Or.inr rfl)) (mFr.si (Or.inl rfl))) g1) (by rw [g2]; exact add_1_iN _ _) g3)
        rw [← e] at k9
        exact k9
theorem m_write {d m : Nat} (hd : d ≤ 100) (hm : m ≤ 24) {v : z_W} {st : Option Nat} {Q : z_W → Option z_V → Prop} (h4 : v.1 0 0 4 = iN m) (hs : stM st v)
    (hq : ∀ v1, mFr v v1 → v1.1 0 0 8 = v.1 0 0 8 + iN (aW d st).2.1 → (aW d st).1 = true → stM (aW d st).2.2 v1 → Q v1 (some (zI 1)))
    (hf : ∀ v1, mFr v v1 → v1.1 0 0 8 = v.1 0 0 8 + iN (aW d st).2.1 → ¬ (aW d st).1 = true → Q (gdn m v1) (some (zI 0))) : mRun kX_write (0, [some (zR 0 0), some (zI (iN d)), none], [], v) Q := by
  refine z_C.go 2 rfl ?_
  exact m_write_loop hd hm d 0 v st (by omega) h4 hs hq hf
