/-! the reference writes a side -/
def mS (f : Nat → Int32) (v : z_W) : Prop := ∀ q, q < 48 → v.1 7 0 q = f q
theorem mS.ap {f : Nat → Int32} {v : z_W} {x : Int32} (h : mS f v) : mS f (mAp1 6 25 x v) := fun q hq => h q hq
theorem mS.app {f : Nat → Int32} : ∀ (l : List Int32) (v : z_W), mS f v → mS f (mApp 6 25 l v) := by
  intro l
  induction l with
  | nil => intro v h; exact h
  | cons x l ih => intro v h; exact ih _ h.ap
theorem m_send {L : Nat} {x : Int32} {v : z_W} {Q : z_W → Option z_V → Prop} (hL : v.1 0 0 25 = iN L) (hc : L < 300) (hq : Q (mAp1 6 25 x v) none) : mRun kX_send (0, [some (zR 0 0), some (zI x)], [], v) Q := by
  have i1 : z_in (v.1 0 0 25) 300 = true := by rw [hL]; exact iN_in hc (by omega)
  refine z_C.go 5 rfl ?_
  refine z_C.go1 rfl (if_pos ⟨rfl, i1⟩) ?_
  refine z_C.go 6 rfl ?_
  exact z_C.ret rfl rfl hq
theorem m_alk_loop {W y z : Nat} {f : Nat → Int32} {v : z_W} {Q : z_W → Option z_V → Prop} (hs : mS f v) (hW : W ≤ 8) (hy : y < 6) (hz : z < 6) : ∀ (d x : Nat) (s : Bool), x + d = W → Q v (some (zI (if (s && alkF f (y * W) (z * W) d x) = true then 1 else 0))) →
    mRun kX_alike (6, [some (zR 0 0), some (zI (iN W)), some (zI (iN y)), some (zI (iN z)), some (zI (if s = true then 1 else 0)), some (zI (iN x))], [], v) Q := by
  intro d
  induction d with
  | zero =>
    intro x s hx hq
    refine z_C.go 3 rfl ?_
    refine z_C.if (fun h => ?_) (fun h => absurd ((iN_le (by omega) (by omega)).mpr (by omega)) h)
    refine z_C.go 1 rfl ?_
    have e : (s && alkF f (y * W) (z * W) 0 x) = s := by cases s <;> rfl
    rw [e] at hq
    cases s
    · exact z_C.ret rfl rfl hq
    · exact z_C.ret rfl rfl hq
  | succ d ih =>
    intro x s hx hq
    have b1 := ix48 (y := y) (W := W) (x := x) (by omega) hW (by omega)
    have b2 := ix48 (y := z) (W := W) (x := x) (by omega) hW (by omega)
    have e1 : iN W * iN y + iN x = iN (y * W + x) := by rw [iN_mul, iN_add, Nat.mul_comm]
    have e2 : iN W * iN z + iN x = iN (z * W + x) := by rw [iN_mul, iN_add, Nat.mul_comm]
    have i1 : z_in (iN W * iN y + iN x) 48 = true := by rw [e1]; exact iN_in b1 (by omega)
    have i2 : z_in (iN W * iN z + iN x) 48 = true := by rw [e2]; exact iN_in b2 (by omega)
    have n1 : v.1 7 0 (iN W * iN y + iN x).toNatClampNeg = f (y * W + x) := by rw [e1, iN_nat (by omega)]; exact hs _ b1
    have n2 : v.1 7 0 (iN W * iN z + iN x).toNatClampNeg = f (z * W + x) := by rw [e2, iN_nat (by omega)]; exact hs _ b2
    refine z_C.go 3 rfl ?_
    refine z_C.if (fun h => absurd ((iN_le (by omega) (by omega)).mp h) (by omega)) (fun h => ?_)
    cases s with
    | false =>
      refine z_C.go 6 rfl ?_
      have k9 := ih (x + 1) false (by omega) hq
      rw [← iN_add x 1] at k9
      exact k9
    | true =>
      unfold alkF at hq
      refine z_C.go 9 rfl ?_
      refine z_C.go1 rfl (if_pos ⟨rfl, i1⟩) ?_
      refine z_C.go 7 rfl ?_
      refine z_C.go1 rfl (if_pos ⟨rfl, i2⟩) ?_
      refine z_C.go 1 rfl ?_
      refine z_C.if (fun h => ?_) (fun h => ?_)
      · have h : v.1 7 0 (iN W * iN y + iN x).toNatClampNeg = v.1 7 0 (iN W * iN z + iN x).toNatClampNeg := h
        rw [n1, n2] at h
        rw [if_pos h] at hq
        refine z_C.go 5 rfl ?_
        have k9 := ih (x + 1) true (by omega) hq
        rw [← iN_add x 1] at k9
        exact k9
      · have h : ¬ v.1 7 0 (iN W * iN y + iN x).toNatClampNeg = v.1 7 0 (iN W * iN z + iN x).toNatClampNeg := h
        rw [n1, n2] at h
        rw [if_neg h] at hq
        refine z_C.go 4 rfl ?_
        have k9 := ih (x + 1) false (by omega) hq
        rw [← iN_add x 1] at k9
        exact k9
theorem m_alk {W y z : Nat} {f : Nat → Int32} {v : z_W} {Q : z_W → Option z_V → Prop} (hs : mS f v) (hW : W ≤ 8) (hy : y < 6) (hz : z < 6) (hq : Q v (some (zI (if alkF f (y * W) (z * W) W 0 = true then 1 else 0)))) :
    mRun kX_alike (0, [some (zR 0 0), some (zI (iN W)), some (zI (iN y)), some (zI (iN z)), none, none], [], v) Q := by
  refine z_C.go 4 rfl ?_
  exact m_alk_loop hs hW hy hz W 0 true (by omega) hq
section MROW
variable {W r c : Nat} {f : Nat → Int32} {Q : z_W → Option z_V → Prop}
/-- the pixels of a run that are not alike -/
theorem m_rng {n : Nat} (hb : r * W + c + n ≤ 48) : ∀ (d k L : Nat) (v : z_W), k + d = n → mS f v → v.1 0 0 25 = iN L → L + d ≤ 300 →
    (∀ x, mRun kX_row (2, [some (zR 0 0), some (zI (iN W)), some (zI (iN r)), some (zI (iN (c + n))), some (zI (iN n)), x], [], mApp 6 25 (rngL f (r * W + c + k) d) v) Q) →
    mRun kX_row (159, [some (zR 0 0), some (zI (iN W)), some (zI (iN r)), some (zI (iN c)), some (zI (iN n)), some (zI (iN k))], [], v) Q := by
  intro d
  induction d with
  | zero =>
    intro k L v hk hs hL hc hq
    refine z_C.go 3 rfl ?_
    refine z_C.if (fun h => ?_) (fun h => absurd ((iN_le (by omega) (by omega)).mpr (by omega)) h)
    refine z_C.go 5 rfl ?_
    have k9 := hq (some (zI (iN k)))
    rw [← iN_add c n] at k9
    exact k9
  | succ d ih =>
    intro k L v hk hs hL hc hq
    have e1 : iN W * iN r + iN c + iN k = iN (r * W + c + k) := by rw [iN_mul, iN_add, iN_add, Nat.mul_comm]
    have i1 : z_in (iN W * iN r + iN c + iN k) 48 = true := by rw [e1]; exact iN_in (by omega) (by omega)
    have n1 : v.1 7 0 (iN W * iN r + iN c + iN k).toNatClampNeg = f (r * W + c + k) := by rw [e1, iN_nat (by omega)]; exact hs _ (by omega)
    refine z_C.go 3 rfl ?_
    refine z_C.if (fun h => absurd ((iN_le (by omega) (by omega)).mp h) (by omega)) (fun h => ?_)
    refine z_C.go 10 rfl ?_
    refine z_C.go1 rfl (if_pos ⟨rfl, i1⟩) ?_
    refine z_C.call rfl rfl (m_send (L := L) (x := v.1 7 0 (iN W * iN r + iN c + iN k).toNatClampNeg) (Q := fun w' r' => w' = mAp1 6 25 (f (r * W + c + k)) v ∧ r' = none) hL (by omega) ⟨by rw [n1], rfl⟩) (fun w' r' h => ?_)
    obtain ⟨rfl, rfl⟩ := h
    refine z_C.go 2 rfl ?_
    have k9 := ih (k + 1) (L + 1) (mAp1 6 25 (f (r * W + c + k)) v) (by omega) hs.ap (mAp1_len hL) (by omega) hq
    rw [← iN_add k 1] at k9
    exact k9
/-- behind the count of a run that is not alike -/
theorem m_unl {n L : Nat} {v : z_W} {x : Option z_V} (hn : 1 ≤ n) (hc8 : c + n ≤ 8) (hb : r * W + c + n ≤ 48) (hs : mS f v) (hL : v.1 0 0 25 = iN L) (hc : L + n + 1 ≤ 300)
    (hq : ∀ x, mRun kX_row (2, [some (zR 0 0), some (zI (iN W)), some (zI (iN r)), some (zI (iN (c + n))), some (zI (iN n)), x], [], mApp 6 25 ((if n = 1 then 0 else iN (257 - n)) :: rngL f (r * W + c) n) v) Q) :
    (iN n = 1 → mRun kX_row (159, [some (zR 0 0), some (zI (iN W)), some (zI (iN r)), some (zI (iN c)), some (zI (iN n)), some (zI 0)], [], mAp1 6 25 0 v) Q) ∧ (¬ iN n = 1 → mRun kX_row (159, [some (zR 0 0), some (zI (iN W)), some (zI (iN r)), some (zI (iN c)), some (zI (iN n)), some (zI 0)], [], mAp1 6 25 (257 - iN n) v) Q) := by
  have i1 : iN n = 1 ↔ n = 1 := iN_inj (b := 1) (by omega) (by decide)
  constructor
  · intro h
    rw [if_pos (i1.mp h)] at hq
    exact m_rng hb n 0 (L + 1) _ (by omega) hs.ap (mAp1_len hL) (by omega) hq
  · intro h
    rw [if_neg (fun h9 => h (i1.mpr h9))] at hq
    have e2 : 257 - iN n = iN (257 - n) := iN_sub (a := 257) (by omega)
    rw [e2]
    exact m_rng hb n 0 (L + 1) _ (by omega) hs.ap (mAp1_len hL) (by omega) hq
theorem m_un_loop {L : Nat} {v : z_W} (hW : W ≤ 8) (hr : r < 6) (hs : mS f v) (hL : v.1 0 0 25 = iN L) (hc : L + (W - c) + 1 ≤ 300)
    (hq : ∀ n x, n = unN f (r * W + c) (W - c - 1) 1 → mRun kX_row (2, [some (zR 0 0), some (zI (iN W)), some (zI (iN r)), some (zI (iN (c + n))), some (zI (iN n)), x], [], mApp 6 25 ((if n = 1 then 0 else iN (257 - n)) :: rngL f (r * W + c) n) v) Q) :
    ∀ (d n : Nat) (x : Option z_V), 1 ≤ n → c + n + d = W → unN f (r * W + c) d n = unN f (r * W + c) (W - c - 1) 1 → mRun kX_row (81, [some (zR 0 0), some (zI (iN W)), some (zI (iN r)), some (zI (iN c)), some (zI (iN n)), x], [], v) Q := by
  have hrW : r * W ≤ 5 * W := Nat.mul_le_mul_right _ (by omega)
  have fin : ∀ (n : Nat) (x : Option z_V), 1 ≤ n → c + n ≤ W → n = unN f (r * W + c) (W - c - 1) 1 → (iN n = 1 → mRun kX_row (159, [some (zR 0 0), some (zI (iN W)), some (zI (iN r)), some (zI (iN c)), some (zI (iN n)), some (zI 0)], [], mAp1 6 25 0 v) Q) ∧ (¬ iN n = 1 → mRun kX_row (159, [some (zR 0 0), some (zI (iN W)), some (zI (iN r)), some (zI (iN c)), some (zI (iN n)), some (zI 0)], [], mAp1 6 25 (257 - iN n) v) Q) :=
    fun n x h1 h2 h3 => m_unl (x := x) h1 (by omega) (by omega) hs hL (by omega) (fun x => hq n x h3)
  intro d
  induction d with
  | zero =>
    intro n x hn1 hn hu
    have e1 : iN c + iN n = iN (c + n) := iN_add c n
    obtain ⟨f1, f2⟩ := fin n x hn1 (by omega) hu
    refine z_C.go 5 rfl ?_
    refine z_C.if (fun h => ?_) (fun h => absurd (show iN W ≤ iN c + iN n by rw [e1]; exact (iN_le (by omega) (by omega)).mpr (by omega)) h)
    refine z_C.go 4 rfl ?_
    refine z_C.if (fun h => ?_) (fun h => ?_)
    · refine z_C.go 2 rfl ?_
      refine z_C.call rfl rfl (m_send (L := L) (Q := fun w' r' => w' = mAp1 6 25 0 v ∧ r' = none) hL (by omega) ⟨rfl, rfl⟩) (fun w' r' h => ?_)
      obtain ⟨rfl, rfl⟩ := h
      refine z_C.go 2 rfl ?_
      exact f1 h
    · refine z_C.go 3 rfl ?_
      refine z_C.call rfl rfl (m_send (L := L) (Q := fun w' r' => w' = mAp1 6 25 (257 - iN n) v ∧ r' = none) hL (by omega) ⟨rfl, rfl⟩) (fun w' r' h => ?_)
      obtain ⟨rfl, rfl⟩ := h
      refine z_C.go 2 rfl ?_
      exact f2 h
  | succ d ih =>
    intro n x hn1 hn hu
    have e1 : iN c + iN n = iN (c + n) := iN_add c n
    have e2 : iN c + iN n + 1 = iN (c + n + 1) := by rw [e1]; exact iN_add (c + n) 1
    refine z_C.go 5 rfl ?_
    refine z_C.if (fun h => ?_) (fun h => ?_)
    · have h : iN W ≤ iN c + iN n := h
      rw [e1, iN_le (by omega) (by omega)] at h
      omega
    refine z_C.go 7 rfl ?_
    match d, ih, hn, hu with
    | 0, ih, hn, hu =>
      refine z_C.if (fun h => ?_) (fun h => absurd (show iN W ≤ iN c + iN n + 1 by rw [e2]; exact (iN_le (by omega) (by omega)).mpr (by omega)) h)
      refine z_C.go 2 rfl ?_
      have k9 := ih (n + 1) x (by omega) (by omega) hu
      rw [← iN_add n 1] at k9
      exact k9
    | d + 1, ih, hn, hu =>
      refine z_C.if (fun h => ?_) (fun h => ?_)
      · have h : iN W ≤ iN c + iN n + 1 := h
        rw [e2, iN_le (by omega) (by omega)] at h
        omega
      have p1 : iN W * iN r + iN c + iN n = iN (r * W + c + n) := by rw [iN_mul, iN_add, iN_add, Nat.mul_comm]
      have p2 : iN W * iN r + iN c + iN n + 1 = iN (r * W + c + n + 1) := by rw [p1]; exact iN_add _ 1
      have i1 : z_in (iN W * iN r + iN c + iN n) 48 = true := by rw [p1]; exact iN_in (by omega) (by omega)
      have i2 : z_in (iN W * iN r + iN c + iN n + 1) 48 = true := by rw [p2]; exact iN_in (by omega) (by omega)
      have n1 : v.1 7 0 (iN W * iN r + iN c + iN n).toNatClampNeg = f (r * W + c + n) := by rw [p1, iN_nat (by omega)]; exact hs _ (by omega)
      have n2 : v.1 7 0 (iN W * iN r + iN c + iN n + 1).toNatClampNeg = f (r * W + c + n + 1) := by rw [p2, iN_nat (by omega)]; exact hs _ (by omega)
      have hu : (if f (r * W + c + n) = f (r * W + c + n + 1) then n else unN f (r * W + c) (d + 1) (n + 1)) = unN f (r * W + c) (W - c - 1) 1 := hu
      refine z_C.go 9 rfl ?_
      refine z_C.go1 rfl (if_pos ⟨rfl, i1⟩) ?_
      refine z_C.go 11 rfl ?_
      refine z_C.go1 rfl (if_pos ⟨rfl, i2⟩) ?_
      refine z_C.go 1 rfl ?_
      refine z_C.if (fun h => ?_) (fun h => ?_)
      · have h : v.1 7 0 (iN W * iN r + iN c + iN n).toNatClampNeg = v.1 7 0 (iN W * iN r + iN c + iN n + 1).toNatClampNeg := h
        rw [n1, n2] at h
        rw [if_pos h] at hu
        obtain ⟨f1, f2⟩ := fin n x hn1 (by omega) hu
        refine z_C.go 4 rfl ?_
        refine z_C.if (fun h => ?_) (fun h => ?_)
        · refine z_C.go 2 rfl ?_
          refine z_C.call rfl rfl (m_send (L := L) (Q := fun w' r' => w' = mAp1 6 25 0 v ∧ r' = none) hL (by omega) ⟨rfl, rfl⟩) (fun w' r' h => ?_)
          obtain ⟨rfl, rfl⟩ := h
          refine z_C.go 2 rfl ?_
          exact f1 h
        · refine z_C.go 3 rfl ?_
          refine z_C.call rfl rfl (m_send (L := L) (Q := fun w' r' => w' = mAp1 6 25 (257 - iN n) v ∧ r' = none) hL (by omega) ⟨rfl, rfl⟩) (fun w' r' h => ?_)
          obtain ⟨rfl, rfl⟩ := h
          refine z_C.go 2 rfl ?_
          exact f2 h
      · have h : ¬ v.1 7 0 (iN W * iN r + iN c + iN n).toNatClampNeg = v.1 7 0 (iN W * iN r + iN c + iN n + 1).toNatClampNeg := h
        rw [n1, n2] at h
        rw [if_neg h] at hu
        refine z_C.go 2 rfl ?_
        have k9 := ih (n + 1) x (by omega) (by omega) hu
        rw [← iN_add n 1] at k9
        exact k9
theorem m_eq_loop {L : Nat} {v : z_W} (hW : W ≤ 8) (hr : r < 6) (hs : mS f v) (hL : v.1 0 0 25 = iN L) (hc : L + 2 * (W - c) ≤ 300)
    (hq1 : ∀ n x, n = eqN f (r * W + c) (W - c - 1) 1 → 1 < n → mRun kX_row (2, [some (zR 0 0), some (zI (iN W)), some (zI (iN r)), some (zI (iN (c + n))), some (zI (iN n)), x], [], mApp 6 25 [iN (n - 1), f (r * W + c)] v) Q)
    (hq2 : ∀ n x, ¬ 1 < eqN f (r * W + c) (W - c - 1) 1 → n = unN f (r * W + c) (W - c - 1) 1 → mRun kX_row (2, [some (zR 0 0), some (zI (iN W)), some (zI (iN r)), some (zI (iN (c + n))), some (zI (iN n)), x], [], mApp 6 25 ((if n = 1 then 0 else iN (257 - n)) :: rngL f (r * W + c) n) v) Q) :
    ∀ (d n : Nat) (x : Option z_V), 1 ≤ n → c + n + d = W → eqN f (r * W + c) d n = eqN f (r * W + c) (W - c - 1) 1 → mRun kX_row (10, [some (zR 0 0), some (zI (iN W)), some (zI (iN r)), some (zI (iN c)), some (zI (iN n)), x], [], v) Q := by
  have hrW : r * W ≤ 5 * W := Nat.mul_le_mul_right _ (by omega)
  have fin : ∀ (n : Nat) (x : Option z_V), 1 ≤ n → c + n ≤ W → n = eqN f (r * W + c) (W - c - 1) 1 → (iN n ≤ 1 → mRun kX_row (81, [some (zR 0 0), some (zI (iN W)), some (zI (iN r)), some (zI (iN c)), some (zI (iN n)), x], [], v) Q) ∧ (¬ iN n ≤ 1 → mRun kX_row (60, [some (zR 0 0), some (zI (iN W)), some (zI (iN r)), some (zI (iN c)), some (zI (iN n)), x], [], v) Q → True) := by
    intro n x h1 h2 h3
    refine ⟨fun h => ?_, fun _ _ => trivial⟩
    have hn : n ≤ 1 := (iN_le (b := 1) (by omega) (by decide)).mp h
    have hn1 : n = 1 := by omega
    subst hn1
    exact m_un_loop hW hr hs hL (by omega) (fun m x hm => hq2 m x (by omega) hm) (W - c - 1) 1 x (by omega) (by omega) rfl
  have big : ∀ (n : Nat) (x : Option z_V), 1 ≤ n → c + n ≤ W → n = eqN f (r * W + c) (W - c - 1) 1 → ¬ iN n ≤ 1 → 1 < n ∧ z_in (iN W * iN r + iN c) 48 = true ∧ iN n - 1 = iN (n - 1) ∧ ∀ u : z_W, mS f u → u.1 7 0 (iN W * iN r + iN c).toNatClampNeg = f (r * W + c) := by
    intro n x h1 h2 h3 h
    have p1 : iN W * iN r + iN c = iN (r * W + c) := by rw [iN_mul, iN_add, Nat.mul_comm]
    refine ⟨?_, ?_, iN_sub (b := 1) h1, fun u hu => ?_⟩
    · exact Nat.lt_of_not_le (fun h9 => h ((iN_le (b := 1) (by omega) (by decide)).mpr h9))
    · rw [p1]; exact iN_in (by omega) (by omega)
    · rw [p1, iN_nat (by omega)]; exact hu _ (by omega)
  intro d
  induction d with
  | zero =>
    intro n x hn1 hn hu
    have e1 : iN c + iN n = iN (c + n) := iN_add c n
    have hu : n = eqN f (r * W + c) (W - c - 1) 1 := hu
    refine z_C.go 5 rfl ?_
    refine z_C.if (fun h => ?_) (fun h => absurd (show iN W ≤ iN c + iN n by rw [e1]; exact (iN_le (by omega) (by omega)).mpr (by omega)) h)
    refine z_C.go 3 rfl ?_
    refine z_C.if (fun h => (fin n x hn1 (by omega) hu).1 h) (fun h => ?_)
    obtain ⟨g1, g2, g3, g4⟩ := big n x hn1 (by omega) hu h
    refine z_C.go 4 rfl ?_
    rw [g3]
    refine z_C.call rfl rfl (m_send (L := L) (Q := fun w' r' => w' = mAp1 6 25 (iN (n - 1)) v ∧ r' = none) hL (by omega) ⟨rfl, rfl⟩) (fun w' r' h => ?_)
    obtain ⟨rfl, rfl⟩ := h
    refine z_C.go 8 rfl ?_
    refine z_C.go1 rfl (if_pos ⟨rfl, g2⟩) ?_
    refine z_C.call rfl rfl (m_send (L := L + 1) (x := (mAp1 6 25 (iN (n - 1)) v).1 7 0 (iN W * iN r + iN c).toNatClampNeg) (Q := fun w' r' => w' = mAp1 6 25 (f (r * W + c)) (mAp1 6 25 (iN (n - 1)) v) ∧ r' = none) (mAp1_len hL) (by omega) ⟨by rw [g4 _ hs.ap], rfl⟩) (fun w' r' h => ?_)
    obtain ⟨rfl, rfl⟩ := h
    refine z_C.go 6 rfl ?_
    have k9 := hq1 n x hu g1
    rw [← e1] at k9
    exact k9
  | succ d ih =>
    intro n x hn1 hn hu
    have e1 : iN c + iN n = iN (c + n) := iN_add c n
    have p1 : iN W * iN r + iN c + iN n = iN (r * W + c + n) := by rw [iN_mul, iN_add, iN_add, Nat.mul_comm]
    have p2 : iN W * iN r + iN c = iN (r * W + c) := by rw [iN_mul, iN_add, Nat.mul_comm]
    have i1 : z_in (iN W * iN r + iN c + iN n) 48 = true := by rw [p1]; exact iN_in (by omega) (by omega)
    have i2 : z_in (iN W * iN r + iN c) 48 = true := by rw [p2]; exact iN_in (by omega) (by omega)
    have n1 : v.1 7 0 (iN W * iN r + iN c + iN n).toNatClampNeg = f (r * W + c + n) := by rw [p1, iN_nat (by omega)]; exact hs _ (by omega)
    have n2 : v.1 7 0 (iN W * iN r + iN c).toNatClampNeg = f (r * W + c) := by rw [p2, iN_nat (by omega)]; exact hs _ (by omega)
    have hu : (if f (r * W + c + n) = f (r * W + c) then eqN f (r * W + c) d (n + 1) else n) = eqN f (r * W + c) (W - c - 1) 1 := hu
    refine z_C.go 5 rfl ?_
    refine z_C.if (fun h => ?_) (fun h => ?_)
    · have h : iN W ≤ iN c + iN n := h
      rw [e1, iN_le (by omega) (by omega)] at h
      omega
    refine z_C.go 9 rfl ?_
    refine z_C.go1 rfl (if_pos ⟨rfl, i1⟩) ?_
    refine z_C.go 7 rfl ?_
    refine z_C.go1 rfl (if_pos ⟨rfl, i2⟩) ?_
    refine z_C.go 1 rfl ?_
    refine z_C.if (fun h => ?_) (fun h => ?_)
    · have h : v.1 7 0 (iN W * iN r + iN c + iN n).toNatClampNeg = v.1 7 0 (iN W * iN r + iN c).toNatClampNeg := h
      rw [n1, n2] at h
      rw [if_pos h] at hu
      refine z_C.go 2 rfl ?_
      have k9 := ih (n + 1) x (by omega) (by omega) hu
      rw [← iN_add n 1] at k9
      exact k9
    · have h : ¬ v.1 7 0 (iN W * iN r + iN c + iN n).toNatClampNeg = v.1 7 0 (iN W * iN r + iN c).toNatClampNeg := h
      rw [n1, n2] at h
      rw [if_neg h] at hu
      refine z_C.go 3 rfl ?_
      refine z_C.if (fun h => (fin n x hn1 (by omega) hu).1 h) (fun h => ?_)
      obtain ⟨g1, g2, g3, g4⟩ := big n x hn1 (by omega) hu h
      refine z_C.go 4 rfl ?_
      rw [g3]
      refine z_C.call rfl rfl (m_send (L := L) (Q := fun w' r' => w' = mAp1 6 25 (iN (n - 1)) v ∧ r' = none) hL (by omega) ⟨rfl, rfl⟩) (fun w' r' h => ?_)
      obtain ⟨rfl, rfl⟩ := h
      refine z_C.go 8 rfl ?_
      refine z_C.go1 rfl (if_pos ⟨rfl, g2⟩) ?_
      refine z_C.call rfl rfl (m_send (L := L + 1) (x := (mAp1 6 25 (iN (n - 1)) v).1 7 0 (iN W * iN r + iN c).toNatClampNeg) (Q := fun w' r' => w' = mAp1 6 25 (f (r * W + c)) (mAp1 6 25 (iN (n - 1)) v) ∧ r' = none) (mAp1_len hL) (by omega) ⟨by rw [g4 _ hs.ap], rfl⟩) (fun w' r' h => ?_)
      obtain ⟨rfl, rfl⟩ := h
      refine z_C.go 6 rfl ?_
      have k9 := hq1 n x hu g1
      rw [← e1] at k9
      exact k9
end MROW
theorem m_row_loop {W r : Nat} {f : Nat → Int32} {Q : z_W → Option z_V → Prop} (hW : W ≤ 8) (hr : r < 6) : ∀ (u m c L : Nat) (v : z_W) (x y : Option z_V), c + m = W → m ≤ u → mS f v → v.1 0 0 25 = iN L → L + 2 * m ≤ 300 → Q (mApp 6 25 (rowE f u m (r * W + c)) v) none →
    mRun kX_row (2, [some (zR 0 0), some (zI (iN W)), some (zI (iN r)), some (zI (iN c)), x, y], [], v) Q := by
  intro u
  induction u with
  | zero =>
    intro m c L v x y hc hm hs hL hl hq
    refine z_C.go 3 rfl ?_
    refine z_C.if (fun h => ?_) (fun h => absurd ((iN_le (by omega) (by omega)).mpr (by omega)) h)
    exact z_C.ret rfl rfl hq
  | succ u ih =>
    intro m c L v x y hc hm hs hL hl hq
    unfold rowE at hq
    refine z_C.go 3 rfl ?_
    refine z_C.if (fun h => ?_) (fun h => ?_)
    · have h := (iN_le (by omega) (by omega)).mp h
      rw [if_pos (show m = 0 by omega)] at hq
      exact z_C.ret rfl rfl hq
    · have h0 : ¬ m = 0 := fun h9 => h ((iN_le (by omega) (by omega)).mpr (by omega))
      rw [if_neg h0] at hq
      refine z_C.go 2 rfl ?_
      have em : W - c - 1 = m - 1 := by omega
      have b1 := eqN_b f (r * W + c) (m - 1) 1
      have b2 := unN_b f (r * W + c) (m - 1) 1
      refine m_eq_loop hW hr hs hL (by omega) (fun n x hn h1 => ?_) (fun n x h1 hn => ?_) (W - c - 1) 1 y (by omega) (by omega) rfl
      · rw [em] at hn
        rw [← hn] at b1 hq
        rw [if_pos h1] at hq
        refine ih (m - n) (c + n) (L + 2) _ _ _ (by omega) (by omega) (mS.app _ _ hs) (mApp_len [iN (n - 1), f (r * W + c)] L v hL) (by omega) ?_
        rw [← Nat.add_assoc]
        exact hq
      · rw [em] at hn h1
        rw [if_neg h1] at hq
        rw [← hn] at b2 hq
        have hlen : ((if n = 1 then 0 else iN (257 - n)) :: rngL f (r * W + c) n).length = n + 1 := by show (rngL f (r * W + c) n).length + 1 = _; rw [rngL_len]
        refine ih (m - n) (c + n) (L + (n + 1)) _ _ _ (by omega) (by omega) (mS.app _ _ hs) (by rw [← hlen]; exact mApp_len _ L v hL) (by omega) ?_
        rw [← Nat.add_assoc, ← mApp_app]
        exact hq
theorem m_row {W r L : Nat} {f : Nat → Int32} {v : z_W} {Q : z_W → Option z_V → Prop} (hW : W ≤ 8) (hr : r < 6) (hs : mS f v) (hL : v.1 0 0 25 = iN L) (hl : L + 2 * W ≤ 300) (hq : Q (mApp 6 25 (rowE f W W (r * W)) v) none) :
    mRun kX_row (0, [some (zR 0 0), some (zI (iN W)), some (zI (iN r)), none, none, none], [], v) Q := by
  refine z_C.go 2 rfl ?_
  exact m_row_loop hW hr W W 0 L v _ _ (by omega) (Nat.le_refl _) hs hL hl hq
