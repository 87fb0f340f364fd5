/-! the class writes a side -/
def cS (W H : Nat) (f : Nat → Int32) (w : z_W) : Prop := (w.1 14 0 6 = iN W ∧ w.1 14 0 7 = iN H) ∧ (W ≤ 8 ∧ H ≤ 6) ∧ ∀ q, q < 48 → w.1 15 0 q = f q
theorem cS.add {W H : Nat} {f : Nat → Int32} {w : z_W} {x : Int32} (h : cS W H f w) : cS W H f (bAdd 2 x w) := by
  obtain ⟨⟨h1, h2⟩, h3, h4⟩ := h
  have fr := (bAdd_fr (b := 2) (x := x) (w := w)).2
  exact ⟨⟨(fr 14 0 6 (by decide)).trans h1, (fr 14 0 7 (by decide)).trans h2⟩, h3, fun q hq => (fr 15 0 q (fun h => absurd h.1 (by decide))).trans (h4 q hq)⟩
theorem cS.app {W H : Nat} {f : Nat → Int32} : ∀ (l : List Int32) (w : z_W), cS W H f w → cS W H f (bApp 2 l w) := by
  intro l
  induction l with
  | nil => intro w h; exact h
  | cons x l ih => intro w h; exact ih _ h.add
theorem ix48 {y W x : Nat} (hy : y < 6) (hW : W ≤ 8) (hx : x < W) : y * W + x < 48 := by
  have h1 : y * W ≤ 5 * W := Nat.mul_le_mul_right _ (by omega)
  omega
theorem e_add2 {L : Nat} {x : Int32} {w : z_W} {Q : z_W → Option z_V → Prop} (hL : w.1 1 2 1 = iN L) (hc : L < 256) (hq : Q (bAdd 2 x w) none) : cRun kB_add (0, [some (zR 1 2), some (zI x)], [], w) Q := e_add hL (by omega) hq
theorem k_alk_loop {W H y z : Nat} {f : Nat → Int32} {w : z_W} {Q : z_W → Option z_V → Prop} (hs : cS W H f w) (hy : y < H) (hz : z < H) : ∀ (d x : Nat), x + d = W → Q w (some (zI (if alkF f (y * W) (z * W) d x = true then 1 else 0))) →
    z_C sC zM zCr kT_areRowsEqual (2, [some (zR 14 0), some (zI (iN y)), some (zI (iN z)), some (zI (iN x))], [], w) Q := by
  obtain ⟨⟨h6, h7⟩, ⟨hW, hH⟩, hf⟩ := hs
  intro d
  induction d with
  | zero =>
    intro x hx hq
    refine z_C.go 4 rfl ?_
    refine z_C.if (fun h => ?_) (fun h => ?_)
    · refine z_C.go 1 rfl ?_
      exact z_C.ret rfl rfl hq
    · have h : ¬ w.1 14 0 6 ≤ iN x := h
      rw [h6, iN_le (by omega) (by omega)] at h
      omega
  | succ d ih =>
    intro x hx hq
    unfold alkF at hq
    have b1 := ix48 (y := y) (W := W) (x := x) (by omega) hW (by omega)
    have b2 := ix48 (y := z) (W := W) (x := x) (by omega) hW (by omega)
    have e1 : iN y * w.1 14 0 6 + iN x = iN (y * W + x) := by rw [h6, iN_mul, iN_add]
    have e2 : iN z * w.1 14 0 6 + iN x = iN (z * W + x) := by rw [h6, iN_mul, iN_add]
    have i1 : z_in (iN y * w.1 14 0 6 + iN x) 48 = true := by rw [e1]; exact iN_in b1 (by omega)
    have i2 : z_in (iN z * w.1 14 0 6 + iN x) 48 = true := by rw [e2]; exact iN_in b2 (by omega)
    have n1 : w.1 15 0 (iN y * w.1 14 0 6 + iN x).toNatClampNeg = f (y * W + x) := by rw [e1, iN_nat (by omega)]; exact hf _ b1
    have n2 : w.1 15 0 (iN z * w.1 14 0 6 + iN x).toNatClampNeg = f (z * W + x) := by rw [e2, iN_nat (by omega)]; exact hf _ b2
    refine z_C.go 4 rfl ?_
    refine z_C.if (fun h => ?_) (fun h => ?_)
    · have h : w.1 14 0 6 ≤ iN x := h
      rw [h6, iN_le (by omega) (by omega)] at h
      omega
    refine z_C.go 8 rfl ?_
    refine z_C.go1 rfl (if_pos ⟨rfl, i1⟩) ?_
    refine z_C.go 8 rfl ?_
    refine z_C.go1 rfl (if_pos ⟨rfl, i2⟩) ?_
    refine z_C.go 1 rfl ?_
    refine z_C.if (fun h => ?_) (fun h => ?_)
    · have h : w.1 15 0 (iN y * w.1 14 0 6 + iN x).toNatClampNeg = w.1 15 0 (iN z * w.1 14 0 6 + iN x).toNatClampNeg := h
      rw [n1, n2] at h
      rw [if_pos h] at hq
      refine z_C.go 2 rfl ?_
      have k9 := ih (x + 1) (by omega) hq
      rw [← iN_add x 1] at k9
      exact k9
    · have h : ¬ w.1 15 0 (iN y * w.1 14 0 6 + iN x).toNatClampNeg = w.1 15 0 (iN z * w.1 14 0 6 + iN x).toNatClampNeg := h
      rw [n1, n2] at h
      rw [if_neg h] at hq
      refine z_C.go 1 rfl ?_
      exact z_C.ret rfl rfl hq
theorem k_alk {W H y z : Nat} {f : Nat → Int32} {w : z_W} {Q : z_W → Option z_V → Prop} (hs : cS W H f w) (hy : y < H) (hz : z < H) (hq : Q w (some (zI (if alkF f (y * W) (z * W) W 0 = true then 1 else 0)))) :
    z_C sC zM zCr kT_areRowsEqual (0, [some (zR 14 0), some (zI (iN y)), some (zI (iN z)), none], [], w) Q := by
  refine z_C.go 2 rfl ?_
  exact k_alk_loop hs hy hz W 0 (by omega) hq
theorem k_eqR_loop {W H y : Nat} {f : Nat → Int32} {w : z_W} {Q : z_W → Option z_V → Prop} (hs : cS W H f w) : ∀ (d n : Nat), y + n + d = H → Q w (some (zI (iN (eqRN f W y d n)))) →
    z_C sC zM zCr kT_equalRows (6, [some (zR 14 0), some (zI (iN y)), some (zI (iN n)), some (zI (iN (y + n)))], [], w) Q := by
  have hs' := hs
  obtain ⟨⟨h6, h7⟩, ⟨hW, hH⟩, hf⟩ := hs'
  intro d
  induction d with
  | zero =>
    intro n hn hq
    refine z_C.go 4 rfl ?_
    refine z_C.if (fun h => ?_) (fun h => ?_)
    · refine z_C.go 1 rfl ?_
      exact z_C.ret rfl rfl hq
    · have h : ¬ w.1 14 0 7 ≤ iN (y + n) := h
      rw [h7, iN_le (by omega) (by omega)] at h
      omega
  | succ d ih =>
    intro n hn hq
    unfold eqRN at hq
    refine z_C.go 4 rfl ?_
    refine z_C.if (fun h => ?_) (fun h => ?_)
    · have h : w.1 14 0 7 ≤ iN (y + n) := h
      rw [h7, iN_le (by omega) (by omega)] at h
      omega
    refine z_C.go 3 rfl ?_
    refine z_C.call rfl rfl (k_alk (y := y) (z := y + n) (Q := fun w' r => w' = w ∧ r = some (zI (if alkF f (y * W) ((y + n) * W) W 0 = true then 1 else 0))) hs (by omega) (by omega) ⟨rfl, rfl⟩) (fun w' r h => ?_)
    obtain ⟨rfl, rfl⟩ := h
    by_cases ha : alkF f (y * W) ((y + n) * W) W 0 = true
    · rw [if_pos ha] at hq ⊢
      refine z_C.go 4 rfl ?_
      have k9 := ih (n + 1) (by omega) hq
      rw [show y + (n + 1) = y + n + 1 by omega, ← iN_add n 1, ← iN_add (y + n) 1] at k9
      exact k9
    · rw [if_neg ha] at hq ⊢
      refine z_C.go 2 rfl ?_
      exact z_C.ret rfl rfl hq
theorem k_eqR {W H y : Nat} {f : Nat → Int32} {w : z_W} {Q : z_W → Option z_V → Prop} (hs : cS W H f w) (hy : y < H) (hq : Q w (some (zI (iN (eqRN f W y (H - y - 1) 1))))) :
    z_C sC zM zCr kT_equalRows (0, [some (zR 14 0), some (zI (iN y)), none, none], [], w) Q := by
  refine z_C.go 6 rfl ?_
  have k9 := k_eqR_loop (y := y) hs (H - y - 1) 1 (by omega) hq
  rw [← iN_add y 1] at k9
  exact k9
theorem k_eq_loop {W H a e : Nat} {f : Nat → Int32} {w : z_W} {Q : z_W → Option z_V → Prop} (hs : cS W H f w) (he : e ≤ 48) : ∀ (d n : Nat), 1 ≤ n → a + n + d = e → Q w (some (zI (iN (a + eqN f a d n)))) →
    z_C sC zM zCr kT_endOfEqual (9, [some (zR 14 0), some (zI (iN a)), some (zI (iN e)), some (zI (iN (a + n))), some (zI (iN (a + n)))], [], w) Q := by
  obtain ⟨⟨h6, h7⟩, ⟨hW, hH⟩, hf⟩ := hs
  intro d
  induction d with
  | zero =>
    intro n hn1 hn hq
    refine z_C.go 3 rfl ?_
    refine z_C.if (fun h => ?_) (fun h => absurd ((iN_le (by omega) (by omega)).mpr (by omega)) h)
    refine z_C.go 1 rfl ?_
    exact z_C.ret rfl rfl hq
  | succ d ih =>
    intro n hn1 hn hq
    unfold eqN at hq
    have i1 : z_in (iN (a + n)) 48 = true := iN_in (by omega) (by omega)
    have i2 : z_in (iN a) 48 = true := iN_in (by omega) (by omega)
    have n1 : w.1 15 0 (iN (a + n)).toNatClampNeg = f (a + n) := by rw [iN_nat (by omega)]; exact hf _ (by omega)
    have n2 : w.1 15 0 (iN a).toNatClampNeg = f a := by rw [iN_nat (by omega)]; exact hf _ (by omega)
    refine z_C.go 3 rfl ?_
    refine z_C.if (fun h => absurd ((iN_le (by omega) (by omega)).mp h) (by omega)) (fun h => ?_)
    refine z_C.go 3 rfl ?_
    refine z_C.go1 rfl (if_pos ⟨rfl, i1⟩) ?_
    refine z_C.go 3 rfl ?_
    refine z_C.go1 rfl (if_pos ⟨rfl, i2⟩) ?_
    refine z_C.go 1 rfl ?_
    refine z_C.if (fun h => ?_) (fun h => ?_)
    · have h : w.1 15 0 (iN (a + n)).toNatClampNeg = w.1 15 0 (iN a).toNatClampNeg := h
      rw [n1, n2] at h
      rw [if_pos h] at hq
      refine z_C.go 3 rfl ?_
      have k9 := ih (n + 1) (by omega) (by omega) hq
      rw [show a + (n + 1) = a + n + 1 by omega, ← iN_add (a + n) 1] at k9
      exact k9
    · have h : ¬ w.1 15 0 (iN (a + n)).toNatClampNeg = w.1 15 0 (iN a).toNatClampNeg := h
      rw [n1, n2] at h
      rw [if_neg h] at hq
      refine z_C.go 1 rfl ?_
      exact z_C.ret rfl rfl hq
theorem k_eq {W H a m : Nat} {f : Nat → Int32} {w : z_W} {Q : z_W → Option z_V → Prop} (hs : cS W H f w) (hm : 1 ≤ m) (he : a + m ≤ 48) (hq : Q w (some (zI (iN (a + eqN f a (m - 1) 1))))) :
    z_C sC zM zCr kT_endOfEqual (0, [some (zR 14 0), some (zI (iN a)), some (zI (iN (a + m))), none, none], [], w) Q := by
  refine z_C.go 8 rfl ?_
  have k9 := k_eq_loop (a := a) (e := a + m) hs he (m - 1) 1 (by omega) (by omega) hq
  rw [← iN_add a 1] at k9
  exact k9
theorem k_un_loop {W H a e : Nat} {f : Nat → Int32} {w : z_W} {Q : z_W → Option z_V → Prop} (hs : cS W H f w) (he : e ≤ 48) : ∀ (d n : Nat), a + n + d = e → Q w (some (zI (iN (a + unN f a d n)))) →
    z_C sC zM zCr kT_endOfUnlike (4, [some (zR 14 0), some (zI (iN a)), some (zI (iN e)), some (zI (iN (a + n)))], [], w) Q := by
  obtain ⟨⟨h6, h7⟩, ⟨hW, hH⟩, hf⟩ := hs
  intro d
  induction d with
  | zero =>
    intro n hn hq
    have e1 : iN (a + n) + 1 = iN (a + n + 1) := iN_add (a + n) 1
    refine z_C.go 5 rfl ?_
    refine z_C.if (fun h => ?_) (fun h => absurd (show iN e ≤ iN (a + n) + 1 by rw [e1]; exact (iN_le (by omega) (by omega)).mpr (by omega)) h)
    refine z_C.go 1 rfl ?_
    have hq : Q w (some (zI (iN (a + n)))) := hq
    rw [show a + n = e by omega] at hq
    exact z_C.ret rfl rfl hq
  | succ d ih =>
    intro n hn hq
    have e1 : iN (a + n) + 1 = iN (a + n + 1) := iN_add (a + n) 1
    match d, ih, hn, hq with
    | 0, _, hn, hq =>
      refine z_C.go 5 rfl ?_
      refine z_C.if (fun h => ?_) (fun h => absurd (show iN e ≤ iN (a + n) + 1 by rw [e1]; exact (iN_le (by omega) (by omega)).mpr (by omega)) h)
      refine z_C.go 1 rfl ?_
      have hq : Q w (some (zI (iN (a + (n + 1))))) := hq
      rw [show a + (n + 1) = e by omega] at hq
      exact z_C.ret rfl rfl hq
    | d + 1, ih, hn, hq =>
      unfold unN at hq
      have i1 : z_in (iN (a + n)) 48 = true := iN_in (by omega) (by omega)
      have i2 : z_in (iN (a + n) + 1) 48 = true := by rw [e1]; exact iN_in (by omega) (by omega)
      have n1 : w.1 15 0 (iN (a + n)).toNatClampNeg = f (a + n) := by rw [iN_nat (by omega)]; exact hf _ (by omega)
      have n2 : w.1 15 0 (iN (a + n) + 1).toNatClampNeg = f (a + n + 1) := by rw [e1, iN_nat (by omega)]; exact hf _ (by omega)
      refine z_C.go 5 rfl ?_
      refine z_C.if (fun h => ?_) (fun h => ?_)
      · have h : iN e ≤ iN (a + n) + 1 := h
        rw [e1, iN_le (by omega) (by omega)] at h
        omega
      refine z_C.go 3 rfl ?_
      refine z_C.go1 rfl (if_pos ⟨rfl, i1⟩) ?_
      refine z_C.go 5 rfl ?_
      refine z_C.go1 rfl (if_pos ⟨rfl, i2⟩) ?_
      refine z_C.go 1 rfl ?_
      refine z_C.if (fun h => ?_) (fun h => ?_)
      · have h : w.1 15 0 (iN (a + n)).toNatClampNeg = w.1 15 0 (iN (a + n) + 1).toNatClampNeg := h
        rw [n1, n2] at h
        rw [if_pos h] at hq
        refine z_C.go 1 rfl ?_
        exact z_C.ret rfl rfl hq
      · have h : ¬ w.1 15 0 (iN (a + n)).toNatClampNeg = w.1 15 0 (iN (a + n) + 1).toNatClampNeg := h
        rw [n1, n2] at h
        rw [if_neg h] at hq
        refine z_C.go 2 rfl ?_
        have k9 := ih (n + 1) (by omega) hq
        rw [show a + (n + 1) = a + n + 1 by omega, ← e1] at k9
        exact k9
theorem k_un {W H a m : Nat} {f : Nat → Int32} {w : z_W} {Q : z_W → Option z_V → Prop} (hs : cS W H f w) (hm : 1 ≤ m) (he : a + m ≤ 48) (hq : Q w (some (zI (iN (a + unN f a (m - 1) 1))))) :
    z_C sC zM zCr kT_endOfUnlike (0, [some (zR 14 0), some (zI (iN a)), some (zI (iN (a + m))), none], [], w) Q := by
  refine z_C.go 4 rfl ?_
  have k9 := k_un_loop (a := a) (e := a + m) hs he (m - 1) 1 (by omega) hq
  rw [← iN_add a 1] at k9
  exact k9
theorem e_rng_loop {W H e : Nat} {a x : Int32} {f : Nat → Int32} {Q : z_W → Option z_V → Prop} (he : e ≤ 48) : ∀ (d i L : Nat) (w : z_W), i + d = e → cS W H f w → w.1 1 2 1 = iN L → L + d ≤ 256 → Q (bApp 2 (rngL f i d) w) none →
    cRun kT_writeUnlike (28, [some (zR 14 0), some (zI a), some (zI (iN e)), some (zI x), some (zI (iN i))], [], w) Q := by
  intro d
  induction d with
  | zero =>
    intro i L w hi hs hL hc hq
    refine z_C.go 3 rfl ?_
    refine z_C.if (fun h => ?_) (fun h => absurd ((iN_le (by omega) (by omega)).mpr (by omega)) h)
    exact z_C.ret rfl rfl hq
  | succ d ih =>
    intro i L w hi hs hL hc hq
    have i1 : z_in (iN i) 48 = true := iN_in (by omega) (by omega)
    have n1 : w.1 15 0 (iN i).toNatClampNeg = f i := by rw [iN_nat (by omega)]; exact hs.2.2 _ (by omega)
    refine z_C.go 3 rfl ?_
    refine z_C.if (fun h => absurd ((iN_le (by omega) (by omega)).mp h) (by omega)) (fun h => ?_)
    refine z_C.go 5 rfl ?_
    refine z_C.go1 rfl (if_pos ⟨rfl, i1⟩) ?_
    refine z_C.call rfl rfl (e_add2 (L := L) (x := w.1 15 0 (iN i).toNatClampNeg) (Q := fun w' r => w' = bAdd 2 (f i) w ∧ r = none) hL (by omega) ⟨by rw [n1], rfl⟩) (fun w' r h => ?_)
    obtain ⟨rfl, rfl⟩ := h
    refine z_C.go 2 rfl ?_
    have k9 := ih (i + 1) (L + 1) (bAdd 2 (f i) w) (by omega) hs.add (bAdd_lenI hL (show L < 256 by omega)) (by omega) hq
    rw [← iN_add i 1] at k9
    exact k9
theorem e_unl {W H a n L : Nat} {f : Nat → Int32} {w : z_W} {Q : z_W → Option z_V → Prop} (hs : cS W H f w) (hn : 1 ≤ n) (he : a + n ≤ 48) (hL : w.1 1 2 1 = iN L) (hc : L + n + 1 ≤ 256) (hq : Q (bApp 2 ((if n = 1 then 0 else iN (257 - n)) :: rngL f a n) w) none) :
    cRun kT_writeUnlike (0, [some (zR 14 0), some (zI (iN a)), some (zI (iN (a + n))), none, none], [], w) Q := by
  have e1 : iN (a + n) - iN a = iN n := by rw [iN_sub (by omega), Nat.add_sub_cancel_left]
  have i1 : iN (a + n) - iN a = 1 ↔ n = 1 := by rw [e1]; exact iN_inj (b := 1) (by omega) (by decide)
  refine z_C.go 9 rfl ?_
  refine z_C.if (fun h => ?_) (fun h => ?_)
  · rw [if_pos (i1.mp h)] at hq
    refine z_C.go 2 rfl ?_
    refine z_C.call rfl rfl (e_add2 (L := L) (Q := fun w' r => w' = bAdd 2 0 w ∧ r = none) hL (by omega) ⟨rfl, rfl⟩) (fun w' r h => ?_)
    obtain ⟨rfl, rfl⟩ := h
    refine z_C.go 2 rfl ?_
    exact e_rng_loop he n a (L + 1) _ rfl hs.add (bAdd_lenI hL (show L < 256 by omega)) (by omega) hq
  · rw [if_neg (fun h9 => h (i1.mpr h9))] at hq
    refine z_C.go 3 rfl ?_
    have e2 : 257 - (iN (a + n) - iN a) = iN (257 - n) := by rw [e1]; exact iN_sub (a := 257) (by omega)
    rw [e2]
    refine z_C.call rfl rfl (e_add2 (L := L) (Q := fun w' r => w' = bAdd 2 (iN (257 - n)) w ∧ r = none) hL (by omega) ⟨rfl, rfl⟩) (fun w' r h => ?_)
    obtain ⟨rfl, rfl⟩ := h
    refine z_C.go 2 rfl ?_
    exact e_rng_loop he n a (L + 1) _ rfl hs.add (bAdd_lenI hL (show L < 256 by omega)) (by omega) hq
theorem e_row_loop {W H e : Nat} {s : Int32} {f : Nat → Int32} {Q : z_W → Option z_V → Prop} (he : e ≤ 48) : ∀ (u i m a L : Nat) (w : z_W) (x : Option z_V), i + u = W → a + m = e → m ≤ u → cS W H f w → w.1 1 2 1 = iN L → L + 2 * m ≤ 256 → Q (bApp 2 (rowE f u m a) w) none →
    cRun kT_writeRow (12, [some (zR 14 0), some (zI s), some (zI (iN e)), some (zI (iN a)), some (zI (iN i)), x], [], w) Q := by
  intro u
  induction u with
  | zero =>
    intro i m a L w x hi ha hm hs hL hc hq
    have hs' := hs
    obtain ⟨⟨h6, h7⟩, ⟨hW, hH⟩, hf⟩ := hs'
    refine z_C.go 4 rfl ?_
    refine z_C.if (fun h => ?_) (fun h => ?_)
    · exact z_C.ret rfl rfl hq
    · have h : ¬ w.1 14 0 6 ≤ iN i := h
      rw [h6, iN_le (by omega) (by omega)] at h
      omega
  | succ u ih =>
    intro i m a L w x hi ha hm hs hL hc hq
    have hs' := hs
    obtain ⟨⟨h6, h7⟩, ⟨hW, hH⟩, hf⟩ := hs'
    unfold rowE at hq
    refine z_C.go 4 rfl ?_
    refine z_C.if (fun h => ?_) (fun h => ?_)
    · have h : w.1 14 0 6 ≤ iN i := h
      rw [h6, iN_le (by omega) (by omega)] at h
      omega
    refine z_C.go 3 rfl ?_
    refine z_C.if (fun h => ?_) (fun h => ?_)
    · have h0 : m = 0 := by
        have := (iN_le (by omega) (by omega)).mp h
        omega
      rw [if_pos h0] at hq
      exact z_C.ret rfl rfl hq
    · have h0 : ¬ m = 0 := fun h9 => h ((iN_le (by omega) (by omega)).mpr (by omega))
      rw [if_neg h0] at hq
      subst ha
      have b1 := eqN_b f a (m - 1) 1
      have b2 := unN_b f a (m - 1) 1
      refine z_C.go 3 rfl ?_
      refine z_C.call rfl rfl (zC_up (C' := zC) (k_eq (a := a) (m := m) (Q := fun w' r => w' = w ∧ r = some (zI (iN (a + eqN f a (m - 1) 1)))) hs (by omega) he ⟨rfl, rfl⟩)) (fun w' r h => ?_)
      obtain ⟨rfl, rfl⟩ := h
      have ed : iN (a + eqN f a (m - 1) 1) - iN a = iN (eqN f a (m - 1) 1) := by rw [iN_sub (by omega), Nat.add_sub_cancel_left]
      refine z_C.go 6 rfl ?_
      refine z_C.if (fun h => ?_) (fun h => ?_)
      · have h : iN (a + eqN f a (m - 1) 1) - iN a ≤ 1 := h
        rw [ed] at h
        have h1 : eqN f a (m - 1) 1 ≤ 1 := (iN_le (b := 1) (by omega) (by decide)).mp h
        rw [if_neg (by omega)] at hq
        generalize hn : unN f a (m - 1) 1 = n at hq b2
        refine z_C.go 3 rfl ?_
        refine z_C.call rfl rfl (zC_up (C' := zC) (k_un (a := a) (m := m) (Q := fun w2 r => w2 = w' ∧ r = some (zI (iN (a + n)))) hs (by omega) he ⟨rfl, by rw [hn]⟩)) (fun w2 r h => ?_)
        obtain ⟨rfl, rfl⟩ := h
        refine z_C.go 4 rfl ?_
        refine z_C.call rfl rfl (e_unl (a := a) (n := n) (L := L) (Q := fun w3 r => w3 = bApp 2 ((if n = 1 then 0 else iN (257 - n)) :: rngL f a n) w2 ∧ r = none) hs (by omega) (by omega) hL (by omega) ⟨rfl, rfl⟩) (fun w3 r h => ?_)
        obtain ⟨rfl, rfl⟩ := h
        refine z_C.go 4 rfl ?_
        have hl : ((if n = 1 then 0 else iN (257 - n)) :: rngL f a n).length = n + 1 := by show (rngL f a n).length + 1 = _; rw [rngL_len]
        have k9 := ih (i + 1) (m - n) (a + n) (L + (n + 1)) (bApp 2 ((if n = 1 then 0 else iN (257 - n)) :: rngL f a n) w2) (some (zI (iN (a + n)))) (by omega) (by omega) (by omega) (cS.app _ _ hs) (by rw [← hl]; exact bApp_len _ L w2 hL (by rw [hl]; show _ ≤ 256; omega)) (by omega) (by
          rw [← bApp_app]
          exact hq)
        rw [← iN_add i 1] at k9
        exact k9
      · have h : ¬ iN (a + eqN f a (m - 1) 1) - iN a ≤ 1 := h
        rw [ed] at h
        have h1 : 1 < eqN f a (m - 1) 1 := by
          refine Nat.lt_of_not_le (fun h9 => h ?_)
          exact (iN_le (b := 1) (by omega) (by decide)).mpr h9
        rw [if_pos h1] at hq
        generalize hn : eqN f a (m - 1) 1 = n at hq b1 h1 ed
        have e2 : iN (a + n) - iN a - 1 = iN (n - 1) := by rw [ed]; exact iN_sub (b := 1) (by omega)
        have i1 : z_in (iN a) 48 = true := iN_in (by omega) (by omega)
        refine z_C.go 7 rfl ?_
        rw [e2]
        refine z_C.call rfl rfl (e_add2 (L := L) (Q := fun w2 r => w2 = bAdd 2 (iN (n - 1)) w' ∧ r = none) hL (by omega) ⟨rfl, rfl⟩) (fun w2 r h => ?_)
        obtain ⟨rfl, rfl⟩ := h
        have hs2 : cS W H f (bAdd 2 (iN (n - 1)) w') := hs.add
        have hL2 : (bAdd 2 (iN (n - 1)) w').1 1 2 1 = iN (L + 1) := bAdd_lenI hL (show L < 256 by omega)
        have n1 : (bAdd 2 (iN (n - 1)) w').1 15 0 (iN a).toNatClampNeg = f a := by rw [iN_nat (by omega)]; exact hs2.2.2 _ (by omega)
        refine z_C.go 5 rfl ?_
        refine z_C.go1 rfl (if_pos ⟨rfl, i1⟩) ?_
        refine z_C.call rfl rfl (e_add2 (L := L + 1) (x := (bAdd 2 (iN (n - 1)) w').1 15 0 (iN a).toNatClampNeg) (Q := fun w3 r => w3 = bAdd 2 (f a) (bAdd 2 (iN (n - 1)) w') ∧ r = none) hL2 (by omega) ⟨by rw [n1], rfl⟩) (fun w3 r h => ?_)
        obtain ⟨rfl, rfl⟩ := h
        refine z_C.go 5 rfl ?_
        have k9 := ih (i + 1) (m - n) (a + n) (L + 1 + 1) (bAdd 2 (f a) (bAdd 2 (iN (n - 1)) w')) (some (zI (iN (a + n)))) (by omega) (by omega) (by omega) hs2.add (bAdd_lenI hL2 (show L + 1 < 256 by omega)) (by omega) hq
        rw [← iN_add i 1] at k9
        exact k9
theorem e_row {W H s L : Nat} {f : Nat → Int32} {w : z_W} {Q : z_W → Option z_V → Prop} (hs : cS W H f w) (he : s + W ≤ 48) (hL : w.1 1 2 1 = iN L) (hc : L + 2 * W ≤ 256) (hq : Q (bApp 2 (rowE f W W s) w) none) :
    cRun kT_writeRow (0, [some (zR 14 0), some (zI (iN s)), none, none, none, none], [], w) Q := by
  have hW := hs.2.1.1
  have h6 := hs.1.1
  refine z_C.go 9 rfl ?_
  have k9 := e_row_loop (s := iN s) he W 0 W s L w none (by omega) rfl (Nat.le_refl _) hs hL hc hq
  rw [← iN_add s W, ← h6] at k9
  exact k9
theorem e_side_loop {W H : Nat} {f : Nat → Int32} {Q : z_W → Option z_V → Prop} : ∀ (u i m y L : Nat) (w : z_W) (x : Option z_V), i + u = H → y + m = H → m ≤ u → cS W H f w → w.1 1 2 1 = iN L → L + m * (2 * W + 1) ≤ 256 → Q (bApp 2 (sideE f W u m y) w) none →
    cRun kT_writeSide (4, [some (zR 14 0), some (zI (iN y)), some (zI (iN i)), x], [], w) Q := by
  intro u
  induction u with
  | zero =>
    intro i m y L w x hi ha hm hs hL hc hq
    have hs' := hs
    obtain ⟨⟨h6, h7⟩, ⟨hW, hH⟩, hf⟩ := hs'
    refine z_C.go 4 rfl ?_
    refine z_C.if (fun h => ?_) (fun h => ?_)
    · exact z_C.ret rfl rfl hq
    · have h : ¬ w.1 14 0 7 ≤ iN i := h
      rw [h7, iN_le (by omega) (by omega)] at h
      omega
  | succ u ih =>
    intro i m y L w x hi ha hm hs hL hc hq
    have hs' := hs
    obtain ⟨⟨h6, h7⟩, ⟨hW, hH⟩, hf⟩ := hs'
    unfold sideE at hq
    refine z_C.go 4 rfl ?_
    refine z_C.if (fun h => ?_) (fun h => ?_)
    · have h : w.1 14 0 7 ≤ iN i := h
      rw [h7, iN_le (by omega) (by omega)] at h
      omega
    refine z_C.go 4 rfl ?_
    refine z_C.if (fun h => ?_) (fun h => ?_)
    · have h : w.1 14 0 7 ≤ iN y := h
      rw [h7, iN_le (by omega) (by omega)] at h
      rw [if_pos (show m = 0 by omega)] at hq
      exact z_C.ret rfl rfl hq
    · have h : ¬ w.1 14 0 7 ≤ iN y := h
      rw [h7, iN_le (by omega) (by omega)] at h
      have h0 : ¬ m = 0 := by omega
      rw [if_neg h0] at hq
      have em : H - y - 1 = m - 1 := by omega
      have b1 := eqRN_b f W y (m - 1) 1
      have hm1 : m * (2 * W + 1) = (m - 1) * (2 * W + 1) + (2 * W + 1) := by
        obtain ⟨k, rfl⟩ : ∃ k, m = k + 1 := ⟨m - 1, by omega⟩
        rw [Nat.add_sub_cancel, Nat.add_mul, Nat.one_mul]
      refine z_C.go 2 rfl ?_
      generalize hn : eqRN f W y (m - 1) 1 = n at hq b1
      refine z_C.call rfl rfl (zC_up (C' := zC) (k_eqR (y := y) (Q := fun w' r => w' = w ∧ r = some (zI (iN n))) hs (by omega) ⟨rfl, by rw [em, hn]⟩)) (fun w' r h => ?_)
      obtain ⟨rfl, rfl⟩ := h
      have e2 : iN n - 1 = iN (n - 1) := iN_sub (b := 1) (by omega)
      refine z_C.go 6 rfl ?_
      rw [e2]
      refine z_C.call rfl rfl (e_add2 (L := L) (Q := fun w2 r => w2 = bAdd 2 (iN (n - 1)) w' ∧ r = none) hL (by omega) ⟨rfl, rfl⟩) (fun w2 r h => ?_)
      obtain ⟨rfl, rfl⟩ := h
      have hs2 : cS W H f (bAdd 2 (iN (n - 1)) w') := hs.add
      have hL2 : (bAdd 2 (iN (n - 1)) w').1 1 2 1 = iN (L + 1) := bAdd_lenI hL (show L < 256 by omega)
      have ey : iN y * (bAdd 2 (iN (n - 1)) w').1 14 0 6 = iN (y * W) := by rw [hs2.1.1, iN_mul]
      have hyW : y * W ≤ 5 * W := Nat.mul_le_mul_right _ (by omega)
      refine z_C.go 5 rfl ?_
      rw [ey]
      refine z_C.call rfl rfl (e_row (s := y * W) (L := L + 1) (Q := fun w3 r => w3 = bApp 2 (rowE f W W (y * W)) (bAdd 2 (iN (n - 1)) w') ∧ r = none) hs2 (by omega) hL2 (by omega) ⟨rfl, rfl⟩) (fun w3 r h => ?_)
      obtain ⟨rfl, rfl⟩ := h
      have hr := rowE_len f W W (y * W)
      have hmn : (m - n) * (2 * W + 1) ≤ (m - 1) * (2 * W + 1) := Nat.mul_le_mul_right _ (by omega)
      refine z_C.go 6 rfl ?_
      have k9 := ih (i + 1) (m - n) (y + n) (L + 1 + (rowE f W W (y * W)).length) (bApp 2 (rowE f W W (y * W)) (bAdd 2 (iN (n - 1)) w')) (some (zI (iN n))) (by omega) (by omega) (by omega) (cS.app _ _ hs2) (bApp_len _ (L + 1) _ hL2 (show _ ≤ 256 by omega)) (by omega) (by
        rw [← bApp_app]
        exact hq)
      rw [← iN_add i 1, ← iN_add y n] at k9
      exact k9
theorem e_side {W H L : Nat} {f : Nat → Int32} {w : z_W} {Q : z_W → Option z_V → Prop} (hs : cS W H f w) (hL : w.1 1 2 1 = iN L) (hc : L + H * (2 * W + 1) ≤ 256) (hq : Q (bApp 2 (sideE f W H H 0) w) none) :
    cRun kT_writeSide (0, [some (zR 14 0), none, none, none], [], w) Q := by
  refine z_C.go 4 rfl ?_
  exact e_side_loop H 0 H 0 L w none (by omega) (by omega) (Nat.le_refl _) hs hL hc hq
