/-! calls that keep the relation: reply, sheet, count, stop, restart -/
theorem atR_eq {f g : Nat → Int32} {a : Nat} {r i : Int32} (ha : a ≤ 512) (hr : r = iN a ∨ (a = 0 ∧ r = -1)) (h : ∀ k, k < a → f k = g k) : atR f (iN a) i = atR g r i := by
  unfold atR
  by_cases h0 : 0 ≤ i
  · obtain ⟨e1, e2⟩ := iN_of h0
    generalize i.toInt.toNat = k at e1 e2
    subst e1
    by_cases hk : k < a
    · rcases hr with rfl | ⟨rfl, -⟩
      · rw [if_pos ⟨h0, (iN_lt e2 (by omega)).mpr hk⟩, if_pos ⟨h0, (iN_lt e2 (by omega)).mpr hk⟩, iN_nat e2]
        exact h k hk
      · omega
    · rw [if_neg (fun h9 => hk ((iN_lt e2 (by omega)).mp h9.2))]
      rcases hr with rfl | ⟨rfl, rfl⟩
      · rw [if_neg (fun h9 => hk ((iN_lt e2 (by omega)).mp h9.2))]
      · rw [if_neg (fun h9 => absurd (Int32.lt_of_le_of_lt h9.1 h9.2) (by decide))]
  · rw [if_neg (fun h9 => h0 h9.1), if_neg (fun h9 => h0 h9.1)]
theorem iN_cap {a cap : Nat} (h : a ≤ cap) (hc : cap < 2147483648) : (iN a).toInt ≤ (cap : Int) := by
  rw [iN_toInt (by omega)]
  omega
theorem buf_cap {a cap : Nat} {r : Int32} (h : a ≤ cap) (hc : cap < 2147483648) (hr : r = iN a ∨ (a = 0 ∧ r = -1)) : r.toInt ≤ (cap : Int) := by
  rcases hr with rfl | ⟨-, rfl⟩
  · exact iN_cap h hc
  · have : (-1 : Int32).toInt = -1 := by decide
    rw [this]
    omega
theorem t_reply {j : Nat} {w v : z_W} (hj : 4 * j + 4 ≤ 2048) (h : Rel j w v) (i : Int32) : pS kP_reply kX_reply [zI i] (Rel (j + 1)) w v := by
  have h' := h
  obtain ⟨len, lg, up, n, nx, A, -, -, -, ⟨a, a1, a2, a3, a4⟩, -⟩ := h'
  refine pS.of (P := fun w' r => w' = w ∧ r = atR (w.1 2 1) (w.1 1 1 1) i) (P' := fun v' r => v' = m_thr 0 v ∧ r = atR (v.1 5 0) (v.1 0 0 23) i) (e_reply (by rw [a2]; exact iN_cap a1 (by decide)) ⟨_, rfl, rfl, rfl⟩) (m_reply (Int.le_trans (buf_cap a1 (by decide) a3) (by decide)) ⟨_, rfl, rfl, rfl⟩) (fun w' r v' r' g1 g2 => ?_)
  obtain ⟨rfl, rfl⟩ := g1
  obtain ⟨rfl, rfl⟩ := g2
  refine ⟨?_, Rel.idle hj h.thr⟩
  rw [a2]
  exact atR_eq a1 a3 a4
theorem t_sheet {j : Nat} {w v : z_W} (hj : 4 * j + 4 ≤ 2048) (h : Rel j w v) (i : Int32) : pS kP_sheet kX_sheet [zI i] (Rel (j + 1)) w v := by
  have h' := h
  obtain ⟨len, lg, up, n, nx, A, -, -, -, -, ⟨a, a1, a2, a3, a4⟩, -⟩ := h'
  refine pS.of (P := fun w' r => w' = w ∧ r = atR (w.1 2 2) (w.1 1 2 1) i) (P' := fun v' r => v' = m_thr 0 v ∧ r = atR (v.1 6 0) (v.1 0 0 25) i) (e_sheet (by rw [a2]; exact iN_cap a1 (by decide)) ⟨_, rfl, rfl, rfl⟩) (m_sheet (Int.le_trans (buf_cap a1 (by decide) a3) (by decide)) ⟨_, rfl, rfl, rfl⟩) (fun w' r v' r' g1 g2 => ?_)
  obtain ⟨rfl, rfl⟩ := g1
  obtain ⟨rfl, rfl⟩ := g2
  refine ⟨?_, Rel.idle hj h.thr⟩
  rw [a2]
  exact atR_eq (by omega) a3 a4
theorem t_count {j : Nat} {w v : z_W} (hj : 4 * j + 4 ≤ 2048) (h : Rel j w v) (i : Int32) : pS kP_count kX_count [zI i] (Rel (j + 1)) w v := by
  have h' := h
  obtain ⟨len, lg, up, n, nx, A, ⟨-, d2, d3, -⟩, ⟨c1, ⟨-, c2, c3⟩, ⟨c4, c5, c6⟩, -⟩, p1, -, -, ⟨⟨-, j1, j2⟩, ⟨j3, j4⟩, -⟩, -⟩ := h'
  have hu : up = 0 ∨ up = 1 := by omega
  refine pS.of (P := fun w' r => w' = w ∧ r = cnt7 (w.1 11 0 0) (w.1 11 0 1) (w.1 14 0 2) (w.1 12 0 2) (w.1 12 0 3) (w.1 11 0 2) (w.1 1 0 1) i) (P' := fun v' r => v' = m_thr 0 v ∧ r = cnt7 (v.1 0 0 8) (v.1 0 0 9) (v.1 0 0 10) (v.1 0 0 4) (v.1 0 0 7) (if v.1 0 0 1 = 0 then 1 else 0) (v.1 0 0 2) i)
    (e_count (by rcases hu with rfl | rfl; exact Or.inl c5; exact Or.inr c5) ⟨_, rfl, rfl, rfl⟩) (m_count ⟨_, rfl, rfl, rfl⟩) (fun w' r v' r' g1 g2 => ?_)
  obtain ⟨rfl, rfl⟩ := g1
  obtain ⟨rfl, rfl⟩ := g2
  refine ⟨?_, Rel.idle hj h.thr⟩
  have p1 : w'.1 14 0 2 = v.1 0 0 10 := p1
  rw [c1, c2, c3, p1, j1, j2, j3, j4, c5, c6, d2, d3]
  rcases hu with rfl | rfl <;> rfl
theorem m_stopD {k : Int32} {v : z_W} {Q : z_W → Option z_V → Prop} (hu : v.1 0 0 1 = 1) (h0 : Q (m_thr 1 v) (some (zI 0))) : mRun kX_stop (0, [some (zR 0 0), some (zI k)], [], v) Q := by
  have hn : ¬ v.1 0 0 1 = 0 := by rw [hu]; decide
  refine z_C.go 4 rfl ?_
  refine z_C.if (fun h => absurd h hn) (fun h => ?_)
  refine z_C.go 6 rfl ?_
  refine z_C.if (fun h => absurd h hn) (fun h => ?_)
  refine z_C.go 1 rfl ?_
  exact z_C.ret rfl rfl h0
theorem t_stop {j : Nat} {w v : z_W} (hj : 4 * j + 4 ≤ 2048) (h : Rel j w v) (i : Int32) : pT kP_stop kX_stop [zI i] (Rel (j + 1)) w v := by
  have h' := h
  obtain ⟨len, lg, up, n, nx, A, h1, ⟨c1, c2, ⟨c4, c5, c6⟩, c7⟩, h3, h4, h5, h6, h7, h8, h9, h10⟩ := h'
  have hu : up = 0 ∨ up = 1 := by omega
  rcases hu with rfl | rfl
  · obtain ⟨n', v', r', g3, rfl, rfl⟩ := mRun.to (k := kX_stop) (as := [zI i]) (w := v) (P := fun v' r => v' = m_thr 1 v ∧ r = 0) (m_stopD c6 ⟨0, rfl, rfl, rfl⟩)
    exact ⟨n', w, m_thr 1 v, 0, g3, Or.inr ⟨rfl, c5, rfl⟩, Rel.idle hj h.thr⟩
  · by_cases hi : i < 0
    · obtain ⟨n1, w', r, g1, rfl, rfl⟩ := cRun.to (k := kP_stop) (as := [zI i]) (w := w) (P := fun w' r => w' = w ∧ r = 0) (e_stop c5 (fun _ => ⟨0, rfl, rfl, rfl⟩) (fun h => absurd hi h))
      obtain ⟨n', v', r', g3, rfl, rfl⟩ := mRun.to (k := kX_stop) (as := [zI i]) (w := v) (P := fun v' r => v' = m_thr 0 v ∧ r = 0) (m_stopU c6 (fun _ => ⟨0, rfl, rfl, rfl⟩) (fun h => absurd hi h))
      exact ⟨n', w', m_thr 0 v, 0, g3, Or.inl ⟨n1, w', rfl, g1, rfl⟩, Rel.idle hj h.thr⟩
    · obtain ⟨n1, w', r, g1, rfl, rfl⟩ := cRun.to (k := kP_stop) (as := [zI i]) (w := w) (P := fun w' r => w' = z_si w 11 0 3 i ∧ r = 1) (e_stop c5 (fun h => absurd h hi) (fun _ => ⟨1, rfl, rfl, rfl⟩))
      obtain ⟨n', v', r', g3, rfl, rfl⟩ := mRun.to (k := kX_stop) (as := [zI i]) (w := v) (P := fun v' r => v' = z_si (z_si (m_thr 0 v) 0 0 11 1) 0 0 12 i ∧ r = 1) (m_stopU c6 (fun h => absurd h hi) (fun _ => ⟨1, rfl, rfl, rfl⟩))
      refine ⟨n', z_si w 11 0 3 i, z_si (z_si (m_thr 0 v) 0 0 11 1) 0 0 12 i, 1, g3, Or.inl ⟨n1, _, rfl, g1, rfl⟩, Rel.idle hj ?_⟩
      obtain ⟨e1, e2⟩ := iN_of (Int32.not_lt.mp hi)
      exact ⟨len, lg, 1, n, nx, A, h1, ⟨c1, c2, ⟨c4, c5, c6⟩, Or.inr ⟨i.toInt.toNat, e2, rfl, e1, e1⟩⟩, h3, h4, h5, h6, h7, h8, h9, h10⟩
/-! restart -/
def bpa : Nat → Nat → z_W → z_W
  | 0, _, w => w
  | d + 1, i, w => bpa d (i + 1) (if w.1 9 (w.2.2 13 0 i) 2 = 9 then w else z_si w 9 (w.2.2 13 0 i) 9 0)
theorem e_bpa {Q : z_W → Option z_V → Prop} {n : Nat} (hn2 : n ≤ 20) : ∀ (d i : Nat) (w : z_W), i + d = n → w.1 12 0 2 = iN n → Q (bpa d i w) none → cRun kS_beginPassesAnew (2, [some (zR 12 0), some (zI (iN i))], [], w) Q := by
  intro d
  induction d with
  | zero =>
    intro i w hi hn hq
    refine z_C.go 4 rfl ?_
    refine z_C.if (fun h => ?_) (fun h => ?_)
    · exact z_C.ret rfl rfl hq
    · have h : ¬ w.1 12 0 2 ≤ iN i := h
      rw [hn, iN_le (by omega) (by omega)] at h
      omega
  | succ d ih =>
    intro i w hi hn hq
    unfold bpa at hq
    have hin : z_in (iN i) 20 = true := iN_in (by omega) (by omega)
    have hnat : (iN i).toNatClampNeg = i := iN_nat (by omega)
    have e : iN i + 1 = iN (i + 1) := iN_add i 1
    refine z_C.go 4 rfl ?_
    refine z_C.if (fun h => ?_) (fun h => ?_)
    · have h : w.1 12 0 2 ≤ iN i := h
      rw [hn, iN_le (by omega) (by omega)] at h
      omega
    refine z_C.go 3 rfl ?_
    refine z_C.go1 rfl (if_pos ⟨rfl, hin⟩) ?_
    refine z_C.go 3 rfl ?_
    refine z_C.if (fun h => ?_) (fun h => ?_)
    · have h : w.1 9 (w.2.2 13 0 (iN i).toNatClampNeg) 2 = 9 := h
      rw [hnat] at h
      rw [if_pos h] at hq
      refine z_C.go 2 rfl ?_
      have k9 := ih (i + 1) w (by omega) hn hq
      rw [← e] at k9
      exact k9
    · have h : ¬ w.1 9 (w.2.2 13 0 (iN i).toNatClampNeg) 2 = 9 := h
      rw [hnat] at h
      rw [if_neg h] at hq
      refine z_C.go 3 rfl ?_
      refine z_C.go1 rfl (if_pos ⟨rfl, hin⟩) ?_
      refine z_C.go 4 rfl ?_
      have k9 := ih (i + 1) (z_si w 9 (w.2.2 13 0 i) 9 0) (by omega) hn hq
      rw [← e] at k9
      have e9 : z_si w 9 (w.2.2 13 0 (iN i).toNatClampNeg) 9 0 = z_si w 9 (w.2.2 13 0 i) 9 0 := by rw [hnat]
      rw [← e9] at k9
      exact k9
theorem bpa_fr : ∀ (d i : Nat) (w : z_W), (bpa d i w).2 = w.2 ∧ ∀ g a k, ¬ (g = 9 ∧ k = 9) → (bpa d i w).1 g a k = w.1 g a k := by
  intro d
  induction d with
  | zero => intro i w; exact ⟨rfl, fun _ _ _ _ => rfl⟩
  | succ d ih =>
    intro i w
    unfold bpa
    split
    · exact ih (i + 1) w
    · obtain ⟨h1, h2⟩ := ih (i + 1) (z_si w 9 (w.2.2 13 0 i) 9 0)
      refine ⟨h1, fun g a k hg => ?_⟩
      rw [h2 g a k hg]
      show (if g = 9 ∧ a = _ ∧ k = 9 then _ else _) = _
      rw [if_neg (fun h => hg ⟨h.1, h.2.2⟩)]
theorem bpa_in {S : z_W} (hi2 : ∀ k l, k < 20 → l < 20 → S.2.2 13 0 k = S.2.2 13 0 l → k = l) : ∀ (d i : Nat) (w : z_W), i + d ≤ 20 → w.2 = S.2 → ∀ k, k < 20 →
    (bpa d i w).1 9 (S.2.2 13 0 k) 9 = if i ≤ k ∧ k < i + d ∧ ¬ w.1 9 (S.2.2 13 0 k) 2 = 9 then 0 else w.1 9 (S.2.2 13 0 k) 9 := by
  intro d
  induction d with
  | zero => intro i w _ _ k _; rw [if_neg (fun h => by omega)]; rfl
  | succ d ih =>
    intro i w hd hw k hk
    have hr : w.2.2 = S.2.2 := by rw [hw]
    unfold bpa
    rw [hr]
    by_cases hs : w.1 9 (S.2.2 13 0 i) 2 = 9
    · rw [if_pos hs, ih (i + 1) w (by omega) hw k hk]
      by_cases hki : k = i
      · subst hki
        rw [if_neg (fun h => by omega), if_neg (fun h => h.2.2 hs)]
      · have : (i + 1 ≤ k ∧ k < i + 1 + d ∧ ¬ w.1 9 (S.2.2 13 0 k) 2 = 9) ↔ (i ≤ k ∧ k < i + (d + 1) ∧ ¬ w.1 9 (S.2.2 13 0 k) 2 = 9) := ⟨fun h => ⟨by omega, by omega, h.2.2⟩, fun h => ⟨by omega, by omega, h.2.2⟩⟩
        simp only [this]
    · rw [if_neg hs, ih (i + 1) (z_si w 9 (S.2.2 13 0 i) 9 0) (by omega) hw k hk]
      have e2 : ∀ a, (z_si w 9 (S.2.2 13 0 i) 9 0).1 9 a 2 = w.1 9 a 2 := fun a => if_neg (fun h => absurd h.2.2 (by decide))
      rw [e2]
      by_cases hki : k = i
      · subst hki
        rw [if_neg (fun h => by omega), if_pos ⟨Nat.le_refl _, by omega, hs⟩]
        exact if_pos ⟨rfl, rfl, rfl⟩
      · have e9 : (z_si w 9 (S.2.2 13 0 i) 9 0).1 9 (S.2.2 13 0 k) 9 = w.1 9 (S.2.2 13 0 k) 9 := if_neg (fun h => hki (hi2 k i hk (by omega) h.2.1))
        rw [e9]
        have : (i + 1 ≤ k ∧ k < i + 1 + d ∧ ¬ w.1 9 (S.2.2 13 0 k) 2 = 9) ↔ (i ≤ k ∧ k < i + (d + 1) ∧ ¬ w.1 9 (S.2.2 13 0 k) 2 = 9) := ⟨fun h => ⟨by omega, by omega, h.2.2⟩, fun h => ⟨by omega, by omega, h.2.2⟩⟩
        simp only [this]
