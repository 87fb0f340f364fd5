/-! a job comes in: both machines -/
theorem cT.n {t : Bool × Nat × Option Nat × Nat × Bool} {n : Nat} {A : Nat → Nat → Nat} {w w' : z_W} (h : cT t n A w w') (hn : w.1 12 0 2 = iN n) : w'.1 12 0 2 = iN (tN t n A) := by
  unfold tN
  by_cases ht : t.2.2.2.2 = true
  · rw [if_pos ht]
    exact (h.2.2.2.2.2.2.1 ht).1
  · rw [if_neg ht]
    exact (h.2.2.2.2.2.2.2 ht).1.trans hn
theorem mT.n {t : Bool × Nat × Option Nat × Nat × Bool} {n : Nat} {A : Nat → Nat → Nat} {v v' : z_W} (h : mT t n A v v') (hn : v.1 0 0 4 = iN n) : v'.1 0 0 4 = iN (tN t n A) := by
  unfold tN
  by_cases ht : t.2.2.2.2 = true
  · rw [if_pos ht]
    exact (h.2.2.2.2.2.1 ht).1
  · rw [if_neg ht]
    exact (h.2.2.2.2.2.2 ht).1.trans hn
def admC (n1 nx rr : Nat) (w : z_W) : z_W := z_si (z_si (z_si w 9 rr 1 (iN nx)) 12 0 2 (iN (n1 + 1))) 12 0 3 (iN (nx + 1))
section AE
variable {Q : z_W → Option z_V → Prop}
theorem e_admit {lg n nx pg : Nat} {A : Nat → Nat → Nat} {a : Nat → Nat} {st : Option Nat} {w : z_W} (hpg : pg ≤ 6) (hlg : lg ≤ 40) (h1 : w.1 11 0 1 = iN lg) (hc : cLv n A w) (hlv : nLive A n ≤ 90) (h5 : ∀ k, k < 20 → w.2.2 13 0 k < 20) (h6 : ∀ k l, k < 20 → l < 20 → w.2.2 13 0 k = w.2.2 13 0 l → k = l) (hs : stopIs st (w.1 11 0 3)) (hx : w.1 12 0 3 = iN nx)
    (ha : ∀ f, 2 ≤ f → f ≤ 9 → w.1 9 20 f = iN (a f)) (h8 : a 8 = pg) (hn1 : (aT (1 + pg) lg (nLive A n) st).1 = true → tN (aT (1 + pg) lg (nLive A n) st) n A < 20)
    (K1 : (aT (1 + pg) lg (nLive A n) st).1 = true → ∀ w1 w2 rr, cT (aT (1 + pg) lg (nLive A n) st) n A w w1 → rr = w1.2.2 13 0 (tN (aT (1 + pg) lg (nLive A n) st) n A) → cpW rr w1 w2 → (∀ f, 2 ≤ f → f ≤ 9 → w2.1 9 rr f = iN (a f)) → (∀ q, q < 72 → w2.1 10 rr q = w1.1 10 20 q) → Q (admC (tN (aT (1 + pg) lg (nLive A n) st) n A) nx rr w2) (some (zI 1)))
    (K0 : ¬ (aT (1 + pg) lg (nLive A n) st).1 = true → ∀ w1, cT (aT (1 + pg) lg (nLive A n) st) n A w w1 → Q w1 (some (zI 0))) : cRun kS_admit (0, [some (zR 12 0), some (zR 9 20)], [], w) Q := by
  have p8 : w.1 9 20 8 = iN pg := by rw [ha 8 (by decide) (by decide), h8]
  refine z_C.go 2 rfl ?_
  refine z_C.call rfl rfl (zC_up (C' := zC) (k_blocks (j := 20) (Q := fun w2 r => w2 = w ∧ r = some (zI (iN (1 + pg)))) ⟨rfl, by rw [p8, show (1 : Int32) + iN pg = iN (1 + pg) from iN_add 1 pg]⟩)) (fun w' r h => ?_)
  obtain ⟨rfl, rfl⟩ := h
  refine z_C.call rfl rfl (e_logged (nb := 1 + pg) (Q := fun w1 r => r = some (zI (if (aT (1 + pg) lg (nLive A n) st).1 = true then 1 else 0)) ∧ cT (aT (1 + pg) lg (nLive A n) st) n A w' w1) (by omega) hlg h1 hc hlv h5 h6 hs (fun w' h => ⟨rfl, h⟩)) (fun w1 r h => ?_)
  obtain ⟨rfl, hT⟩ := h
  generalize ht : aT (1 + pg) lg (nLive A n) st = t at *
  by_cases hk : t.1 = true
  · rw [if_pos hk]
    have hn20 := hn1 hk
    have k12 := hT.n hc.1.2
    have hx1 : w1.1 12 0 3 = iN nx := (hT.1 12 0 3 (by omega) (by omega)).trans hx
    have hr20 : ∀ k, k < 20 → w1.2.2 13 0 k < 20 := by
      by_cases hn : t.2.2.2.2 = true
      · exact (hT.2.2.2.2.2.2.1 hn).2.2.1
      · rw [(hT.2.2.2.2.2.2.2 hn).2]
        exact h5
    generalize tN t n A = n1 at *
    have i1 : z_in (iN n1) 20 = true := iN_in (by omega) (by decide)
    have nn : (iN n1).toNatClampNeg = n1 := iN_nat (by omega)
    have ha1 : ∀ f, 2 ≤ f → f ≤ 9 → w1.1 9 20 f = iN (a f) := fun f a b => (hT.1 9 20 f (by omega) (by omega)).trans (ha f a b)
    refine z_C.go 1 rfl ?_
    refine z_C.if (fun h => absurd h (by decide)) (fun _ => ?_)
    refine z_C.go 1 rfl ?_
    refine z_C.ld rfl rfl k12 ?_
    refine z_C.go 2 rfl ?_
    refine z_C.if (fun h => absurd ((iN_le (a := 20) (by decide) (by omega)).mp h) (by omega)) (fun _ => ?_)
    refine z_C.go 3 rfl ?_
    refine z_C.ld rfl rfl k12 ?_
    refine z_C.go1 rfl (if_pos ⟨rfl, i1⟩) ?_
    show cRun kS_admit (31, [some (zR 12 0), some (zR 9 20)], [zR 9 (w1.2.2 13 0 (iN n1).toNatClampNeg)], w1) Q
    rw [nn]
    generalize hrr : w1.2.2 13 0 n1 = rr
    have hrr20 : rr < 20 := by rw [← hrr]; exact hr20 n1 hn20
    refine z_C.go 1 rfl ?_
    refine z_C.call rfl rfl (e_copyFrom (rr := rr) (a := a) (Q := fun w2 r => r = none ∧ cpW rr w1 w2 ∧ (∀ f, 2 ≤ f → f ≤ 9 → w2.1 9 rr f = iN (a f)) ∧ ∀ q, q < 72 → w2.1 10 rr q = w1.1 10 20 q) hrr20 ha1 (fun w2 a b c => ⟨rfl, a, b, c⟩)) (fun w2 r h => ?_)
    obtain ⟨rfl, f2, fa, fp⟩ := h
    have k12' : w2.1 12 0 2 = iN n1 := (f2.2 12 0 2 (by omega) (by omega)).trans k12
    have hx2 : w2.1 12 0 3 = iN nx := (f2.2 12 0 3 (by omega) (by omega)).trans hx1
    have er : w2.2.2 13 0 (iN n1).toNatClampNeg = rr := by rw [f2.1, nn]; exact hrr
    refine z_C.go 3 rfl ?_
    refine z_C.ld rfl rfl k12' ?_
    refine z_C.go1 rfl (if_pos ⟨rfl, i1⟩) ?_
    show cRun kS_admit (44, [some (zR 12 0), some (zR 9 20)], [zR 9 (w2.2.2 13 0 (iN n1).toNatClampNeg)], w2) Q
    rw [er]
    refine z_C.go 1 rfl ?_
    refine z_C.ld rfl rfl hx2 ?_
    refine z_C.go 3 rfl ?_
    refine z_C.ld rfl rfl (y := iN n1) ((rd_g (by omega)).trans k12') ?_
    refine z_C.go 5 rfl ?_
    refine z_C.ld rfl rfl (y := iN nx) ((rd_g (by omega)).trans ((rd_g (by omega)).trans hx2)) ?_
    have e1 : iN n1 + 1 = iN (n1 + 1) := iN_add n1 1
    have e2 : iN nx + 1 = iN (nx + 1) := iN_add nx 1
    have k9 := K1 hk w1 w2 rr hT hrr.symm f2 fa fp
    unfold admC at k9
    rw [← e1, ← e2] at k9
    refine z_C.go 4 rfl ?_
    exact z_C.ret rfl rfl k9
  · rw [if_neg hk]
    refine z_C.go 1 rfl ?_
    refine z_C.if (fun _ => ?_) (fun h => absurd rfl h)
    refine z_C.go 1 rfl ?_
    exact z_C.ret rfl rfl (K0 hk w1 hT)
/-- the reference's row that was read, as it goes among the jobs -/
def rdM (nx s0 : Nat) (v : z_W) : z_W := z_si (z_si v 2 0 250 (iN nx)) 2 0 251 (iN s0)
def admM (n1 nx : Nat) (v : z_W) : z_W := z_si (z_si v 0 0 4 (iN (n1 + 1))) 0 0 7 (iN (nx + 1))
theorem m_doesP {lg n nx pg s9 : Nat} {A : Nat → Nat → Nat} {st : Option Nat} {v : z_W} (hpg : pg ≤ 6) (hlg : lg ≤ 40) (h1 : v.1 0 0 9 = iN lg) (hc : mLv n A v) (hlv : nLive A n ≤ 90) (hs : stM st v) (hx : v.1 0 0 7 = iN nx) (h257 : v.1 2 0 257 = iN pg) (h259 : v.1 2 0 259 = iN s9) (hs9 : s9 ≤ 1)
    (K1 : (aT (1 + pg) lg (nLive A n) st).1 = true → ∀ v1 v2 v3, mT (aT (1 + pg) lg (nLive A n) st) n A v v1 → r25 v v1 → cpA 25 (tN (aT (1 + pg) lg (nLive A n) st) n A) 10 (rdM nx (if s9 = 1 then 4 else 3) v1) v2 → cpB 25 (tN (aT (1 + pg) lg (nLive A n) st) n A) 72 v2 v3 → Q (admM (tN (aT (1 + pg) lg (nLive A n) st) n A) nx v3) (some (zI (iN nx))))
    (K0 : ¬ (aT (1 + pg) lg (nLive A n) st).1 = true → ∀ v1, mT (aT (1 + pg) lg (nLive A n) st) n A v v1 → Q (gdn (tN (aT (1 + pg) lg (nLive A n) st) n A) v1) (some (zI (-1)))) : mRun kX_does (0, [some (zR 0 0), some (zI (iN 2)), none], [], v) Q := by
  have e0 : (1 : Int32) + iN pg = iN (1 + pg) := iN_add 1 pg
  have hn24 := hc.1.1
  refine z_C.go 3 rfl ?_
  refine z_C.if (fun _ => ?_) (fun h => absurd (by decide) h)
  refine z_C.go 9 rfl ?_
  refine z_C.ld rfl rfl h257 ?_
  refine z_C.go 1 rfl ?_
  rw [e0]
  by_cases hk : (aT (1 + pg) lg (nLive A n) st).1 = true
  · refine z_C.call rfl rfl (m_transactW (nb := 1 + pg) (Q := fun v1 r => r = some (zI 1) ∧ mT (aT (1 + pg) lg (nLive A n) st) n A v v1 ∧ r25 v v1) (by omega) hlg h1 hc hlv hs hk (fun v1 a b => ⟨rfl, a, b⟩)) (fun v1 r h => ?_)
    obtain ⟨rfl, hT, h25⟩ := h
    have hle := tN_le (aT (1 + pg) lg (nLive A n) st) n A
    have k4 := hT.n hc.1.2
    have hx1 : v1.1 0 0 7 = iN nx := (hT.2.1 0 0 7 (by omega) (by omega) (by omega)).trans hx
    have h9 : v1.1 2 0 259 = iN s9 := (h25.1 9 (by decide)).trans h259
    have K1 := K1 hk v1
    generalize ht : aT (1 + pg) lg (nLive A n) st = t at *
    generalize tN t n A = n1 at *
    refine z_C.go 1 rfl ?_
    refine z_C.if (fun h => absurd h (by decide)) (fun _ => ?_)
    refine z_C.go 4 rfl ?_
    refine z_C.ld rfl rfl hx1 ?_
    refine z_C.go 1 rfl ?_
    show mRun kX_does (39, [some (zR 0 0), some (zI (iN 2)), some (zI 250)], [], z_si v1 2 0 250 (iN nx)) Q
    refine z_C.go 10 rfl ?_
    refine z_C.ld rfl rfl (y := iN s9) ((rd_g (by decide)).trans h9) ?_
    refine z_C.go 2 rfl ?_
    have tl : ∀ s0 : Nat, s0 = (if s9 = 1 then 4 else 3) → mRun kX_does (64, [some (zR 0 0), some (zI (iN 2)), some (zI 250)], [zI (iN s0), zI 251, zR 2 0], z_si v1 2 0 250 (iN nx)) Q := fun s0 hs0 => by
      refine z_C.go 1 rfl ?_
      show mRun kX_does (65, [some (zR 0 0), some (zI (iN 2)), some (zI 250)], [], rdM nx s0 v1) Q
      have k42 : (rdM nx s0 v1).1 0 0 4 = iN n1 := (rd_g (by decide)).trans ((rd_g (by decide)).trans k4)
      have hx2 : (rdM nx s0 v1).1 0 0 7 = iN nx := (rd_g (by decide)).trans ((rd_g (by decide)).trans hx1)
      rw [← hs0] at K1
      generalize rdM nx s0 v1 = v2 at *
      refine z_C.go 3 rfl ?_
      refine z_C.ld rfl rfl k42 ?_
      refine z_C.call rfl rfl (m_copy (a := 25) (b := n1) (Q := fun v3 r => r = none ∧ ∃ v9, cpA 25 n1 10 v2 v9 ∧ cpB 25 n1 72 v9 v3) (by decide) (by omega) (fun v9 v3 a b => ⟨rfl, v9, a, b⟩)) (fun v3 r h => ?_)
      obtain ⟨rfl, v9, ca, cb⟩ := h
      have k43 : v3.1 0 0 4 = iN n1 := (cb.2.1 0 0 4 (by omega)).trans ((ca.2.1 0 0 4 (by omega)).trans k42)
      have hx3 : v3.1 0 0 7 = iN nx := (cb.2.1 0 0 7 (by omega)).trans ((ca.2.1 0 0 7 (by omega)).trans hx2)
      have k9 := K1 v9 v3 hT h25 ca cb
      have e1 : iN n1 + 1 = iN (n1 + 1) := iN_add n1 1
      have e2 : iN nx + 1 = iN (nx + 1) := iN_add nx 1
      have e3 : iN (nx + 1) - 1 = iN nx := iN_pred nx
      refine z_C.go 2 rfl ?_
      refine z_C.ld rfl rfl k43 ?_
      refine z_C.go 5 rfl ?_
      refine z_C.ld rfl rfl (y := iN nx) ((rd_g (by decide)).trans hx3) ?_
      refine z_C.go 3 rfl ?_
      rw [e1, e2]
      show mRun kX_does (95, [some (zR 0 0), some (zI (iN 2)), some (zI 250)], [], admM n1 nx v3) Q
      refine z_C.go 1 rfl ?_
      refine z_C.ld rfl rfl (y := iN (nx + 1)) rfl ?_
      rw [← e3] at k9
      refine z_C.go 2 rfl ?_
      exact z_C.ret rfl rfl k9
    refine z_C.if (fun h => ?_) (fun h => ?_)
    · have h : s9 = 1 := (iN_inj (b := 1) (by omega) (by decide)).mp h
      refine z_C.go 2 rfl ?_
      exact tl 4 (by rw [if_pos h])
    · have h : ¬ s9 = 1 := fun h9 => h (by rw [h9]; rfl)
      refine z_C.go 1 rfl ?_
      exact tl 3 (by rw [if_neg h])
  · refine z_C.call rfl rfl (m_transact (nb := 1 + pg) (Q := fun v2 r => r = some (zI 0) ∧ ∃ v1, v2 = gdn (tN (aT (1 + pg) lg (nLive A n) st) n A) v1 ∧ mT (aT (1 + pg) lg (nLive A n) st) n A v v1) (by omega) hlg h1 hc hlv hs (fun v1 h _ => absurd h hk) (fun v1 _ h => ⟨rfl, v1, rfl, h⟩)) (fun v2 r h => ?_)
    obtain ⟨rfl, v1, rfl, hT⟩ := h
    refine z_C.go 1 rfl ?_
    refine z_C.if (fun _ => ?_) (fun h => absurd rfl h)
    refine z_C.go 1 rfl ?_
    exact z_C.ret rfl rfl (K0 hk v1 hT)
end AE
