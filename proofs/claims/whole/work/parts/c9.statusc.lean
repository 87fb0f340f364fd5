/-! the status as a function, and that the class answers it -/
abbrev alw (op s : Nat) : Prop := op = 9 ∨ (op = 8 ∧ ¬ (s = 7 ∨ s = 9)) ∨ (op = 12 ∧ s = 3) ∨ (op = 13 ∧ s = 4)
def jQ (D : Nat → Nat) (G : List Nat) : Option Nat := G.find? (fun q => decide (D q = 33 ∧ aName D q = numL lJob))
def prS (D : Nat → Nat) (n : Nat) (A : Nat → Nat → Nat) (G2 : List Nat) (po : Option (Nat × (Nat → Nat))) : Nat := match setL D G2 (some dS) with
  | none => 1035
  | some S => if S 6 = 0 ∨ S 4 = 1 then (match po with
    | none => 1041
    | some (pg, _) => if pg = 0 then 1041 else if 6 < pg then 1032 else if 36 < nLive A n + (1 + pg) then 1287 else 0) else 1035
def jbS (D : Nat → Nat) (len n : Nat) (A : Nat → Nat → Nat) (G1 : List Nat) (b : Bool) (d op : Nat) : Nat := if b = true ∨ d < len then 1024 else match jQ D G1 with
  | none => 1024
  | some q => match fndF (fun k => iN (A k 1)) (iN (aX D q)) n 0 with
    | none => 1030
    | some k => if alw op (A k 2) then 0 else 1028
def stS (D : Nat → Nat) (len n : Nat) (A : Nat → Nat → Nat) (o : Option (List Nat × Option (List Nat) × Nat)) (po : Option (Nat × (Nat → Nat))) (op : Nat) : Nat := if oVer D len then 1283 else match o with
  | none => 1024
  | some (G1, g2, d) => if op = 2 then prS D n A (g2.getD []) po else if op = 10 then (if g2.isSome = true ∨ d < len then 1024 else 0) else if op = 8 ∨ op = 9 ∨ op = 12 ∨ op = 13 then jbS D len n A G1 g2.isSome d op else 1281
theorem jQ_some {D : Nat → Nat} {G : List Nat} {q : Nat} (h : jQ D G = some q) : q ∈ G ∧ jA D q := ⟨List.mem_of_find?_eq_some h, show D q = 33 ∧ aName D q = numL lJob from of_decide_eq_true (List.find?_some (p := fun q => decide (D q = 33 ∧ aName D q = numL lJob)) h)⟩
theorem jQ_none {D : Nat → Nat} {G : List Nat} (h : jQ D G = none) : ∀ q ∈ G, ¬ jA D q := fun q hq hj => absurd (decide_eq_true (show D q = 33 ∧ aName D q = numL lJob from hj)) (List.find?_eq_none.mp h q hq)
/-- what asking for the status leaves alone -/
def stF (w w' : z_W) : Prop := w'.2 = w.2 ∧ ∀ g i k, ¬ (g = 1 ∧ i = 0 ∧ k = 2) → ¬ g = 8 → ¬ (g = 10 ∧ i = 20) → ¬ (g = 9 ∧ i = 20) → w'.1 g i k = w.1 g i k
theorem stF.rf (w : z_W) : stF w w := ⟨rfl, fun _ _ _ _ _ _ _ => rfl⟩
theorem stF.tr {w w' w'' : z_W} (h1 : stF w w') (h2 : stF w' w'') : stF w w'' := ⟨h2.1.trans h1.1, fun g i k a b c d => (h2.2 g i k a b c d).trans (h1.2 g i k a b c d)⟩
theorem stF.p {w w' : z_W} (h : pF w w') : stF w w' := ⟨h.1, fun g i k a b c d => h.2 g i k a b c (fun h9 => d ⟨h9.1, h9.2.1⟩)⟩
theorem stF.w {w w' : z_W} (h : wF w w') : stF w w' := ⟨h.1, fun g i k _ _ _ d => h.2 g i k (fun h9 => d ⟨h9.1, h9.2.1⟩)⟩
theorem stF.si {w : z_W} {k : Nat} {x : Int32} : stF w (z_si w 9 20 k x) := ⟨rfl, fun g i q _ _ _ d => if_neg (fun h => d ⟨h.1, h.2.1⟩)⟩
theorem cD.st {len : Nat} {D : Nat → Nat} {w w' : z_W} (h : cD len D w) (hf : stF w w') : cD len D w' :=
  ⟨h.1, (hf.2 1 0 1 (by omega) (by omega) (by omega) (by omega)).trans h.2.1, fun k hk => ⟨(hf.2 2 0 k (by omega) (by omega) (by omega) (by omega)).trans (h.2.2 k hk).1, (h.2.2 k hk).2⟩⟩
theorem cLv.st {n : Nat} {A : Nat → Nat → Nat} {w w' : z_W} (h : cLv n A w) (h5 : ∀ k, k < 20 → w.2.2 13 0 k < 20) (hf : stF w w') : cLv n A w' := by
  obtain ⟨⟨a, b⟩, c⟩ := h
  refine ⟨⟨a, (hf.2 12 0 2 (by omega) (by omega) (by omega) (by omega)).trans b⟩, fun k hk => ?_⟩
  have hr := h5 k (by omega)
  rw [hf.1, hf.2 9 _ 2 (by omega) (by omega) (by omega) (by omega), hf.2 9 _ 8 (by omega) (by omega) (by omega) (by omega)]
  exact c k hk
/-- what a PRINT that may be carried out leaves in the class -/
def cPr (S : Nat → Nat) (pg : Nat) (Y : Nat → Nat) (w : z_W) : Prop := cSet S w ∧ w.1 9 20 8 = iN pg ∧ w.1 9 20 9 = 0 ∧ ∀ q, q < 12 * pg → w.1 10 20 q = iN (Y q)
section SD
variable {len n : Nat} {D : Nat → Nat} {A : Nat → Nat → Nat} {w : z_W} {Q : z_W → Option z_V → Prop}
theorem k_allow {op r s : Nat} (hop : op = 8 ∨ op = 9 ∨ op = 12 ∨ op = 13) (hs : w.1 9 r 2 = iN s) (hs2 : nSt s) (h1 : alw op s → Q w (some (zI 1))) (h0 : ¬ alw op s → Q w (some (zI 0))) : z_C sC zM zCr kP_isAllowed (0, [some (zI (iN op)), some (zR 9 r)], [], w) Q := by
  have hs3 : s < 100 := by unfold nSt at hs2; omega
  rcases hop with rfl | rfl | rfl | rfl
  · refine z_C.go 3 rfl ?_
    refine z_C.call rfl rfl (k_hasEnded (j := r) (s := s) (Q := fun w' r => w' = w ∧ ((nEnd s ∧ r = some (zI 1)) ∨ (¬ nEnd s ∧ r = some (zI 0)))) hs hs2 (fun h => ⟨rfl, Or.inl ⟨h, rfl⟩⟩) (fun h => ⟨rfl, Or.inr ⟨h, rfl⟩⟩)) (fun w' r h => ?_)
    obtain ⟨rfl, ⟨he, rfl⟩ | ⟨he, rfl⟩⟩ := h
    · refine z_C.go 1 rfl ?_
      refine z_C.if (fun h => absurd h (by decide)) (fun _ => ?_)
      refine z_C.go 1 rfl ?_
      exact z_C.ret rfl rfl (h0 (fun h => by unfold nEnd at he; rcases h with h | h | h | h <;> omega))
    · refine z_C.go 1 rfl ?_
      refine z_C.if (fun _ => ?_) (fun h => absurd (by decide) h)
      refine z_C.go 2 rfl ?_
      exact z_C.ret rfl rfl (h1 (Or.inr (Or.inl ⟨rfl, he⟩)))
  · refine z_C.go 3 rfl ?_
    exact z_C.ret rfl rfl (h1 (Or.inl rfl))
  · refine z_C.go 3 rfl ?_
    refine z_C.ld rfl rfl hs ?_
    refine z_C.go 2 rfl ?_
    refine z_C.if (fun h => ?_) (fun h => ?_)
    · have h := (iN_inj (b := 3) (by omega) (by decide)).mp h
      refine z_C.go 2 rfl ?_
      exact z_C.ret rfl rfl (h1 (Or.inr (Or.inr (Or.inl ⟨rfl, h⟩))))
    · refine z_C.go 1 rfl ?_
      exact z_C.ret rfl rfl (h0 (fun h9 => h (by have e : s = 3 := by rcases h9 with h9 | h9 | h9 | h9 <;> omega
                                                 rw [e]; rfl)))
  · refine z_C.go 3 rfl ?_
    refine z_C.ld rfl rfl hs ?_
    refine z_C.go 2 rfl ?_
    refine z_C.if (fun h => ?_) (fun h => ?_)
    · have h := (iN_inj (b := 4) (by omega) (by decide)).mp h
      refine z_C.go 2 rfl ?_
      exact z_C.ret rfl rfl (h1 (Or.inr (Or.inr (Or.inr ⟨rfl, h⟩))))
    · refine z_C.go 1 rfl ?_
      exact z_C.ret rfl rfl (h0 (fun h9 => h (by have e : s = 4 := by rcases h9 with h9 | h9 | h9 | h9 <;> omega
                                                 rw [e]; rfl)))
theorem e_stJob {G L : List Nat} {q op : Nat} (hc : cNam D len G L w) (hq : q ∈ G) (hj : jA D q) (hop : op = 8 ∨ op = 9 ∨ op = 12 ∨ op = 13) (h8 : w.1 3 0 8 = iN op) (hr : cLv n A w) (hnum : ∀ k, k < n → w.1 9 (w.2.2 13 0 k) 1 = iN (A k 1))
    (h1 : Q w (some (zI (iN (match fndF (fun k => iN (A k 1)) (iN (aX D q)) n 0 with | none => 1030 | some k => if alw op (A k 2) then 0 else 1028))))) : cRun kP_statusOfJobRequest (0, [some (zR 0 0), none], [], w) Q := by
  refine z_C.go 4 rfl ?_
  refine z_C.call rfl rfl (zC_up (C' := zC) (k_jobNo (Q := fun w' r => w' = w ∧ r = some (zI (iN (aX D q)))) hc hq hj ⟨rfl, rfl⟩)) (fun w' r h => ?_)
  obtain ⟨rfl, rfl⟩ := h
  have ef : fndF (fun j => cJ w' j 1) (iN (aX D q)) n 0 = fndF (fun k => iN (A k 1)) (iN (aX D q)) n 0 := fndF_congr n 0 (fun k _ hk => hnum k (by omega))
  refine z_C.call rfl rfl (zC_up (C' := zC) (k_find (x := iN (aX D q)) (Q := fun w2 r => w2 = w' ∧ r = some (refJ w' (fndF (fun k => iN (A k 1)) (iN (aX D q)) n 0))) hr.1.2 hr.1.1 ⟨rfl, by rw [ef]⟩)) (fun w2 r h => ?_)
  obtain ⟨rfl, rfl⟩ := h
  cases hf : fndF (fun k => iN (A k 1)) (iN (aX D q)) n 0 with
  | none =>
    rw [hf] at h1
    refine z_C.go 4 rfl ?_
    exact z_C.ret rfl rfl h1
  | some k =>
    rw [hf] at h1
    have hk : k < n := by have := (fndF_some n 0 k hf).2.1; omega
    obtain ⟨a1, -, a3, -⟩ := hr.2 k hk
    refine z_C.go 5 rfl ?_
    refine z_C.ld rfl rfl h8 ?_
    refine z_C.go 1 rfl ?_
    by_cases ha : alw op (A k 2)
    · have h1 : Q w2 (some (zI 0)) := by
        have h1 : Q w2 (some (zI (iN (if alw op (A k 2) then 0 else 1028)))) := h1
        rw [if_pos ha] at h1
        exact h1
      refine z_C.call rfl rfl (zC_up (C' := zC) (k_allow (Q := fun w3 r => w3 = w2 ∧ r = some (zI 1)) hop a1 a3 (fun _ => ⟨rfl, rfl⟩) (fun h => absurd ha h))) (fun w3 r h => ?_)
      obtain ⟨rfl, rfl⟩ := h
      refine z_C.go 1 rfl ?_
      refine z_C.if (fun h => absurd h (by decide)) (fun _ => ?_)
      refine z_C.go 2 rfl ?_
      exact z_C.ret rfl rfl h1
    · have h1 : Q w2 (some (zI 1028)) := by
        have h1 : Q w2 (some (zI (iN (if alw op (A k 2) then 0 else 1028)))) := h1
        rw [if_neg ha] at h1
        exact h1
      refine z_C.call rfl rfl (zC_up (C' := zC) (k_allow (Q := fun w3 r => w3 = w2 ∧ r = some (zI 0)) hop a1 a3 (fun h => absurd h ha) (fun _ => ⟨rfl, rfl⟩))) (fun w3 r h => ?_)
      obtain ⟨rfl, rfl⟩ := h
      refine z_C.go 1 rfl ?_
      refine z_C.if (fun _ => ?_) (fun h => absurd (by decide) h)
      refine z_C.go 1 rfl ?_
      exact z_C.ret rfl rfl h1
theorem prS_n {G2 : List Nat} {po : Option (Nat × (Nat → Nat))} (h : setL D G2 (some dS) = none) : prS D n A G2 po = 1035 := by unfold prS; rw [h]
theorem prS_b {G2 : List Nat} {po : Option (Nat × (Nat → Nat))} {S : Nat → Nat} (h : setL D G2 (some dS) = some S) (hb : ¬ (S 6 = 0 ∨ S 4 = 1)) : prS D n A G2 po = 1035 := by
  unfold prS; rw [h]; exact if_neg hb
theorem prS_s {G2 : List Nat} {S : Nat → Nat} (h : setL D G2 (some dS) = some S) (hb : S 6 = 0 ∨ S 4 = 1) (po : Option (Nat × (Nat → Nat))) : prS D n A G2 po = (match po with
    | none => 1041
    | some (pg, _) => if pg = 0 then 1041 else if 6 < pg then 1032 else if 36 < nLive A n + (1 + pg) then 1287 else 0) := by
  unfold prS; rw [h]; exact if_pos hb
theorem e_stPrint {G1 G2 : List Nat} {d : Nat} {po : Option (Nat × (Nat → Nat))} (hd : cD len D w) (ha : cA D (G1 ++ G2) w) (h5 : w.1 3 0 5 = iN G1.length) (h10 : w.1 3 0 10 = iN d) (hg : ∀ q ∈ G1 ++ G2, aGood D len q) (hdl : d ≤ len) (hL : (G1 ++ G2).length < 34) (hpo : pgsR D len 240 d 0 (fun _ => 0) po) (hr : cLv n A w) (hrf : ∀ k, k < 20 → w.2.2 13 0 k < 20) (hlv : nLive A n ≤ 90)
    (K : ∀ w', stF w w' → (prS D n A G2 po = 0 → ∀ S pg Y, setL D G2 (some dS) = some S → po = some (pg, Y) → cPr S pg Y w') → Q w' (some (zI (iN (prS D n A G2 po))))) : cRun kP_statusOfPrint (0, [some (zR 0 0)], [], w) Q := by
  have hb : ∀ k, k < len → D k < 256 := fun k hk => (hd.2.2 k hk).2
  refine z_C.go 2 rfl ?_
  refine z_C.call (Q' := fun w' r => r = none ∧ stF w w' ∧ cSet dS w' ∧ w'.1 9 20 8 = iN 0 ∧ w'.1 9 20 9 = 0) rfl rfl ?_ (fun w1 r h => ?_)
  · refine z_C.go 24 rfl ?_
    exact z_C.ret rfl rfl ⟨rfl, (((((((stF.si.tr stF.si).tr stF.si).tr stF.si).tr stF.si).tr stF.si).tr stF.si).tr stF.si), ⟨rfl, rfl, rfl, rfl, rfl, rfl⟩, rfl, rfl⟩
  obtain ⟨rfl, f1, hS1, hp1, hs1⟩ := h
  have ha1 : cA D (G1 ++ G2) w1 := ha.fr (f1.2 3 0 4 (by omega) (by omega) (by omega) (by omega)) (fun k => f1.2 4 0 k (by omega) (by omega) (by omega) (by omega)) (by rw [f1.1])
  have h51 : w1.1 3 0 5 = iN G1.length := (f1.2 3 0 5 (by omega) (by omega) (by omega) (by omega)).trans h5
  refine z_C.go 4 rfl ?_
  have edr : (G1 ++ G2).drop G1.length = G2 := List.drop_left
  have rd : ∀ (Q' : z_W → Option z_V → Prop), (∀ S', setL D G2 (some dS) = some S' → ∀ w', wF w1 w' → cSet S' w' → Q' w' (some (zI (if S' 6 = 0 ∨ S' 4 = 1 then 1 else 0)))) → (setL D G2 (some dS) = none → ∀ w', wF w1 w' → Q' w' (some (zI 0))) → cRun kM_readSettings (0, [some (zR 3 0), some (zR 9 20), none], [], w1) Q' := fun Q' g1 g0 => by
    refine z_C.go 1 rfl ?_
    refine z_C.ld rfl rfl h51 ?_
    refine z_C.go 1 rfl ?_
    have hlen1 : (G1 ++ G2).length = G1.length + G2.length := List.length_append
    exact e_setl_loop (L := G1 ++ G2) (W0 := w1) (r := setL D G2 (some dS)) hb hg hL g1 g0 (fun S' hS' => by
      have := setL_ok G2 dS S' (fun q hq => hg q (List.mem_append_right _ hq)) sOK_d hS'
      obtain ⟨-, -, a, -, b, -⟩ := this
      exact ⟨by omega, by omega⟩) G2.length G1.length dS w1 (by omega) (by rw [edr]) (wF.rf w1) ha1 hS1
  cases hs : setL D G2 (some dS) with
  | none =>
    rw [hs] at rd
    have k9 := fun w' f => K w' f (fun h => by rw [prS_n hs] at h; omega)
    rw [prS_n hs] at k9
    refine z_C.call rfl rfl (rd (fun w' r => wF w1 w' ∧ r = some (zI 0)) (fun S' h => by cases h) (fun _ w' a => ⟨a, rfl⟩)) (fun w2 r h => ?_)
    obtain ⟨f2, rfl⟩ := h
    refine z_C.go 1 rfl ?_
    refine z_C.if (fun _ => ?_) (fun h => absurd (by decide) h)
    refine z_C.go 1 rfl ?_
    exact z_C.ret rfl rfl (k9 w2 (f1.tr (stF.w f2)))
  | some S =>
    rw [hs] at rd
    refine z_C.call rfl rfl (rd (fun w' r => (wF w1 w' ∧ cSet S w') ∧ r = some (zI (if S 6 = 0 ∨ S 4 = 1 then 1 else 0))) (fun S' h w' a b => by cases h; exact ⟨⟨a, b⟩, rfl⟩) (fun h => by cases h)) (fun w2 r h => ?_)
    obtain ⟨⟨f2, hS2⟩, rfl⟩ := h
    have f12 := f1.tr (stF.w f2)
    by_cases hbk : S 6 = 0 ∨ S 4 = 1
    · rw [if_pos hbk]
      have ep := prS_s (n := n) (A := A) hs hbk po
      have h102 : w2.1 3 0 10 = iN d := (f12.2 3 0 10 (by omega) (by omega) (by omega) (by omega)).trans h10
      have hp2 : w2.1 9 20 8 = iN 0 := (f2.2 9 20 8 (by omega)).trans hp1
      have hs2 : w2.1 9 20 9 = 0 := (f2.2 9 20 9 (by omega)).trans hs1
      refine z_C.go 1 rfl ?_
      refine z_C.if (fun h => absurd h (by decide)) (fun _ => ?_)
      refine z_C.go 4 rfl ?_
      refine z_C.ld rfl rfl h102 ?_
      refine z_C.go 2 rfl ?_
      have pg0 : ∀ w3, stF w w3 → po = none ∨ (∃ Y, po = some (0, Y)) → cRun kP_statusOfPrint (46, [some (zR 0 0)], [], w3) Q := fun w3 f3 h => by
        have e : prS D n A G2 po = 1041 := by
          rw [ep]
          rcases h with h | ⟨Y, h⟩
          · rw [h]
          · rw [h]
            rfl
        have k9 := K w3 f3 (fun h => by rw [e] at h; omega)
        rw [e] at k9
        refine z_C.go 1 rfl ?_
        exact z_C.ret rfl rfl k9
      cases hpoE : po with
      | none =>
        rw [hpoE] at hpo
        refine z_C.call rfl rfl (e_pages (Q := fun w' r => pF w2 w' ∧ r = some (zI 0)) hpo (hd.st f12) hp2 hdl (fun n Y h => by cases h) (fun _ w' a => ⟨a, rfl⟩)) (fun w3 r h => ?_)
        obtain ⟨f3, rfl⟩ := h
        refine z_C.go 1 rfl ?_
        refine z_C.if (fun _ => ?_) (fun h => absurd (by decide) h)
        exact pg0 w3 (f12.tr (stF.p f3)) (Or.inl hpoE)
      | some x =>
        obtain ⟨pg, Y⟩ := x
        rw [hpoE] at hpo
        refine z_C.call rfl rfl (e_pages (Q := fun w' r => (pF w2 w' ∧ w'.1 9 20 8 = iN pg ∧ pg ≤ 240 ∧ ∀ q, q < 12 * pg → q < 72 → w'.1 10 20 q = iN (Y q)) ∧ r = some (zI (if 0 < pg then 1 else 0))) hpo (hd.st f12) hp2 hdl (fun n Y h w' a b c d => by cases h; exact ⟨⟨a, b, c, d⟩, rfl⟩) (fun h => by cases h)) (fun w3 r h => ?_)
        obtain ⟨⟨f3, p3, pg240, px⟩, rfl⟩ := h
        have f13 := f12.tr (stF.p f3)
        by_cases hpg : 0 < pg
        · rw [if_pos hpg]
          refine z_C.go 1 rfl ?_
          refine z_C.if (fun h => absurd h (by decide)) (fun _ => ?_)
          refine z_C.go 2 rfl ?_
          refine z_C.ld rfl rfl p3 ?_
          refine z_C.go 2 rfl ?_
          rw [hpoE] at ep
          have ep : prS D n A G2 (some (pg, Y)) = if pg = 0 then 1041 else if 6 < pg then 1032 else if 36 < nLive A n + (1 + pg) then 1287 else 0 := ep
          rw [if_neg (by omega)] at ep
          rw [hpoE] at K
          refine z_C.if (fun h => ?_) (fun h => ?_)
          · have h6 := (iN_le (b := 6) (by omega) (by decide)).mp h
            rw [if_neg (by omega)] at ep
            refine z_C.go 2 rfl ?_
            refine z_C.call rfl rfl (zC_up (C' := zC) (k_live (Q := fun w' r => w' = w3 ∧ r = some (zI (iN (nLive A n)))) (hr.st hrf f13) ⟨rfl, rfl⟩)) (fun w' r h => ?_)
            obtain ⟨rfl, rfl⟩ := h
            refine z_C.go 2 rfl ?_
            refine z_C.call rfl rfl (zC_up (C' := zC) (k_blocks (j := 20) (Q := fun w2 r => w2 = w' ∧ r = some (zI (iN (1 + pg)))) ⟨rfl, by rw [p3]; rw [show (1 : Int32) + iN pg = iN (1 + pg) from iN_add 1 pg]⟩)) (fun w'' r h => ?_)
            obtain ⟨rfl, rfl⟩ := h
            refine z_C.go 3 rfl ?_
            refine z_C.if (fun h => ?_) (fun h => ?_)
            · have h : iN (nLive A n) + iN (1 + pg) ≤ 36 := h
              rw [iN_add] at h
              have h := (iN_le (b := 36) (by omega) (by decide)).mp h
              rw [if_neg (by omega)] at ep
              have k9 := K w'' f13 (fun _ S' pg' Y' e1 e2 => by
                rw [hs] at e1
                cases e1
                cases e2
                refine ⟨?_, p3, (f3.2 9 20 9 (by omega) (by omega) (by omega) (by omega)).trans hs2, fun q hq => px q hq (by omega)⟩
                obtain ⟨c1, c2, c3, c4, c5, c6⟩ := hS2
                have fr : ∀ k, ¬ k = 8 → w''.1 9 20 k = w2.1 9 20 k := fun k hk => f3.2 9 20 k (by omega) (by omega) (by omega) (by omega)
                exact ⟨(fr 3 (by decide)).trans c1, (fr 4 (by decide)).trans c2, (fr 5 (by decide)).trans c3, (fr 6 (by decide)).trans c4, (fr 7 (by decide)).trans c5, (fr 2 (by decide)).trans c6⟩)
              rw [ep] at k9
              refine z_C.go 1 rfl ?_
              exact z_C.ret rfl rfl k9
            · have h : ¬ nLive A n + (1 + pg) ≤ 36 := fun h9 => h (show iN (nLive A n) + iN (1 + pg) ≤ 36 by rw [iN_add]; exact (iN_le (b := 36) (by omega) (by decide)).mpr h9)
              rw [if_pos (by omega)] at ep
              have k9 := K w'' f13 (fun h => by rw [ep] at h; omega)
              rw [ep] at k9
              refine z_C.go 2 rfl ?_
              exact z_C.ret rfl rfl k9
          · have h6 : ¬ pg ≤ 6 := fun h9 => h ((iN_le (b := 6) (by omega) (by decide)).mpr h9)
            rw [if_pos (by omega)] at ep
            have k9 := K w3 f13 (fun h => by rw [ep] at h; omega)
            rw [ep] at k9
            refine z_C.go 1 rfl ?_
            exact z_C.ret rfl rfl k9
        · rw [if_neg hpg]
          have e0 : pg = 0 := by omega
          subst e0
          refine z_C.go 1 rfl ?_
          refine z_C.if (fun _ => ?_) (fun h => absurd (by decide) h)
          exact pg0 w3 f13 (Or.inr ⟨Y, hpoE⟩)
    · rw [if_neg hbk]
      have e := prS_b (n := n) (A := A) (po := po) hs hbk
      have k9 := K w2 f12 (fun h => by rw [e] at h; omega)
      rw [e] at k9
      refine z_C.go 1 rfl ?_
      refine z_C.if (fun _ => ?_) (fun h => absurd (by decide) h)
      refine z_C.go 1 rfl ?_
      exact z_C.ret rfl rfl k9
end SD
