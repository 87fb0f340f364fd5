/-! a reply: both sides -/
def hdrR (s : Nat) (id : Int32) : List Int32 := [1, 1] ++ sayL (iN s) 2 ++ sayL id 4
theorem hdrR_len (s : Nat) (id : Int32) : (hdrR s id).length = 8 := by
  unfold hdrR
  rw [List.length_append, List.length_append, sayL_len, sayL_len]
  rfl
theorem hdrR_byte (s : Nat) (id : Int32) : ∀ y ∈ hdrR s id, y &&& 255 = y := by
  intro y hy
  unfold hdrR at hy
  rcases List.mem_append.mp hy with hy | hy
  · rcases List.mem_append.mp hy with hy | hy
    · rcases List.mem_cons.mp hy with rfl | hy
      · decide
      · rw [List.mem_singleton.mp hy]
        decide
    · exact sayL_byte _ _ y hy
  · exact sayL_byte _ _ y hy
theorem cAll.fr {n : Nat} {A : Nat → Nat → Nat} {w w' : z_W} (h : cAll n A w) (h2 : w'.2 = w.2) (hf : ∀ g i k, ¬ g = 1 → ¬ g = 2 → w'.1 g i k = w.1 g i k) : cAll n A w' := by
  obtain ⟨⟨⟨a, b⟩, c⟩, d⟩ := h
  refine ⟨⟨⟨a, (hf 12 0 2 (by decide) (by decide)).trans b⟩, fun k hk => ?_⟩, fun k hk f g1 g2 => ?_⟩
  · rw [h2, hf 9 _ 1 (by decide) (by decide), hf 9 _ 2 (by decide) (by decide), hf 9 _ 4 (by decide) (by decide)]
    exact c k hk
  · rw [h2, hf 9 _ f (by decide) (by decide)]
    exact d k hk f g1 g2
theorem cNam.fr {D : Nat → Nat} {len : Nat} {G L : List Nat} {w w' : z_W} (h : cNam D len G L w) (h2 : w'.2.1 = w.2.1) (hf : ∀ i k, w'.1 3 i k = w.1 3 i k) (h4 : ∀ k, w'.1 4 0 k = w.1 4 0 k) : cNam D len G L w' :=
  ⟨h.1.fr (hf 0 4) h4 h2, (hf 0 5).trans h.2.1, h.2.2⟩
theorem bClr_f {w : z_W} {b g i k : Nat} (h : ¬ g = 1) : (bClr b w).1 g i k = w.1 g i k := (if_neg (fun h9 => h h9.1)).trans (if_neg (fun h9 => h h9.1))
section WC
variable {s L : Nat} {id : Int32} {w : z_W} {Q : z_W → Option z_V → Prop}
theorem e_hdr (h9 : w.1 3 0 9 = id) (K : ∀ w1, w1 = bApp 1 (hdrR s id) (bClr 1 w) → w1.1 1 1 1 = iN 8 → cRun kP_writeReply (49, [some (zR 0 0), some (zI (iN s))], [], w1) Q) : cRun kP_writeReply (0, [some (zR 0 0), some (zI (iN s))], [], w) Q := by
  refine z_C.go 2 rfl ?_
  refine z_C.call rfl rfl (e_clear (b := 1) (Q := fun w' r => r = none ∧ w' = bClr 1 w) ⟨rfl, rfl⟩) (fun w0 r h => ?_)
  obtain ⟨rfl, q0⟩ := h
  have l0 : w0.1 1 1 1 = iN 0 := by rw [q0]; rfl
  have k0 : w0.1 3 0 9 = id := by rw [q0]; exact (bClr_f (by decide)).trans h9
  refine z_C.go 3 rfl ?_
  refine z_C.call rfl rfl (e_add (b := 1) (x := 1) (Q := fun w' r => r = none ∧ w' = bApp 1 [1] w0) l0 (by omega) ⟨rfl, rfl⟩) (fun w1 r h => ?_)
  obtain ⟨rfl, q1⟩ := h
  have l1 : w1.1 1 1 1 = iN 1 := by rw [q1]; exact bApp_len (b := 1) [1] 0 w0 l0 (by decide)
  refine z_C.go 3 rfl ?_
  refine z_C.call rfl rfl (e_add (b := 1) (x := 1) (Q := fun w' r => r = none ∧ w' = bApp 1 [1] w1) l1 (by omega) ⟨rfl, rfl⟩) (fun w2 r h => ?_)
  obtain ⟨rfl, q2⟩ := h
  rw [q1, ← bApp_app] at q2
  have l2 : w2.1 1 1 1 = iN 2 := by rw [q2]; exact bApp_len (b := 1) ([1] ++ [1]) 0 w0 l0 (by decide)
  refine z_C.go 5 rfl ?_
  refine z_C.call rfl rfl (e_addN (b := 1) (k := 2) (y := (iN s).toInt64) (Q := fun w' r => r = none ∧ w' = bApp 1 (sayL (iN s) 2) w2) (by decide) l2 (by omega) ⟨rfl, bNum_say 2 _ (by decide)⟩) (fun w3 r h => ?_)
  obtain ⟨rfl, q3⟩ := h
  rw [q2, ← bApp_app] at q3
  have e3 : ([1] ++ [1] ++ sayL (iN s) 2).length = 4 := by rw [List.length_append, sayL_len]; rfl
  have l3 : w3.1 1 1 1 = iN 4 := by
    have k9 := bApp_len (b := 1) ([1] ++ [1] ++ sayL (iN s) 2) 0 w0 l0 (by rw [e3]; decide)
    rw [e3, ← q3] at k9
    exact k9
  have k3 : w3.1 3 0 9 = id := by rw [q3]; exact (bA1 (by decide) (by decide)).trans k0
  refine z_C.go 4 rfl ?_
  refine z_C.ld rfl rfl k3 ?_
  refine z_C.go 2 rfl ?_
  refine z_C.call rfl rfl (e_addN (b := 1) (k := 4) (y := id.toInt64) (Q := fun w' r => r = none ∧ w' = bApp 1 (sayL id 4) w3) (by decide) l3 (by omega) ⟨rfl, bNum_say 4 _ (by decide)⟩) (fun w4 r h => ?_)
  obtain ⟨rfl, q4⟩ := h
  rw [q3, ← bApp_app] at q4
  refine K w4 (by rw [q4, q0]; rfl) ?_
  have k9 := bApp_len (b := 1) ([1] ++ [1] ++ sayL (iN s) 2 ++ sayL id 4) 0 w0 l0 (by rw [List.length_append, e3, sayL_len]; decide)
  rw [List.length_append, e3, sayL_len, ← q4] at k9
  exact k9
theorem e_fin {x1 : Option z_V} {X : List Int32} {w0 : z_W} (q : w = bApp 1 X w0) (hL : w.1 1 1 1 = iN L) (hc : L ≤ 512) (hq : Q (bApp 1 (X ++ [3]) w0) none) : cRun kP_writeReply (115, [some (zR 0 0), x1], [], w) Q := by
  refine z_C.go 3 rfl ?_
  refine z_C.call rfl rfl (e_add (b := 1) (x := 3) (Q := fun w' r => r = none ∧ w' = bApp 1 [3] w) hL hc ⟨rfl, rfl⟩) (fun w1 r h => ?_)
  obtain ⟨rfl, q1⟩ := h
  rw [q, ← bApp_app] at q1
  have hq : Q w1 none := by rw [q1]; exact hq
  exact z_C.ret rfl rfl hq
theorem e_wrN (hs : ¬ s = 0) (hs2 : s < 65536) (h9 : w.1 3 0 9 = id) (hq : Q (bApp 1 (hdrR s id ++ [3]) (bClr 1 w)) none) : cRun kP_writeReply (0, [some (zR 0 0), some (zI (iN s))], [], w) Q := by
  refine e_hdr h9 (fun w1 q1 l1 => ?_)
  refine z_C.go 2 rfl ?_
  refine z_C.if (fun h => absurd ((iN_inj (b := 0) (by omega) (by decide)).mp h) hs) (fun _ => ?_)
  refine z_C.go 2 rfl ?_
  refine z_C.if (fun h => absurd ((iN_inj (b := 0) (by omega) (by decide)).mp h) hs) (fun _ => ?_)
  exact e_fin q1 l1 (by decide) hq
theorem e_wrL {n : Nat} {A : Nat → Nat → Nat} (hr : cAll n A w) (hst : ∀ k, k < n → nSt (A k 2)) (hri : ris A n) (hc18 : cn (lv A) n ≤ 18) (h8 : w.1 3 0 8 = iN 10) (h9 : w.1 3 0 9 = id) (hq : Q (bApp 1 (hdrR 0 id ++ lstO A n n ++ [3]) (bClr 1 w)) none) : cRun kP_writeReply (0, [some (zR 0 0), some (zI (iN 0))], [], w) Q := by
  refine e_hdr h9 (fun w1 q1 l1 => ?_)
  have hr1 : cAll n A w1 := by rw [q1]; exact (hr.fr (w' := bClr 1 w) rfl (fun g i k a _ => bClr_f a)).app
  have h81 : w1.1 3 0 8 = iN 10 := by rw [q1]; exact (bA1 (by decide) (by decide)).trans ((bClr_f (by decide)).trans h8)
  refine z_C.go 2 rfl ?_
  refine z_C.if (fun _ => ?_) (fun h => absurd rfl h)
  refine z_C.go 2 rfl ?_
  refine z_C.ld rfl rfl h81 ?_
  refine z_C.go 2 rfl ?_
  refine z_C.if (fun _ => ?_) (fun h => absurd rfl h)
  refine z_C.go 1 rfl ?_
  refine z_C.call rfl rfl (e_all (w := w1) (n := n) (A := A) (Q := fun w' r => r = none ∧ w' = bApp 1 (lstO A n n) w1) hr1 hst hri hc18 h81 l1 (by decide) ⟨rfl, rfl⟩) (fun w2 r h => ?_)
  obtain ⟨rfl, q2⟩ := h
  have hlen := (lstO_len hri n).2
  have l2 : w2.1 1 1 1 = iN (8 + (lstO A n n).length) := by rw [q2]; exact bApp_len (b := 1) (lstO A n n) 8 w1 l1 (by show _ ≤ 512; omega)
  rw [q1, ← bApp_app] at q2
  refine z_C.go 1 rfl ?_
  exact e_fin q2 l2 (by omega) hq
/-- the job that is told of, as the class finds it -/
theorem e_wrP {n : Nat} {A : Nat → Nat → Nat} (hr : cAll n A w) (hn : 1 ≤ n) (h8 : w.1 3 0 8 = iN 2) (h9 : w.1 3 0 9 = id) (hq : Q (bApp 1 (hdrR 0 id ++ tellS (A (n - 1)) ++ [3]) (bClr 1 w)) none) : cRun kP_writeReply (0, [some (zR 0 0), some (zI (iN 0))], [], w) Q := by
  have hn20 := hr.1.1.1
  refine e_hdr h9 (fun w1 q1 l1 => ?_)
  have hr1 : cAll n A w1 := by rw [q1]; exact (hr.fr (w' := bClr 1 w) rfl (fun g i k a _ => bClr_f a)).app
  have h81 : w1.1 3 0 8 = iN 2 := by rw [q1]; exact (bA1 (by decide) (by decide)).trans ((bClr_f (by decide)).trans h8)
  refine z_C.go 2 rfl ?_
  refine z_C.if (fun _ => ?_) (fun h => absurd rfl h)
  refine z_C.go 2 rfl ?_
  refine z_C.ld rfl rfl h81 ?_
  refine z_C.go 2 rfl ?_
  refine z_C.if (fun h => absurd h (by decide)) (fun _ => ?_)
  refine z_C.go 2 rfl ?_
  refine z_C.if (fun _ => ?_) (fun h => absurd rfl h)
  refine z_C.go 3 rfl ?_
  refine z_C.ld rfl rfl h81 ?_
  refine z_C.go 2 rfl ?_
  refine z_C.if (fun _ => ?_) (fun h => absurd rfl h)
  refine z_C.go 2 rfl ?_
  have e1 : iN n - 1 = iN (n - 1) := iN_sub (b := 1) hn
  have i1 : z_in (iN (n - 1)) 20 = true := iN_in (by omega) (by decide)
  have nn : (iN (n - 1)).toNatClampNeg = n - 1 := iN_nat (by omega)
  refine z_C.call (Q' := fun w' r => w' = w1 ∧ r = some (zR 9 (w1.2.2 13 0 (n - 1)))) rfl rfl ?_ (fun w2 r h => ?_)
  · refine z_C.go 1 rfl ?_
    refine z_C.ld rfl rfl hr1.1.1.2 ?_
    refine z_C.go 1 rfl ?_
    refine z_C.if (fun h => absurd ((iN_le (b := 0) (by omega) (by decide)).mp h) (by omega)) (fun _ => ?_)
    refine z_C.go 3 rfl ?_
    refine z_C.ld rfl rfl hr1.1.1.2 ?_
    refine z_C.go 2 rfl ?_
    rw [e1]
    refine z_C.go1 rfl (if_pos ⟨rfl, i1⟩) ?_
    rw [nn]
    refine z_C.go 1 rfl ?_
    exact z_C.ret rfl rfl ⟨rfl, rfl⟩
  obtain ⟨rfl, rfl⟩ := h
  refine z_C.go 1 rfl ?_
  refine z_C.call rfl rfl (e_tellS (w := w2) (r := w2.2.2 13 0 (n - 1)) (a := A (n - 1)) (op := 2) (Q := fun w' r => r = none ∧ w' = bApp 1 (tellS (A (n - 1))) w2) (hr1.2 (n - 1) (by omega)) l1 (by decide) h81 (by decide) (by decide) ⟨rfl, rfl⟩) (fun w3 r h => ?_)
  obtain ⟨rfl, q2⟩ := h
  have l2 : w3.1 1 1 1 = iN (8 + 27) := by
    have k9 := bApp_len (b := 1) (tellS (A (n - 1))) 8 w2 l1 (by rw [tellS_len]; decide)
    rw [tellS_len, ← q2] at k9
    exact k9
  rw [q1, ← bApp_app] at q2
  exact e_fin q2 l2 (by decide) hq
def tellO (op : Nat) (a : Nat → Nat) : List Int32 := if op = 9 then tellB a else tellS a
theorem e_wrJ {len n op k q : Nat} {D : Nat → Nat} {G Lx : List Nat} {A : Nat → Nat → Nat} (hr : cAll n A w) (hc : cNam D len G Lx w) (hqG : q ∈ G) (hj : jA D q) (hop : op = 8 ∨ op = 9 ∨ op = 12 ∨ op = 13) (hf : fndF (fun k => iN (A k 1)) (iN (aX D q)) n 0 = some k) (h8 : w.1 3 0 8 = iN op) (h9 : w.1 3 0 9 = id) (hq : Q (bApp 1 (hdrR 0 id ++ tellO op (A k) ++ [3]) (bClr 1 w)) none) : cRun kP_writeReply (0, [some (zR 0 0), some (zI (iN 0))], [], w) Q := by
  have hn20 := hr.1.1.1
  have hk : k < n := by have := (fndF_some n 0 k hf).2.1; omega
  refine e_hdr h9 (fun w1 q1 l1 => ?_)
  have hr1 : cAll n A w1 := by rw [q1]; exact (hr.fr (w' := bClr 1 w) rfl (fun g i k a _ => bClr_f a)).app
  have h81 : w1.1 3 0 8 = iN op := by rw [q1]; exact (bA1 (by decide) (by decide)).trans ((bClr_f (by decide)).trans h8)
  have hc1 : cNam D len G Lx w1 := by
    rw [q1]
    exact hc.fr (by rw [(bApp_fr (b := 1) (hdrR 0 id) (bClr 1 w)).1]; rfl) (fun i k => (bA1 (by decide) (by decide)).trans (bClr_f (by decide))) (fun k => (bA1 (by decide) (by decide)).trans (bClr_f (by decide)))
  have no : ∀ b : Nat, b < 65536 → ¬ op = b → ¬ iN op = iN b := fun b hb h h9 => h ((iN_inj (by omega) (by omega)).mp h9)
  refine z_C.go 2 rfl ?_
  refine z_C.if (fun _ => ?_) (fun h => absurd rfl h)
  refine z_C.go 2 rfl ?_
  refine z_C.ld rfl rfl h81 ?_
  refine z_C.go 2 rfl ?_
  refine z_C.if (fun h => absurd h (no 10 (by decide) (by omega))) (fun _ => ?_)
  refine z_C.go 2 rfl ?_
  refine z_C.if (fun _ => ?_) (fun h => absurd rfl h)
  refine z_C.go 3 rfl ?_
  refine z_C.ld rfl rfl h81 ?_
  refine z_C.go 2 rfl ?_
  refine z_C.if (fun h => absurd h (no 2 (by decide) (by omega))) (fun _ => ?_)
  refine z_C.go 4 rfl ?_
  refine z_C.call rfl rfl (zC_up (C' := zC) (k_jobNo (Q := fun w' r => w' = w1 ∧ r = some (zI (iN (aX D q)))) hc1 hqG hj ⟨rfl, rfl⟩)) (fun w2 r h => ?_)
  obtain ⟨rfl, rfl⟩ := h
  have ef : fndF (fun j => cJ w2 j 1) (iN (aX D q)) n 0 = some k := by
    rw [← hf]
    exact fndF_congr n 0 (fun j _ hj => (hr1.1.2 j (by omega)).1.1)
  refine z_C.call rfl rfl (zC_up (C' := zC) (k_find (x := iN (aX D q)) (Q := fun w' r => w' = w2 ∧ r = some (zR 9 (w2.2.2 13 0 k))) hr1.1.1.2 hr1.1.1.1 ⟨rfl, by rw [ef]; rfl⟩)) (fun w3 r h => ?_)
  obtain ⟨rfl, rfl⟩ := h
  by_cases c9 : op = 9
  · have et : tellO op (A k) = tellB (A k) := if_pos c9
    rw [et] at hq
    subst c9
    refine z_C.call rfl rfl (e_tellB (w := w3) (r := w3.2.2 13 0 k) (a := A k) (Q := fun w' r => r = none ∧ w' = bApp 1 (tellB (A k)) w3) (hr1.2 k hk) l1 (by decide) h81 ⟨rfl, rfl⟩) (fun w4 r h => ?_)
    obtain ⟨rfl, q2⟩ := h
    have l2 : w4.1 1 1 1 = iN (8 + 86) := by
      have k9 := bApp_len (b := 1) (tellB (A k)) 8 w3 l1 (by rw [tellB_len]; decide)
      rw [tellB_len, ← q2] at k9
      exact k9
    rw [q1, ← bApp_app] at q2
    exact e_fin q2 l2 (by decide) hq
  · have et : tellO op (A k) = tellS (A k) := if_neg c9
    rw [et] at hq
    refine z_C.call rfl rfl (e_tellS (w := w3) (r := w3.2.2 13 0 k) (a := A k) (op := op) (Q := fun w' r => r = none ∧ w' = bApp 1 (tellS (A k)) w3) (hr1.2 k hk) l1 (by decide) h81 (by omega) c9 ⟨rfl, rfl⟩) (fun w4 r h => ?_)
    obtain ⟨rfl, q2⟩ := h
    have l2 : w4.1 1 1 1 = iN (8 + 27) := by
      have k9 := bApp_len (b := 1) (tellS (A k)) 8 w3 l1 (by rw [tellS_len]; decide)
      rw [tellS_len, ← q2] at k9
      exact k9
    rw [q1, ← bApp_app] at q2
    exact e_fin q2 l2 (by decide) hq
end WC
/-! the reference -/
section WM
variable {s L op : Nat} {id of : Int32} {v : z_W} {Q : z_W → Option z_V → Prop}
theorem m_hdr (K : ∀ v1, v1 = mApp 5 23 (hdrR s id) (z_si v 0 0 23 0) → v1.1 0 0 23 = iN 8 → mRun kX_request (155, [some (zR 0 0), some (zI (iN op)), some (zI id), some (zI (iN s)), some (zI of)], [], v1) Q) : mRun kX_request (130, [some (zR 0 0), some (zI (iN op)), some (zI id), some (zI (iN s)), some (zI of)], [], v) Q := by
  refine z_C.go 6 rfl ?_
  show mRun kX_request (140, [some (zR 0 0), some (zI (iN op)), some (zI id), some (zI (iN s)), some (zI of)], [zI 2, zI 257, zR 0 0], z_si v 0 0 23 0) Q
  have l0 : (z_si v 0 0 23 0).1 0 0 23 = iN 0 := rfl
  generalize hv0 : z_si v 0 0 23 0 = v0 at *
  refine z_C.call rfl rfl (m_say (x := 257) (k := 2) (Q := fun v' r => r = none ∧ v' = mApp 5 23 [1, 1] v0) (by decide) l0 (by decide) ⟨rfl, by rw [show sayL 257 2 = [1, 1] by decide]⟩) (fun v1 r h => ?_)
  obtain ⟨rfl, q1⟩ := h
  have l1 : v1.1 0 0 23 = iN 2 := by rw [q1]; exact mApp_len (g := 5) (f := 23) [1, 1] 0 v0 l0
  refine z_C.go 3 rfl ?_
  refine z_C.call rfl rfl (m_say (v := v1) (x := iN s) (k := 2) (Q := fun v' r => r = none ∧ v' = mApp 5 23 (sayL (iN s) 2) v1) (by decide) l1 (by decide) ⟨rfl, rfl⟩) (fun v2 r h => ?_)
  obtain ⟨rfl, q2⟩ := h
  rw [q1, ← mApp_app] at q2
  have e2 : ([1, 1] ++ sayL (iN s) 2).length = 4 := by rw [List.length_append, sayL_len]; rfl
  have l2 : v2.1 0 0 23 = iN 4 := by
    have k9 := mApp_len (g := 5) (f := 23) ([1, 1] ++ sayL (iN s) 2) 0 v0 l0
    rw [e2, ← q2] at k9
    exact k9
  refine z_C.go 3 rfl ?_
  refine z_C.call rfl rfl (m_say (v := v2) (x := id) (k := 4) (Q := fun v' r => r = none ∧ v' = mApp 5 23 (sayL id 4) v2) (by decide) l2 (by decide) ⟨rfl, rfl⟩) (fun v3 r h => ?_)
  obtain ⟨rfl, q3⟩ := h
  rw [q2, ← mApp_app] at q3
  refine K v3 q3 ?_
  have k9 := mApp_len (g := 5) (f := 23) ([1, 1] ++ sayL (iN s) 2 ++ sayL id 4) 0 v0 l0
  rw [List.length_append, e2, sayL_len, ← q3] at k9
  exact k9
theorem m_fin {x1 x2 x4 : Option z_V} {X : List Int32} {v0 : z_W} (q : v = mApp 5 23 X v0) (hL : v.1 0 0 23 = iN L) (hc : L < 800) (hq : Q (mApp 5 23 (X ++ [3]) v0) (some (zI (iN s)))) : mRun kX_request (197, [some (zR 0 0), x1, x2, some (zI (iN s)), x4], [], v) Q := by
  refine z_C.go 3 rfl ?_
  refine z_C.call rfl rfl (m_say (x := iN 3) (k := 1) (Q := fun v' r => r = none ∧ v' = mApp 5 23 [3] v) (by decide) hL (by omega) ⟨rfl, by rw [say1 (by decide)]; rfl⟩) (fun v1 r h => ?_)
  obtain ⟨rfl, q1⟩ := h
  rw [q, ← mApp_app] at q1
  have hq : Q v1 (some (zI (iN s))) := by rw [q1]; exact hq
  refine z_C.go 1 rfl ?_
  exact z_C.ret rfl rfl hq
theorem m_wrN (hs : ¬ s = 0) (hs2 : s < 65536) (hq : Q (mApp 5 23 (hdrR s id ++ [3]) (z_si v 0 0 23 0)) (some (zI (iN s)))) : mRun kX_request (130, [some (zR 0 0), some (zI (iN op)), some (zI id), some (zI (iN s)), some (zI of)], [], v) Q := by
  refine m_hdr (fun v1 q1 l1 => ?_)
  refine z_C.go 2 rfl ?_
  refine z_C.if (fun h => absurd ((iN_inj (b := 0) (by omega) (by decide)).mp h) hs) (fun _ => ?_)
  refine z_C.go 2 rfl ?_
  refine z_C.if (fun h => absurd ((iN_inj (b := 0) (by omega) (by decide)).mp h) hs) (fun _ => ?_)
  exact m_fin q1 l1 (by decide) hq
theorem mAll.fr {n : Nat} {A : Nat → Nat → Nat} {v v' : z_W} (h : mAll n A v) (hf : ∀ g i k, ¬ (g = 0 ∧ ¬ k = 4) → ¬ g = 5 → v'.1 g i k = v.1 g i k) : mAll n A v' := by
  obtain ⟨⟨⟨a, b⟩, c⟩, d⟩ := h
  refine ⟨⟨⟨a, (hf 0 0 4 (by omega) (by omega)).trans b⟩, fun k hk => ?_⟩, fun k hk f g1 g2 => ?_⟩
  · rw [hf 2 0 _ (by omega) (by omega), hf 2 0 _ (by omega) (by omega), hf 2 0 _ (by omega) (by omega)]
    exact c k hk
  · rw [hf 2 0 _ (by omega) (by omega)]
    exact d k hk f g1 g2
theorem m_wrL {n : Nat} {A : Nat → Nat → Nat} (hr : mAll n A v) (hst : ∀ k, k < n → nSt (A k 2)) (hri : ris A n) (hc18 : cn (lv A) n ≤ 18) (hq : Q (mApp 5 23 (hdrR 0 id ++ lstO A n n ++ [3]) (z_si v 0 0 23 0)) (some (zI (iN 0)))) : mRun kX_request (130, [some (zR 0 0), some (zI (iN 10)), some (zI id), some (zI (iN 0)), some (zI of)], [], v) Q := by
  refine m_hdr (fun v1 q1 l1 => ?_)
  have hr1 : mAll n A v1 := by rw [q1]; exact (hr.fr (v' := z_si v 0 0 23 0) (fun g i k a _ => rd_g (by omega))).app
  refine z_C.go 2 rfl ?_
  refine z_C.if (fun _ => ?_) (fun h => absurd rfl h)
  refine z_C.go 3 rfl ?_
  refine z_C.if (fun _ => ?_) (fun h => absurd rfl h)
  refine z_C.go 1 rfl ?_
  refine z_C.call rfl rfl (m_list (v := v1) (n := n) (A := A) (Q := fun v' r => r = none ∧ v' = mApp 5 23 (lstO A n n) v1) hr1 hst hri hc18 l1 (by decide) ⟨rfl, rfl⟩) (fun v2 r h => ?_)
  obtain ⟨rfl, q2⟩ := h
  have hlen := (lstO_len hri n).2
  have l2 : v2.1 0 0 23 = iN (8 + (lstO A n n).length) := by rw [q2]; exact mApp_len (g := 5) (f := 23) (lstO A n n) 8 v1 l1
  rw [q1, ← mApp_app] at q2
  refine z_C.go 1 rfl ?_
  exact m_fin q2 l2 (by omega) hq
theorem m_wrJ {n k : Nat} {A : Nat → Nat → Nat} (hr : mAll n A v) (hop : op < 65536) (h10 : ¬ op = 10) (hf : fndF (fun k => iN (A k 1)) of n 0 = some k) (hq : Q (mApp 5 23 (hdrR 0 id ++ tellO op (A k) ++ [3]) (z_si v 0 0 23 0)) (some (zI (iN 0)))) : mRun kX_request (130, [some (zR 0 0), some (zI (iN op)), some (zI id), some (zI (iN 0)), some (zI of)], [], v) Q := by
  have hn24 := hr.1.1.1
  have hk : k < n := by have := (fndF_some n 0 k hf).2.1; omega
  refine m_hdr (fun v1 q1 l1 => ?_)
  have hr1 : mAll n A v1 := by rw [q1]; exact (hr.fr (v' := z_si v 0 0 23 0) (fun g i k a _ => rd_g (by omega))).app
  refine z_C.go 2 rfl ?_
  refine z_C.if (fun _ => ?_) (fun h => absurd rfl h)
  refine z_C.go 3 rfl ?_
  refine z_C.if (fun h => absurd ((iN_inj (b := 10) (by omega) (by decide)).mp h) h10) (fun _ => ?_)
  refine z_C.go 2 rfl ?_
  refine z_C.if (fun _ => ?_) (fun h => absurd rfl h)
  refine z_C.go 3 rfl ?_
  have ef : fndF (fun j => v1.1 2 0 (10 * j)) of n 0 = some k := by
    rw [← hf]
    exact fndF_congr n 0 (fun j _ hj => (hr1.1.2 j (by omega)).1.1)
  refine z_C.call rfl rfl (m_find (v := v1) (x := of) (Q := fun v' r => v' = v1 ∧ r = some (zI (iN k))) hr1.1.1.2 (by omega) ⟨rfl, by rw [ef]; rfl⟩) (fun v2 r h => ?_)
  obtain ⟨rfl, rfl⟩ := h
  refine z_C.go 3 rfl ?_
  refine z_C.if (fun h => ?_) (fun h => ?_)
  · have c9 : op = 9 := (iN_inj (b := 9) (by omega) (by decide)).mp h
    have et : tellO op (A k) = tellB (A k) := if_pos c9
    rw [et] at hq
    refine z_C.go 2 rfl ?_
    refine z_C.call rfl rfl (m_tellB (v := v2) (k := k) (a := A k) (Q := fun v' r => r = none ∧ v' = mApp 5 23 (tellB (A k)) v2) (by omega) (hr1.2 k hk) l1 (by decide) ⟨rfl, rfl⟩) (fun v3 r h => ?_)
    obtain ⟨rfl, q2⟩ := h
    have l2 : v3.1 0 0 23 = iN (8 + 86) := by
      have k9 := mApp_len (g := 5) (f := 23) (tellB (A k)) 8 v2 l1
      rw [tellB_len, ← q2] at k9
      exact k9
    rw [q1, ← mApp_app] at q2
    exact m_fin q2 l2 (by decide) hq
  · have c9 : ¬ op = 9 := fun h9 => h (by rw [h9]; rfl)
    have et : tellO op (A k) = tellS (A k) := if_neg c9
    rw [et] at hq
    refine z_C.go 1 rfl ?_
    refine z_C.call rfl rfl (m_tellS (v := v2) (k := k) (a := A k) (Q := fun v' r => r = none ∧ v' = mApp 5 23 (tellS (A k)) v2) (by omega) (hr1.2 k hk) l1 (by decide) ⟨rfl, rfl⟩) (fun v3 r h => ?_)
    obtain ⟨rfl, q2⟩ := h
    have l2 : v3.1 0 0 23 = iN (8 + 27) := by
      have k9 := mApp_len (g := 5) (f := 23) (tellS (A k)) 8 v2 l1
      rw [tellS_len, ← q2] at k9
      exact k9
    rw [q1, ← mApp_app] at q2
    exact m_fin q2 l2 (by decide) hq
end WM
