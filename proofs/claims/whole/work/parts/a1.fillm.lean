/-! the reference fills a side -/
theorem z_C.ld {S : z_S} {M : Nat → z_M} {C : Nat → Nat → Option z_I} {mi pc p' : Nat} {I : z_I} {L L' : z_L} {st st' : List z_V} {w w' : z_W} {x y : Int32} {Q : z_W → Option z_V → Prop} (hC : C mi pc = some I) (hs : z_step S M I pc L st w = some (.inl (p', L', .inl x :: st', w'))) (hx : x = y) (k : z_C S M C mi (p', L', .inl y :: st', w') Q) : z_C S M C mi (pc, L, st, w) Q := by
  subst hx
  exact z_C.go1 hC hs k
def nFv (a : Nat → Nat) (P : Nat → Int32) (s bk y x : Nat) : Int32 := if bk = 1 ∧ a 6 = 2 ∧ a 7 = 0 then nF0 a P s bk (nH a - 1 - y) (nW a - 1 - x) else nF0 a P s bk y x
def nFace (a : Nat → Nat) (P : Nat → Int32) (s bk q : Nat) : Int32 := nFv a P s bk (q / nW a) (q % nW a)
def fr7 (v v' : z_W) : Prop := v'.2 = v.2 ∧ ∀ g i k, ¬ g = 7 → v'.1 g i k = v.1 g i k
theorem mK.fr {k : Nat} {a : Nat → Nat} {P : Nat → Int32} {v v' : z_W} (h : mK k a P v) (hf : ∀ g i k, g = 2 ∨ g = 3 → v'.1 g i k = v.1 g i k) : mK k a P v' :=
  ⟨h.1, fun f h1 h2 => (hf 2 0 _ (Or.inl rfl)).trans (h.2.1 f h1 h2), fun q hq => (hf 3 0 _ (Or.inr rfl)).trans (h.2.2 q hq)⟩
section PX
variable {k s r c W H X : Int32} {v : z_W} {Q : z_W → Option z_V → Prop} {y0 y1 y2 y3 : Option z_V}

theorem px_000 (hc : ¬ W ≤ c) (ip : z_in (W * r + c) 48 = true) (hcall : mRun kX_plain (0, [some (zR 0 0), some (zI k), some (zI s), some (zI r), some (zI c), none], [], v) (fun w' r' => w' = v ∧ r' = some (zI X)))
    (K : ∀ x0 x1 x2 x3, mRun kX_face (49, [some (zR 0 0), some (zI k), some (zI s), some (zI 0), some (zI W), some (zI H), some (zI 0), some (zI 0), some (zI r), some (zI (c + 1)), x0, x1, x2, x3], [], z_si v 7 0 (W * r + c).toNatClampNeg X) Q) :
    mRun kX_face (49, [some (zR 0 0), some (zI k), some (zI s), some (zI 0), some (zI W), some (zI H), some (zI 0), some (zI 0), some (zI r), some (zI c), y0, y1, y2, y3], [], v) Q := by
  refine z_C.go 3 rfl ?_
  refine z_C.if (fun h => absurd h hc) (fun _ => ?_)
  refine z_C.go 2 rfl ?_
  refine z_C.if (fun _ => ?_) (fun h => absurd (by decide) h)
  show mRun kX_face (75, [some (zR 0 0), some (zI k), some (zI s), some (zI 0), some (zI W), some (zI H), some (zI 0), some (zI 0), some (zI r), some (zI c), y0, y1, y2, y3], [], v) Q
  refine z_C.go 4 rfl ?_
  refine z_C.if (fun _ => ?_) (fun h => absurd (by decide) h)
  show mRun kX_face (93, [some (zR 0 0), some (zI k), some (zI s), some (zI 0), some (zI W), some (zI H), some (zI 0), some (zI 0), some (zI r), some (zI c), some (zI 0), y1, y2, y3], [], v) Q
  refine z_C.go 4 rfl ?_
  refine z_C.if (fun _ => ?_) (fun h => absurd (by decide) h)
  show mRun kX_face (112, [some (zR 0 0), some (zI k), some (zI s), some (zI 0), some (zI W), some (zI H), some (zI 0), some (zI 0), some (zI r), some (zI c), some (zI 0), some (zI r), y2, y3], [], v) Q
  refine z_C.go 4 rfl ?_
  refine z_C.if (fun _ => ?_) (fun h => absurd (by decide) h)
  show mRun kX_face (121, [some (zR 0 0), some (zI k), some (zI s), some (zI 0), some (zI W), some (zI H), some (zI 0), some (zI 0), some (zI r), some (zI c), some (zI 0), some (zI r), some (zI c), y3], [], v) Q
  refine z_C.go 12 rfl ?_
  refine z_C.if (fun _ => ?_) (fun h => absurd (by decide) h)
  show mRun kX_face (171, [some (zR 0 0), some (zI k), some (zI s), some (zI 0), some (zI W), some (zI H), some (zI 0), some (zI 0), some (zI r), some (zI c), some (zI 0), some (zI r), some (zI c), some (zI s)], [zI ((W * r) + c), zR 7 0], v) Q
  refine z_C.go 5 rfl ?_
  refine z_C.call rfl rfl hcall (fun w' r' h => ?_)
  obtain ⟨rfl, rfl⟩ := h
  refine z_C.go1 rfl (if_pos ⟨rfl, ip⟩) ?_
  refine z_C.go 2 rfl ?_
  exact K _ _ _ _
theorem px_010 (hc : ¬ W ≤ c) (ip : z_in (W * r + c) 48 = true) (hcall : mRun kX_plain (0, [some (zR 0 0), some (zI k), some (zI (2 * s + 0)), some (zI r), some (zI c), none], [], v) (fun w' r' => w' = v ∧ r' = some (zI X)))
    (K : ∀ x0 x1 x2 x3, mRun kX_face (49, [some (zR 0 0), some (zI k), some (zI s), some (zI 0), some (zI W), some (zI H), some (zI 0), some (zI 1), some (zI r), some (zI (c + 1)), x0, x1, x2, x3], [], z_si v 7 0 (W * r + c).toNatClampNeg X) Q) :
    mRun kX_face (49, [some (zR 0 0), some (zI k), some (zI s), some (zI 0), some (zI W), some (zI H), some (zI 0), some (zI 1), some (zI r), some (zI c), y0, y1, y2, y3], [], v) Q := by
  refine z_C.go 3 rfl ?_
  refine z_C.if (fun h => absurd h hc) (fun _ => ?_)
  refine z_C.go 2 rfl ?_
  refine z_C.if (fun _ => ?_) (fun h => absurd (by decide) h)
  show mRun kX_face (75, [some (zR 0 0), some (zI k), some (zI s), some (zI 0), some (zI W), some (zI H), some (zI 0), some (zI 1), some (zI r), some (zI c), y0, y1, y2, y3], [], v) Q
  refine z_C.go 4 rfl ?_
  refine z_C.if (fun _ => ?_) (fun h => absurd (by decide) h)
  show mRun kX_face (93, [some (zR 0 0), some (zI k), some (zI s), some (zI 0), some (zI W), some (zI H), some (zI 0), some (zI 1), some (zI r), some (zI c), some (zI 0), y1, y2, y3], [], v) Q
  refine z_C.go 4 rfl ?_
  refine z_C.if (fun _ => ?_) (fun h => absurd (by decide) h)
  show mRun kX_face (112, [some (zR 0 0), some (zI k), some (zI s), some (zI 0), some (zI W), some (zI H), some (zI 0), some (zI 1), some (zI r), some (zI c), some (zI 0), some (zI r), y2, y3], [], v) Q
  refine z_C.go 4 rfl ?_
  refine z_C.if (fun h => absurd h (by decide)) (fun _ => ?_)
  show mRun kX_face (125, [some (zR 0 0), some (zI k), some (zI s), some (zI 0), some (zI W), some (zI H), some (zI 0), some (zI 1), some (zI r), some (zI c), some (zI 0), some (zI r), some (zI c), y3], [], v) Q
  refine z_C.go 5 rfl ?_
  refine z_C.if (fun _ => ?_) (fun h => absurd (by decide) h)
  show mRun kX_face (136, [some (zR 0 0), some (zI k), some (zI s), some (zI 0), some (zI W), some (zI H), some (zI 0), some (zI 1), some (zI r), some (zI c), some (zI 0), some (zI r), some (zI c), y3], [zI (2 * s)], v) Q
  refine z_C.go 12 rfl ?_
  refine z_C.if (fun _ => ?_) (fun h => absurd (by decide) h)
  show mRun kX_face (171, [some (zR 0 0), some (zI k), some (zI s), some (zI 0), some (zI W), some (zI H), some (zI 0), some (zI 1), some (zI r), some (zI c), some (zI 0), some (zI r), some (zI c), some (zI ((2 * s) + 0))], [zI ((W * r) + c), zR 7 0], v) Q
  refine z_C.go 5 rfl ?_
  refine z_C.call rfl rfl hcall (fun w' r' h => ?_)
  obtain ⟨rfl, rfl⟩ := h
  refine z_C.go1 rfl (if_pos ⟨rfl, ip⟩) ?_
  refine z_C.go 2 rfl ?_
  exact K _ _ _ _
theorem px_110 (hc : ¬ W ≤ c) (ip : z_in (W * r + c) 48 = true) (hcall : mRun kX_plain (0, [some (zR 0 0), some (zI k), some (zI (2 * s + 1)), some (zI r), some (zI c), none], [], v) (fun w' r' => w' = v ∧ r' = some (zI X)))
    (K : ∀ x0 x1 x2 x3, mRun kX_face (49, [some (zR 0 0), some (zI k), some (zI s), some (zI 1), some (zI W), some (zI H), some (zI 0), some (zI 1), some (zI r), some (zI (c + 1)), x0, x1, x2, x3], [], z_si v 7 0 (W * r + c).toNatClampNeg X) Q) :
    mRun kX_face (49, [some (zR 0 0), some (zI k), some (zI s), some (zI 1), some (zI W), some (zI H), some (zI 0), some (zI 1), some (zI r), some (zI c), y0, y1, y2, y3], [], v) Q := by
  refine z_C.go 3 rfl ?_
  refine z_C.if (fun h => absurd h hc) (fun _ => ?_)
  refine z_C.go 2 rfl ?_
  refine z_C.if (fun h => absurd h (by decide)) (fun _ => ?_)
  show mRun kX_face (60, [some (zR 0 0), some (zI k), some (zI s), some (zI 1), some (zI W), some (zI H), some (zI 0), some (zI 1), some (zI r), some (zI c), y0, y1, y2, y3], [], v) Q
  refine z_C.go 3 rfl ?_
  refine z_C.if (fun h => absurd h (by decide)) (fun _ => ?_)
  show mRun kX_face (75, [some (zR 0 0), some (zI k), some (zI s), some (zI 1), some (zI W), some (zI H), some (zI 0), some (zI 1), some (zI r), some (zI c), y0, y1, y2, y3], [], v) Q
  refine z_C.go 4 rfl ?_
  refine z_C.if (fun _ => ?_) (fun h => absurd (by decide) h)
  show mRun kX_face (93, [some (zR 0 0), some (zI k), some (zI s), some (zI 1), some (zI W), some (zI H), some (zI 0), some (zI 1), some (zI r), some (zI c), some (zI 0), y1, y2, y3], [], v) Q
  refine z_C.go 4 rfl ?_
  refine z_C.if (fun _ => ?_) (fun h => absurd (by decide) h)
  show mRun kX_face (112, [some (zR 0 0), some (zI k), some (zI s), some (zI 1), some (zI W), some (zI H), some (zI 0), some (zI 1), some (zI r), some (zI c), some (zI 0), some (zI r), y2, y3], [], v) Q
  refine z_C.go 4 rfl ?_
  refine z_C.if (fun h => absurd h (by decide)) (fun _ => ?_)
  show mRun kX_face (125, [some (zR 0 0), some (zI k), some (zI s), some (zI 1), some (zI W), some (zI H), some (zI 0), some (zI 1), some (zI r), some (zI c), some (zI 0), some (zI r), some (zI c), y3], [], v) Q
  refine z_C.go 5 rfl ?_
  refine z_C.if (fun h => absurd h (by decide)) (fun _ => ?_)
  show mRun kX_face (132, [some (zR 0 0), some (zI k), some (zI s), some (zI 1), some (zI W), some (zI H), some (zI 0), some (zI 1), some (zI r), some (zI c), some (zI 0), some (zI r), some (zI c), y3], [zI (2 * s)], v) Q
  refine z_C.go 13 rfl ?_
  refine z_C.if (fun _ => ?_) (fun h => absurd (by decide) h)
  show mRun kX_face (171, [some (zR 0 0), some (zI k), some (zI s), some (zI 1), some (zI W), some (zI H), some (zI 0), some (zI 1), some (zI r), some (zI c), some (zI 0), some (zI r), some (zI c), some (zI ((2 * s) + 1))], [zI ((W * r) + c), zR 7 0], v) Q
  refine z_C.go 5 rfl ?_
  refine z_C.call rfl rfl hcall (fun w' r' h => ?_)
  obtain ⟨rfl, rfl⟩ := h
  refine z_C.go1 rfl (if_pos ⟨rfl, ip⟩) ?_
  refine z_C.go 2 rfl ?_
  exact K _ _ _ _
theorem px_020 (hc : ¬ W ≤ c) (ip : z_in (W * r + c) 48 = true) (hcall : mRun kX_plain (0, [some (zR 0 0), some (zI k), some (zI (2 * s + 0)), some (zI r), some (zI c), none], [], v) (fun w' r' => w' = v ∧ r' = some (zI X)))
    (K : ∀ x0 x1 x2 x3, mRun kX_face (49, [some (zR 0 0), some (zI k), some (zI s), some (zI 0), some (zI W), some (zI H), some (zI 0), some (zI 2), some (zI r), some (zI (c + 1)), x0, x1, x2, x3], [], z_si v 7 0 (W * r + c).toNatClampNeg X) Q) :
    mRun kX_face (49, [some (zR 0 0), some (zI k), some (zI s), some (zI 0), some (zI W), some (zI H), some (zI 0), some (zI 2), some (zI r), some (zI c), y0, y1, y2, y3], [], v) Q := by
  refine z_C.go 3 rfl ?_
  refine z_C.if (fun h => absurd h hc) (fun _ => ?_)
  refine z_C.go 2 rfl ?_
  refine z_C.if (fun _ => ?_) (fun h => absurd (by decide) h)
  show mRun kX_face (75, [some (zR 0 0), some (zI k), some (zI s), some (zI 0), some (zI W), some (zI H), some (zI 0), some (zI 2), some (zI r), some (zI c), y0, y1, y2, y3], [], v) Q
  refine z_C.go 4 rfl ?_
  refine z_C.if (fun _ => ?_) (fun h => absurd (by decide) h)
  show mRun kX_face (93, [some (zR 0 0), some (zI k), some (zI s), some (zI 0), some (zI W), some (zI H), some (zI 0), some (zI 2), some (zI r), some (zI c), some (zI 0), y1, y2, y3], [], v) Q
  refine z_C.go 4 rfl ?_
  refine z_C.if (fun _ => ?_) (fun h => absurd (by decide) h)
  show mRun kX_face (112, [some (zR 0 0), some (zI k), some (zI s), some (zI 0), some (zI W), some (zI H), some (zI 0), some (zI 2), some (zI r), some (zI c), some (zI 0), some (zI r), y2, y3], [], v) Q
  refine z_C.go 4 rfl ?_
  refine z_C.if (fun h => absurd h (by decide)) (fun _ => ?_)
  show mRun kX_face (125, [some (zR 0 0), some (zI k), some (zI s), some (zI 0), some (zI W), some (zI H), some (zI 0), some (zI 2), some (zI r), some (zI c), some (zI 0), some (zI r), some (zI c), y3], [], v) Q
  refine z_C.go 5 rfl ?_
  refine z_C.if (fun _ => ?_) (fun h => absurd (by decide) h)
  show mRun kX_face (136, [some (zR 0 0), some (zI k), some (zI s), some (zI 0), some (zI W), some (zI H), some (zI 0), some (zI 2), some (zI r), some (zI c), some (zI 0), some (zI r), some (zI c), y3], [zI (2 * s)], v) Q
  refine z_C.go 12 rfl ?_
  refine z_C.if (fun _ => ?_) (fun h => absurd (by decide) h)
  show mRun kX_face (171, [some (zR 0 0), some (zI k), some (zI s), some (zI 0), some (zI W), some (zI H), some (zI 0), some (zI 2), some (zI r), some (zI c), some (zI 0), some (zI r), some (zI c), some (zI ((2 * s) + 0))], [zI ((W * r) + c), zR 7 0], v) Q
  refine z_C.go 5 rfl ?_
  refine z_C.call rfl rfl hcall (fun w' r' h => ?_)
  obtain ⟨rfl, rfl⟩ := h
  refine z_C.go1 rfl (if_pos ⟨rfl, ip⟩) ?_
  refine z_C.go 2 rfl ?_
  exact K _ _ _ _
theorem px_120 (hc : ¬ W ≤ c) (ip : z_in (W * r + c) 48 = true) (hcall : mRun kX_plain (0, [some (zR 0 0), some (zI k), some (zI (2 * s + 1)), some (zI (H - 1 - r)), some (zI (W - 1 - c)), none], [], v) (fun w' r' => w' = v ∧ r' = some (zI X)))
    (K : ∀ x0 x1 x2 x3, mRun kX_face (49, [some (zR 0 0), some (zI k), some (zI s), some (zI 1), some (zI W), some (zI H), some (zI 0), some (zI 2), some (zI r), some (zI (c + 1)), x0, x1, x2, x3], [], z_si v 7 0 (W * r + c).toNatClampNeg X) Q) :
    mRun kX_face (49, [some (zR 0 0), some (zI k), some (zI s), some (zI 1), some (zI W), some (zI H), some (zI 0), some (zI 2), some (zI r), some (zI c), y0, y1, y2, y3], [], v) Q := by
  refine z_C.go 3 rfl ?_
  refine z_C.if (fun h => absurd h hc) (fun _ => ?_)
  refine z_C.go 2 rfl ?_
  refine z_C.if (fun h => absurd h (by decide)) (fun _ => ?_)
  show mRun kX_face (60, [some (zR 0 0), some (zI k), some (zI s), some (zI 1), some (zI W), some (zI H), some (zI 0), some (zI 2), some (zI r), some (zI c), y0, y1, y2, y3], [], v) Q
  refine z_C.go 3 rfl ?_
  refine z_C.if (fun _ => ?_) (fun h => absurd (by decide) h)
  show mRun kX_face (66, [some (zR 0 0), some (zI k), some (zI s), some (zI 1), some (zI W), some (zI H), some (zI 0), some (zI 2), some (zI r), some (zI c), y0, y1, y2, y3], [], v) Q
  refine z_C.go 2 rfl ?_
  refine z_C.if (fun _ => ?_) (fun h => absurd (by decide) h)
  show mRun kX_face (71, [some (zR 0 0), some (zI k), some (zI s), some (zI 1), some (zI W), some (zI H), some (zI 0), some (zI 2), some (zI r), some (zI c), y0, y1, y2, y3], [], v) Q
  refine z_C.go 5 rfl ?_
  refine z_C.if (fun h => absurd h (by decide)) (fun _ => ?_)
  show mRun kX_face (83, [some (zR 0 0), some (zI k), some (zI s), some (zI 1), some (zI W), some (zI H), some (zI 0), some (zI 2), some (zI r), some (zI c), some (zI 1), y1, y2, y3], [], v) Q
  refine z_C.go 9 rfl ?_
  refine z_C.if (fun h => absurd h (by decide)) (fun _ => ?_)
  show mRun kX_face (102, [some (zR 0 0), some (zI k), some (zI s), some (zI 1), some (zI W), some (zI H), some (zI 0), some (zI 2), some (zI r), some (zI c), some (zI 1), some (zI ((H - 1) - r)), y2, y3], [], v) Q
  refine z_C.go 9 rfl ?_
  refine z_C.if (fun h => absurd h (by decide)) (fun _ => ?_)
  show mRun kX_face (125, [some (zR 0 0), some (zI k), some (zI s), some (zI 1), some (zI W), some (zI H), some (zI 0), some (zI 2), some (zI r), some (zI c), some (zI 1), some (zI ((H - 1) - r)), some (zI ((W - 1) - c)), y3], [], v) Q
  refine z_C.go 5 rfl ?_
  refine z_C.if (fun h => absurd h (by decide)) (fun _ => ?_)
  show mRun kX_face (132, [some (zR 0 0), some (zI k), some (zI s), some (zI 1), some (zI W), some (zI H), some (zI 0), some (zI 2), some (zI r), some (zI c), some (zI 1), some (zI ((H - 1) - r)), some (zI ((W - 1) - c)), y3], [zI (2 * s)], v) Q
  refine z_C.go 13 rfl ?_
  refine z_C.if (fun _ => ?_) (fun h => absurd (by decide) h)
  show mRun kX_face (171, [some (zR 0 0), some (zI k), some (zI s), some (zI 1), some (zI W), some (zI H), some (zI 0), some (zI 2), some (zI r), some (zI c), some (zI 1), some (zI ((H - 1) - r)), some (zI ((W - 1) - c)), some (zI ((2 * s) + 1))], [zI ((W * r) + c), zR 7 0], v) Q
  refine z_C.go 5 rfl ?_
  refine z_C.call rfl rfl hcall (fun w' r' h => ?_)
  obtain ⟨rfl, rfl⟩ := h
  refine z_C.go1 rfl (if_pos ⟨rfl, ip⟩) ?_
  refine z_C.go 2 rfl ?_
  exact K _ _ _ _
theorem px_001 (hc : ¬ W ≤ c) (ip : z_in (W * r + c) 48 = true) (hcall : mRun kX_booklet (0, [some (zR 0 0), some (zI k), some (zI s), some (zI 0), some (zI r), some (zI c), none], [], v) (fun w' r' => w' = v ∧ r' = some (zI X)))
    (K : ∀ x0 x1 x2 x3, mRun kX_face (49, [some (zR 0 0), some (zI k), some (zI s), some (zI 0), some (zI W), some (zI H), some (zI 1), some (zI 0), some (zI r), some (zI (c + 1)), x0, x1, x2, x3], [], z_si v 7 0 (W * r + c).toNatClampNeg X) Q) :
    mRun kX_face (49, [some (zR 0 0), some (zI k), some (zI s), some (zI 0), some (zI W), some (zI H), some (zI 1), some (zI 0), some (zI r), some (zI c), y0, y1, y2, y3], [], v) Q := by
  refine z_C.go 3 rfl ?_
  refine z_C.if (fun h => absurd h hc) (fun _ => ?_)
  refine z_C.go 2 rfl ?_
  refine z_C.if (fun _ => ?_) (fun h => absurd (by decide) h)
  show mRun kX_face (75, [some (zR 0 0), some (zI k), some (zI s), some (zI 0), some (zI W), some (zI H), some (zI 1), some (zI 0), some (zI r), some (zI c), y0, y1, y2, y3], [], v) Q
  refine z_C.go 4 rfl ?_
  refine z_C.if (fun _ => ?_) (fun h => absurd (by decide) h)
  show mRun kX_face (93, [some (zR 0 0), some (zI k), some (zI s), some (zI 0), some (zI W), some (zI H), some (zI 1), some (zI 0), some (zI r), some (zI c), some (zI 0), y1, y2, y3], [], v) Q
  refine z_C.go 4 rfl ?_
  refine z_C.if (fun _ => ?_) (fun h => absurd (by decide) h)
  show mRun kX_face (112, [some (zR 0 0), some (zI k), some (zI s), some (zI 0), some (zI W), some (zI H), some (zI 1), some (zI 0), some (zI r), some (zI c), some (zI 0), some (zI r), y2, y3], [], v) Q
  refine z_C.go 4 rfl ?_
  refine z_C.if (fun _ => ?_) (fun h => absurd (by decide) h)
  show mRun kX_face (121, [some (zR 0 0), some (zI k), some (zI s), some (zI 0), some (zI W), some (zI H), some (zI 1), some (zI 0), some (zI r), some (zI c), some (zI 0), some (zI r), some (zI c), y3], [], v) Q
  refine z_C.go 12 rfl ?_
  refine z_C.if (fun h => absurd h (by decide)) (fun _ => ?_)
  show mRun kX_face (157, [some (zR 0 0), some (zI k), some (zI s), some (zI 0), some (zI W), some (zI H), some (zI 1), some (zI 0), some (zI r), some (zI c), some (zI 0), some (zI r), some (zI c), some (zI s)], [zI ((W * r) + c), zR 7 0], v) Q
  refine z_C.go 6 rfl ?_
  refine z_C.call rfl rfl hcall (fun w' r' h => ?_)
  obtain ⟨rfl, rfl⟩ := h
  refine z_C.go 1 rfl ?_
  refine z_C.go1 rfl (if_pos ⟨rfl, ip⟩) ?_
  refine z_C.go 2 rfl ?_
  exact K _ _ _ _
theorem px_101 (hc : ¬ W ≤ c) (ip : z_in (W * r + c) 48 = true) (hcall : mRun kX_booklet (0, [some (zR 0 0), some (zI k), some (zI s), some (zI 1), some (zI r), some (zI c), none], [], v) (fun w' r' => w' = v ∧ r' = some (zI X)))
    (K : ∀ x0 x1 x2 x3, mRun kX_face (49, [some (zR 0 0), some (zI k), some (zI s), some (zI 1), some (zI W), some (zI H), some (zI 1), some (zI 0), some (zI r), some (zI (c + 1)), x0, x1, x2, x3], [], z_si v 7 0 (W * r + c).toNatClampNeg X) Q) :
    mRun kX_face (49, [some (zR 0 0), some (zI k), some (zI s), some (zI 1), some (zI W), some (zI H), some (zI 1), some (zI 0), some (zI r), some (zI c), y0, y1, y2, y3], [], v) Q := by
  refine z_C.go 3 rfl ?_
  refine z_C.if (fun h => absurd h hc) (fun _ => ?_)
  refine z_C.go 2 rfl ?_
  refine z_C.if (fun h => absurd h (by decide)) (fun _ => ?_)
  show mRun kX_face (60, [some (zR 0 0), some (zI k), some (zI s), some (zI 1), some (zI W), some (zI H), some (zI 1), some (zI 0), some (zI r), some (zI c), y0, y1, y2, y3], [], v) Q
  refine z_C.go 3 rfl ?_
  refine z_C.if (fun h => absurd h (by decide)) (fun _ => ?_)
  show mRun kX_face (75, [some (zR 0 0), some (zI k), some (zI s), some (zI 1), some (zI W), some (zI H), some (zI 1), some (zI 0), some (zI r), some (zI c), y0, y1, y2, y3], [], v) Q
  refine z_C.go 4 rfl ?_
  refine z_C.if (fun _ => ?_) (fun h => absurd (by decide) h)
  show mRun kX_face (93, [some (zR 0 0), some (zI k), some (zI s), some (zI 1), some (zI W), some (zI H), some (zI 1), some (zI 0), some (zI r), some (zI c), some (zI 0), y1, y2, y3], [], v) Q
  refine z_C.go 4 rfl ?_
  refine z_C.if (fun _ => ?_) (fun h => absurd (by decide) h)
  show mRun kX_face (112, [some (zR 0 0), some (zI k), some (zI s), some (zI 1), some (zI W), some (zI H), some (zI 1), some (zI 0), some (zI r), some (zI c), some (zI 0), some (zI r), y2, y3], [], v) Q
  refine z_C.go 4 rfl ?_
  refine z_C.if (fun _ => ?_) (fun h => absurd (by decide) h)
  show mRun kX_face (121, [some (zR 0 0), some (zI k), some (zI s), some (zI 1), some (zI W), some (zI H), some (zI 1), some (zI 0), some (zI r), some (zI c), some (zI 0), some (zI r), some (zI c), y3], [], v) Q
  refine z_C.go 12 rfl ?_
  refine z_C.if (fun h => absurd h (by decide)) (fun _ => ?_)
  show mRun kX_face (157, [some (zR 0 0), some (zI k), some (zI s), some (zI 1), some (zI W), some (zI H), some (zI 1), some (zI 0), some (zI r), some (zI c), some (zI 0), some (zI r), some (zI c), some (zI s)], [zI ((W * r) + c), zR 7 0], v) Q
  refine z_C.go 6 rfl ?_
  refine z_C.call rfl rfl hcall (fun w' r' h => ?_)
  obtain ⟨rfl, rfl⟩ := h
  refine z_C.go 1 rfl ?_
  refine z_C.go1 rfl (if_pos ⟨rfl, ip⟩) ?_
  refine z_C.go 2 rfl ?_
  exact K _ _ _ _
theorem px_011 (hc : ¬ W ≤ c) (ip : z_in (W * r + c) 48 = true) (hcall : mRun kX_booklet (0, [some (zR 0 0), some (zI k), some (zI s), some (zI 0), some (zI r), some (zI c), none], [], v) (fun w' r' => w' = v ∧ r' = some (zI X)))
    (K : ∀ x0 x1 x2 x3, mRun kX_face (49, [some (zR 0 0), some (zI k), some (zI s), some (zI 0), some (zI W), some (zI H), some (zI 1), some (zI 1), some (zI r), some (zI (c + 1)), x0, x1, x2, x3], [], z_si v 7 0 (W * r + c).toNatClampNeg X) Q) :
    mRun kX_face (49, [some (zR 0 0), some (zI k), some (zI s), some (zI 0), some (zI W), some (zI H), some (zI 1), some (zI 1), some (zI r), some (zI c), y0, y1, y2, y3], [], v) Q := by
  refine z_C.go 3 rfl ?_
  refine z_C.if (fun h => absurd h hc) (fun _ => ?_)
  refine z_C.go 2 rfl ?_
  refine z_C.if (fun _ => ?_) (fun h => absurd (by decide) h)
  show mRun kX_face (75, [some (zR 0 0), some (zI k), some (zI s), some (zI 0), some (zI W), some (zI H), some (zI 1), some (zI 1), some (zI r), some (zI c), y0, y1, y2, y3], [], v) Q
  refine z_C.go 4 rfl ?_
  refine z_C.if (fun _ => ?_) (fun h => absurd (by decide) h)
  show mRun kX_face (93, [some (zR 0 0), some (zI k), some (zI s), some (zI 0), some (zI W), some (zI H), some (zI 1), some (zI 1), some (zI r), some (zI c), some (zI 0), y1, y2, y3], [], v) Q
  refine z_C.go 4 rfl ?_
  refine z_C.if (fun _ => ?_) (fun h => absurd (by decide) h)
  show mRun kX_face (112, [some (zR 0 0), some (zI k), some (zI s), some (zI 0), some (zI W), some (zI H), some (zI 1), some (zI 1), some (zI r), some (zI c), some (zI 0), some (zI r), y2, y3], [], v) Q
  refine z_C.go 4 rfl ?_
  refine z_C.if (fun h => absurd h (by decide)) (fun _ => ?_)
  show mRun kX_face (125, [some (zR 0 0), some (zI k), some (zI s), some (zI 0), some (zI W), some (zI H), some (zI 1), some (zI 1), some (zI r), some (zI c), some (zI 0), some (zI r), some (zI c), y3], [], v) Q
  refine z_C.go 5 rfl ?_
  refine z_C.if (fun _ => ?_) (fun h => absurd (by decide) h)
  show mRun kX_face (136, [some (zR 0 0), some (zI k), some (zI s), some (zI 0), some (zI W), some (zI H), some (zI 1), some (zI 1), some (zI r), some (zI c), some (zI 0), some (zI r), some (zI c), y3], [zI (2 * s)], v) Q
  refine z_C.go 12 rfl ?_
  refine z_C.if (fun h => absurd h (by decide)) (fun _ => ?_)
  show mRun kX_face (157, [some (zR 0 0), some (zI k), some (zI s), some (zI 0), some (zI W), some (zI H), some (zI 1), some (zI 1), some (zI r), some (zI c), some (zI 0), some (zI r), some (zI c), some (zI ((2 * s) + 0))], [zI ((W * r) + c), zR 7 0], v) Q
  refine z_C.go 6 rfl ?_
  refine z_C.call rfl rfl hcall (fun w' r' h => ?_)
  obtain ⟨rfl, rfl⟩ := h
  refine z_C.go 1 rfl ?_
  refine z_C.go1 rfl (if_pos ⟨rfl, ip⟩) ?_
  refine z_C.go 2 rfl ?_
  exact K _ _ _ _
theorem px_111 (hc : ¬ W ≤ c) (ip : z_in (W * r + c) 48 = true) (hcall : mRun kX_booklet (0, [some (zR 0 0), some (zI k), some (zI s), some (zI 1), some (zI r), some (zI c), none], [], v) (fun w' r' => w' = v ∧ r' = some (zI X)))
    (K : ∀ x0 x1 x2 x3, mRun kX_face (49, [some (zR 0 0), some (zI k), some (zI s), some (zI 1), some (zI W), some (zI H), some (zI 1), some (zI 1), some (zI r), some (zI (c + 1)), x0, x1, x2, x3], [], z_si v 7 0 (W * r + c).toNatClampNeg X) Q) :
    mRun kX_face (49, [some (zR 0 0), some (zI k), some (zI s), some (zI 1), some (zI W), some (zI H), some (zI 1), some (zI 1), some (zI r), some (zI c), y0, y1, y2, y3], [], v) Q := by
  refine z_C.go 3 rfl ?_
  refine z_C.if (fun h => absurd h hc) (fun _ => ?_)
  refine z_C.go 2 rfl ?_
  refine z_C.if (fun h => absurd h (by decide)) (fun _ => ?_)
  show mRun kX_face (60, [some (zR 0 0), some (zI k), some (zI s), some (zI 1), some (zI W), some (zI H), some (zI 1), some (zI 1), some (zI r), some (zI c), y0, y1, y2, y3], [], v) Q
  refine z_C.go 3 rfl ?_
  refine z_C.if (fun h => absurd h (by decide)) (fun _ => ?_)
  show mRun kX_face (75, [some (zR 0 0), some (zI k), some (zI s), some (zI 1), some (zI W), some (zI H), some (zI 1), some (zI 1), some (zI r), some (zI c), y0, y1, y2, y3], [], v) Q
  refine z_C.go 4 rfl ?_
  refine z_C.if (fun _ => ?_) (fun h => absurd (by decide) h)
  show mRun kX_face (93, [some (zR 0 0), some (zI k), some (zI s), some (zI 1), some (zI W), some (zI H), some (zI 1), some (zI 1), some (zI r), some (zI c), some (zI 0), y1, y2, y3], [], v) Q
  refine z_C.go 4 rfl ?_
  refine z_C.if (fun _ => ?_) (fun h => absurd (by decide) h)
  show mRun kX_face (112, [some (zR 0 0), some (zI k), some (zI s), some (zI 1), some (zI W), some (zI H), some (zI 1), some (zI 1), some (zI r), some (zI c), some (zI 0), some (zI r), y2, y3], [], v) Q
  refine z_C.go 4 rfl ?_
  refine z_C.if (fun h => absurd h (by decide)) (fun _ => ?_)
  show mRun kX_face (125, [some (zR 0 0), some (zI k), some (zI s), some (zI 1), some (zI W), some (zI H), some (zI 1), some (zI 1), some (zI r), some (zI c), some (zI 0), some (zI r), some (zI c), y3], [], v) Q
  refine z_C.go 5 rfl ?_
  refine z_C.if (fun h => absurd h (by decide)) (fun _ => ?_)
  show mRun kX_face (132, [some (zR 0 0), some (zI k), some (zI s), some (zI 1), some (zI W), some (zI H), some (zI 1), some (zI 1), some (zI r), some (zI c), some (zI 0), some (zI r), some (zI c), y3], [zI (2 * s)], v) Q
  refine z_C.go 13 rfl ?_
  refine z_C.if (fun h => absurd h (by decide)) (fun _ => ?_)
  show mRun kX_face (157, [some (zR 0 0), some (zI k), some (zI s), some (zI 1), some (zI W), some (zI H), some (zI 1), some (zI 1), some (zI r), some (zI c), some (zI 0), some (zI r), some (zI c), some (zI ((2 * s) + 1))], [zI ((W * r) + c), zR 7 0], v) Q
  refine z_C.go 6 rfl ?_
  refine z_C.call rfl rfl hcall (fun w' r' h => ?_)
  obtain ⟨rfl, rfl⟩ := h
  refine z_C.go 1 rfl ?_
  refine z_C.go1 rfl (if_pos ⟨rfl, ip⟩) ?_
  refine z_C.go 2 rfl ?_
  exact K _ _ _ _
theorem px_021 (hc : ¬ W ≤ c) (ip : z_in (W * r + c) 48 = true) (hcall : mRun kX_booklet (0, [some (zR 0 0), some (zI k), some (zI s), some (zI 0), some (zI r), some (zI c), none], [], v) (fun w' r' => w' = v ∧ r' = some (zI X)))
    (K : ∀ x0 x1 x2 x3, mRun kX_face (49, [some (zR 0 0), some (zI k), some (zI s), some (zI 0), some (zI W), some (zI H), some (zI 1), some (zI 2), some (zI r), some (zI (c + 1)), x0, x1, x2, x3], [], z_si v 7 0 (W * r + c).toNatClampNeg X) Q) :
    mRun kX_face (49, [some (zR 0 0), some (zI k), some (zI s), some (zI 0), some (zI W), some (zI H), some (zI 1), some (zI 2), some (zI r), some (zI c), y0, y1, y2, y3], [], v) Q := by
  refine z_C.go 3 rfl ?_
  refine z_C.if (fun h => absurd h hc) (fun _ => ?_)
  refine z_C.go 2 rfl ?_
  refine z_C.if (fun _ => ?_) (fun h => absurd (by decide) h)
  show mRun kX_face (75, [some (zR 0 0), some (zI k), some (zI s), some (zI 0), some (zI W), some (zI H), some (zI 1), some (zI 2), some (zI r), some (zI c), y0, y1, y2, y3], [], v) Q
  refine z_C.go 4 rfl ?_
  refine z_C.if (fun _ => ?_) (fun h => absurd (by decide) h)
  show mRun kX_face (93, [some (zR 0 0), some (zI k), some (zI s), some (zI 0), some (zI W), some (zI H), some (zI 1), some (zI 2), some (zI r), some (zI c), some (zI 0), y1, y2, y3], [], v) Q
  refine z_C.go 4 rfl ?_
  refine z_C.if (fun _ => ?_) (fun h => absurd (by decide) h)
  show mRun kX_face (112, [some (zR 0 0), some (zI k), some (zI s), some (zI 0), some (zI W), some (zI H), some (zI 1), some (zI 2), some (zI r), some (zI c), some (zI 0), some (zI r), y2, y3], [], v) Q
  refine z_C.go 4 rfl ?_
  refine z_C.if (fun h => absurd h (by decide)) (fun _ => ?_)
  show mRun kX_face (125, [some (zR 0 0), some (zI k), some (zI s), some (zI 0), some (zI W), some (zI H), some (zI 1), some (zI 2), some (zI r), some (zI c), some (zI 0), some (zI r), some (zI c), y3], [], v) Q
  refine z_C.go 5 rfl ?_
  refine z_C.if (fun _ => ?_) (fun h => absurd (by decide) h)
  show mRun kX_face (136, [some (zR 0 0), some (zI k), some (zI s), some (zI 0), some (zI W), some (zI H), some (zI 1), some (zI 2), some (zI r), some (zI c), some (zI 0), some (zI r), some (zI c), y3], [zI (2 * s)], v) Q
  refine z_C.go 12 rfl ?_
  refine z_C.if (fun h => absurd h (by decide)) (fun _ => ?_)
  show mRun kX_face (157, [some (zR 0 0), some (zI k), some (zI s), some (zI 0), some (zI W), some (zI H), some (zI 1), some (zI 2), some (zI r), some (zI c), some (zI 0), some (zI r), some (zI c), some (zI ((2 * s) + 0))], [zI ((W * r) + c), zR 7 0], v) Q
  refine z_C.go 6 rfl ?_
  refine z_C.call rfl rfl hcall (fun w' r' h => ?_)
  obtain ⟨rfl, rfl⟩ := h
  refine z_C.go 1 rfl ?_
  refine z_C.go1 rfl (if_pos ⟨rfl, ip⟩) ?_
  refine z_C.go 2 rfl ?_
  exact K _ _ _ _
theorem px_121 (hc : ¬ W ≤ c) (ip : z_in (W * r + c) 48 = true) (hcall : mRun kX_booklet (0, [some (zR 0 0), some (zI k), some (zI s), some (zI 1), some (zI r), some (zI c), none], [], v) (fun w' r' => w' = v ∧ r' = some (zI X)))
    (K : ∀ x0 x1 x2 x3, mRun kX_face (49, [some (zR 0 0), some (zI k), some (zI s), some (zI 1), some (zI W), some (zI H), some (zI 1), some (zI 2), some (zI r), some (zI (c + 1)), x0, x1, x2, x3], [], z_si v 7 0 (W * r + c).toNatClampNeg X) Q) :
    mRun kX_face (49, [some (zR 0 0), some (zI k), some (zI s), some (zI 1), some (zI W), some (zI H), some (zI 1), some (zI 2), some (zI r), some (zI c), y0, y1, y2, y3], [], v) Q := by
  refine z_C.go 3 rfl ?_
  refine z_C.if (fun h => absurd h hc) (fun _ => ?_)
  refine z_C.go 2 rfl ?_
  refine z_C.if (fun h => absurd h (by decide)) (fun _ => ?_)
  show mRun kX_face (60, [some (zR 0 0), some (zI k), some (zI s), some (zI 1), some (zI W), some (zI H), some (zI 1), some (zI 2), some (zI r), some (zI c), y0, y1, y2, y3], [], v) Q
  refine z_C.go 3 rfl ?_
  refine z_C.if (fun _ => ?_) (fun h => absurd (by decide) h)
  show mRun kX_face (66, [some (zR 0 0), some (zI k), some (zI s), some (zI 1), some (zI W), some (zI H), some (zI 1), some (zI 2), some (zI r), some (zI c), y0, y1, y2, y3], [], v) Q
  refine z_C.go 2 rfl ?_
  refine z_C.if (fun h => absurd h (by decide)) (fun _ => ?_)
  show mRun kX_face (75, [some (zR 0 0), some (zI k), some (zI s), some (zI 1), some (zI W), some (zI H), some (zI 1), some (zI 2), some (zI r), some (zI c), y0, y1, y2, y3], [], v) Q
  refine z_C.go 4 rfl ?_
  refine z_C.if (fun _ => ?_) (fun h => absurd (by decide) h)
  show mRun kX_face (93, [some (zR 0 0), some (zI k), some (zI s), some (zI 1), some (zI W), some (zI H), some (zI 1), some (zI 2), some (zI r), some (zI c), some (zI 0), y1, y2, y3], [], v) Q
  refine z_C.go 4 rfl ?_
  refine z_C.if (fun _ => ?_) (fun h => absurd (by decide) h)
  show mRun kX_face (112, [some (zR 0 0), some (zI k), some (zI s), some (zI 1), some (zI W), some (zI H), some (zI 1), some (zI 2), some (zI r), some (zI c), some (zI 0), some (zI r), y2, y3], [], v) Q
  refine z_C.go 4 rfl ?_
  refine z_C.if (fun h => absurd h (by decide)) (fun _ => ?_)
  show mRun kX_face (125, [some (zR 0 0), some (zI k), some (zI s), some (zI 1), some (zI W), some (zI H), some (zI 1), some (zI 2), some (zI r), some (zI c), some (zI 0), some (zI r), some (zI c), y3], [], v) Q
  refine z_C.go 5 rfl ?_
  refine z_C.if (fun h => absurd h (by decide)) (fun _ => ?_)
  show mRun kX_face (132, [some (zR 0 0), some (zI k), some (zI s), some (zI 1), some (zI W), some (zI H), some (zI 1), some (zI 2), some (zI r), some (zI c), some (zI 0), some (zI r), some (zI c), y3], [zI (2 * s)], v) Q
  refine z_C.go 13 rfl ?_
  refine z_C.if (fun h => absurd h (by decide)) (fun _ => ?_)
  show mRun kX_face (157, [some (zR 0 0), some (zI k), some (zI s), some (zI 1), some (zI W), some (zI H), some (zI 1), some (zI 2), some (zI r), some (zI c), some (zI 0), some (zI r), some (zI c), some (zI ((2 * s) + 1))], [zI ((W * r) + c), zR 7 0], v) Q
  refine z_C.go 6 rfl ?_
  refine z_C.call rfl rfl hcall (fun w' r' h => ?_)
  obtain ⟨rfl, rfl⟩ := h
  refine z_C.go 1 rfl ?_
  refine z_C.go1 rfl (if_pos ⟨rfl, ip⟩) ?_
  refine z_C.go 2 rfl ?_
  exact K _ _ _ _
end PX
