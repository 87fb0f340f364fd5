/-! numbers as bytes, attributes of a reply -/
def sB (x : Int32) (k : Nat) : Int32 := (x >>> ((8 * iN k) &&& 31)) &&& 255
theorem sB_bits (x : BitVec 32) (s : Nat) (hs : s ≤ 24) : ((x.signExtend 64).sshiftRight s).signExtend 32 &&& 255#32 = x.sshiftRight s &&& 255#32 := by
  apply BitVec.eq_of_getLsbD_eq
  intro i hi
  rw [BitVec.getLsbD_and, BitVec.getLsbD_and]
  by_cases h8 : i < 8
  · congr 1
    rw [BitVec.getLsbD_signExtend, BitVec.getLsbD_sshiftRight, BitVec.getLsbD_sshiftRight, BitVec.getLsbD_signExtend]
    have a1 : i < 64 := by omega
    have a2 : s + i < 64 := by omega
    have a3 : s + i < 32 := by omega
    have a4 : ¬ 64 ≤ i := by omega
    have a5 : ¬ 32 ≤ i := by omega
    simp [hi, a1, a2, a3, a4, a5]
  · have : (255#32).getLsbD i = false := by
      rw [show (255#32) = BitVec.ofNat 32 (2 ^ 8 - 1) from rfl, BitVec.getLsbD_ofNat, Nat.testBit_two_pow_sub_one]
      simp [h8]
    rw [this, Bool.and_false, Bool.and_false]
theorem sB_64 {x : Int32} {k : Nat} (hk : k < 4) : byteAt x.toInt64 k &&& 255 = sB x k := by
  unfold byteAt sB
  apply Int32.toBitVec_inj.mp
  rw [Int32.toBitVec_and, Int32.toBitVec_and, Int64.toBitVec_toInt32, Int64.toBitVec_shiftRight, Int32.toBitVec_toInt64, Int32.toBitVec_shiftRight]
  have c : k = 0 ∨ k = 1 ∨ k = 2 ∨ k = 3 := by omega
  rcases c with rfl | rfl | rfl | rfl
  · exact sB_bits x.toBitVec 0 (by decide)
  · exact sB_bits x.toBitVec 8 (by decide)
  · exact sB_bits x.toBitVec 16 (by decide)
  · exact sB_bits x.toBitVec 24 (by decide)
theorem m255 (x : Int32) : x &&& 255 &&& 255 = x &&& 255 := by
  rw [Int32.and_assoc]
  rfl
def sayL (x : Int32) : Nat → List Int32
  | 0 => []
  | k + 1 => sB x k :: sayL x k
theorem sayL_len (x : Int32) : ∀ k, (sayL x k).length = k := by
  intro k
  induction k with
  | zero => rfl
  | succ k ih => show (sayL x k).length + 1 = k + 1; rw [ih]
theorem sayL_byte (x : Int32) : ∀ k, ∀ y ∈ sayL x k, y &&& 255 = y := by
  intro k
  induction k with
  | zero => intro y hy; cases hy
  | succ k ih =>
    intro y hy
    rcases List.mem_cons.mp hy with rfl | hy
    · exact m255 _
    · exact ih y hy
theorem bAdd_mask {b : Nat} {x : Int32} {w : z_W} : bAdd b x w = bAdd b (x &&& 255) w := by
  unfold bAdd
  rw [m255]
theorem bAdd_of {b : Nat} {x y : Int32} {w : z_W} (h : x &&& 255 = y) : bAdd b x w = bAdd b y w := by rw [bAdd_mask, h]
theorem bNum_say {b : Nat} {x : Int32} : ∀ (k : Nat) (w : z_W), k ≤ 4 → bNum b x.toInt64 k w = bApp b (sayL x k) w := by
  intro k
  induction k with
  | zero => intro w _; rfl
  | succ k ih =>
    intro w hk
    show bNum b x.toInt64 k (bAdd b (byteAt x.toInt64 k) w) = bApp b (sayL x k) (bAdd b (sB x k) w)
    rw [bAdd_of (sB_64 (x := x) (show k < 4 by omega)), ih _ (by omega)]
/-- the letters of a name, as bytes -/
def lettL (l : List Nat) : List Int32 := l.map (fun x => iN (96 + x))
def bytL (y : Int64) : Nat → List Int32
  | 0 => []
  | k + 1 => byteAt y k :: bytL y k
theorem bNum_byt {b : Nat} {y : Int64} : ∀ (k : Nat) (w : z_W), bNum b y k w = bApp b (bytL y k) w := by
  intro k
  induction k with
  | zero => intro w; rfl
  | succ k ih => intro w; exact ih _
theorem bApp_mask {b : Nat} : ∀ (l : List Int32) (w : z_W), bApp b l w = bApp b (l.map (fun x => x &&& 255)) w := by
  intro l
  induction l with
  | nil => intro w; rfl
  | cons x l ih =>
    intro w
    show bApp b l (bAdd b x w) = bApp b (l.map (fun x => x &&& 255)) (bAdd b (x &&& 255) w)
    rw [← bAdd_mask, ih]
/-- an attribute of a reply -/
def intL (l : List Nat) (x : Int32) : List Int32 := [33] ++ sayL (iN l.length) 2 ++ lettL l ++ sayL 4 2 ++ sayL x 4
theorem lettL_len (l : List Nat) : (lettL l).length = l.length := by unfold lettL; rw [List.length_map]
theorem intL_len (l : List Nat) (x : Int32) : (intL l x).length = l.length + 9 := by
  unfold intL
  rw [List.length_append, List.length_append, List.length_append, List.length_append, sayL_len, sayL_len, sayL_len, lettL_len]
  show 1 + 2 + l.length + 2 + 4 = _
  omega
theorem lettL_byte {l : List Nat} (h : ∀ x ∈ l, x < 100) : ∀ y ∈ lettL l, y &&& 255 = y := by
  intro y hy
  obtain ⟨x, hx, rfl⟩ := List.mem_map.mp hy
  have := h x hx
  exact byte_n (by omega)
theorem intL_byte {l : List Nat} {x : Int32} (h : ∀ x ∈ l, x < 100) : ∀ y ∈ intL l x, y &&& 255 = y := by
  intro y hy
  unfold intL at hy
  rcases List.mem_append.mp hy with hy | hy
  · rcases List.mem_append.mp hy with hy | hy
    · rcases List.mem_append.mp hy with hy | hy
      · rcases List.mem_append.mp hy with hy | hy
        · rw [List.mem_singleton.mp hy]
          decide
        · exact sayL_byte _ _ y hy
      · exact lettL_byte h y hy
    · exact sayL_byte _ _ y hy
  · exact sayL_byte _ _ y hy
/-! the class -/
def cntL (y : Int64) : Nat → Nat → Nat
  | 0, _ => 0
  | d + 1, i => (if lg_cmp ((y >>> ((8 * iN i).toInt64 &&& 63)) &&& 255) 0 = 0 then 0 else 1) + cntL y d (i + 1)
section BC
variable {w : z_W} {Q : z_W → Option z_V → Prop}
theorem k_letters {y : Int64} {k : Nat} (hk : cntL y 8 0 = k) (hq : Q w (some (zI (iN k)))) : z_C sC zM zCr kB_lettersOf (0, [some (zL y), none, none, none], [], w) Q := by
  have loop : ∀ (d i c : Nat), i + d = 8 → c + cntL y d i = k → z_C sC zM zCr kB_lettersOf (4, [some (zL y), none, some (zI (iN c)), some (zI (iN i))], [], w) Q := by
    intro d
    induction d with
    | zero =>
      intro i c hi hc
      have e : i = 8 := by omega
      subst e
      have hc : c = k := hc
      subst hc
      refine z_C.go 3 rfl ?_
      refine z_C.if (fun _ => ?_) (fun h => absurd (by decide) h)
      refine z_C.go 1 rfl ?_
      exact z_C.ret rfl rfl hq
    | succ d ih =>
      intro i c hi hc
      have hc : c + ((if lg_cmp ((y >>> ((8 * iN i).toInt64 &&& 63)) &&& 255) 0 = 0 then 0 else 1) + cntL y d (i + 1)) = k := hc
      refine z_C.go 3 rfl ?_
      refine z_C.if (fun h => absurd ((iN_le (a := 8) (by decide) (by omega)).mp h) (by omega)) (fun _ => ?_)
      refine z_C.go 10 rfl ?_
      refine z_C.if (fun h => ?_) (fun h => ?_)
      · have h : lg_cmp ((y >>> ((8 * iN i).toInt64 &&& 63)) &&& 255) 0 = 0 := h
        rw [if_pos h] at hc
        have k9 := ih (i + 1) c (by omega) (by omega)
        rw [← iN_add i 1] at k9
        refine z_C.go 2 rfl ?_
        exact k9
      · have h : ¬ lg_cmp ((y >>> ((8 * iN i).toInt64 &&& 63)) &&& 255) 0 = 0 := h
        rw [if_neg h] at hc
        have k9 := ih (i + 1) (c + 1) (by omega) (by omega)
        rw [← iN_add i 1, ← iN_add c 1] at k9
        refine z_C.go 3 rfl ?_
        exact k9
  refine z_C.go 4 rfl ?_
  exact loop 8 0 0 rfl (by rw [Nat.zero_add]; exact hk)
def okY (y : Int64) (l : List Nat) : Bool := decide (cntL y 8 0 = l.length) && decide ((bytL y l.length).map (fun x => x &&& 255) = lettL l) && decide (l.length ≤ 8)
theorem e_addI {y : Int64} {l : List Nat} {x : Int32} {L : Nat} (hy : okY y l = true) (hL : w.1 1 1 1 = iN L) (hc : L + (l.length + 9) ≤ 512) (hq : Q (bApp 1 (intL l x) w) none) : cRun kB_addInteger (0, [some (zR 1 1), some (zL y), none, some (zI x), none], [], w) Q := by
  unfold okY at hy
  rw [Bool.and_eq_true, Bool.and_eq_true, decide_eq_true_eq, decide_eq_true_eq, decide_eq_true_eq] at hy
  obtain ⟨⟨y1, y2⟩, y3⟩ := hy
  refine z_C.go 1 rfl ?_
  refine z_C.call rfl rfl (zC_up (C' := zC) (k_letters (Q := fun w' r => w' = w ∧ r = some (zI (iN l.length))) y1 ⟨rfl, rfl⟩)) (fun w' r h => ?_)
  obtain ⟨rfl, rfl⟩ := h
  have e3 : ([33] ++ sayL (iN l.length) 2 ++ lettL l).length = 3 + l.length := by rw [List.length_append, lettL_len, List.length_append, sayL_len]; rfl
  have e4 : ([33] ++ sayL (iN l.length) 2 ++ lettL l ++ sayL 4 2).length = 5 + l.length := by rw [List.length_append, e3, sayL_len]; omega
  have e2 : ([33] ++ sayL (iN l.length) 2).length = 3 := by rw [List.length_append, sayL_len]; rfl
  refine z_C.go 3 rfl ?_
  refine z_C.call rfl rfl (e_add (b := 1) (x := 33) (Q := fun w1 r => r = none ∧ w1 = bApp 1 [33] w') hL (by omega) ⟨rfl, rfl⟩) (fun w1 r h => ?_)
  obtain ⟨rfl, q1⟩ := h
  have l1 : w1.1 1 1 1 = iN (L + 1) := by rw [q1]; exact bApp_len (b := 1) [33] L w' hL (show L + 1 ≤ 512 by omega)
  refine z_C.go 4 rfl ?_
  refine z_C.call rfl rfl (e_addN (b := 1) (k := 2) (y := (iN l.length).toInt64) (Q := fun w2 r => r = none ∧ w2 = bApp 1 (sayL (iN l.length) 2) w1) (by decide) l1 (by omega) ⟨rfl, bNum_say 2 _ (by decide)⟩) (fun w2 r h => ?_)
  obtain ⟨rfl, q2⟩ := h
  rw [q1, ← bApp_app] at q2
  have l2 : w2.1 1 1 1 = iN (L + 3) := by
    have k9 := bApp_len (b := 1) ([33] ++ sayL (iN l.length) 2) L w' hL (by rw [e2]; show _ ≤ 512; omega)
    rw [e2, ← q2] at k9
    exact k9
  refine z_C.go 3 rfl ?_
  refine z_C.call rfl rfl (e_addN (b := 1) (k := l.length) (y := y) (Q := fun w3 r => r = none ∧ w3 = bApp 1 (lettL l) w2) y3 l2 (by omega) ⟨rfl, by rw [bNum_byt, bApp_mask, y2]⟩) (fun w3 r h => ?_)
  obtain ⟨rfl, q3⟩ := h
  rw [q2, ← bApp_app] at q3
  have l3 : w3.1 1 1 1 = iN (L + (3 + l.length)) := by
    have k9 := bApp_len (b := 1) ([33] ++ sayL (iN l.length) 2 ++ lettL l) L w' hL (by rw [e3]; show _ ≤ 512; omega)
    rw [e3, ← q3] at k9
    exact k9
  refine z_C.go 3 rfl ?_
  refine z_C.call rfl rfl (e_addN (b := 1) (k := 2) (y := (4 : Int32).toInt64) (Q := fun w4 r => r = none ∧ w4 = bApp 1 (sayL 4 2) w3) (by decide) l3 (by omega) ⟨rfl, bNum_say 2 _ (by decide)⟩) (fun w4 r h => ?_)
  obtain ⟨rfl, q4⟩ := h
  rw [q3, ← bApp_app] at q4
  have l4 : w4.1 1 1 1 = iN (L + (5 + l.length)) := by
    have k9 := bApp_len (b := 1) ([33] ++ sayL (iN l.length) 2 ++ lettL l ++ sayL 4 2) L w' hL (by rw [e4]; show _ ≤ 512; omega)
    rw [e4, ← q4] at k9
    exact k9
  refine z_C.go 4 rfl ?_
  refine z_C.call rfl rfl (e_addN (b := 1) (k := 4) (y := x.toInt64) (Q := fun w5 r => r = none ∧ w5 = bApp 1 (sayL x 4) w4) (by decide) l4 (by omega) ⟨rfl, bNum_say 4 _ (by decide)⟩) (fun w5 r h => ?_)
  obtain ⟨rfl, q5⟩ := h
  rw [q4, ← bApp_app] at q5
  have hq : Q w5 none := by rw [q5]; exact hq
  exact z_C.ret rfl rfl hq
end BC
/-! the reference -/
section BM
variable {v : z_W} {Q : z_W → Option z_V → Prop}
theorem m_say_loop {x nn : Int32} : ∀ (k : Nat) (j : Int32) (v : z_W) (L : Nat), k ≤ 8 → j = iN k - 1 → v.1 0 0 23 = iN L → L + k ≤ 800 → Q (mApp 5 23 (sayL x k) v) none → mRun kX_say (4, [some (zR 0 0), some (zI x), some (zI nn), some (zI j)], [], v) Q := by
  intro k
  induction k with
  | zero =>
    intro j v L hk hj hL hc hq
    subst hj
    refine z_C.go 2 rfl ?_
    refine z_C.if (fun _ => ?_) (fun h => absurd (by decide) h)
    exact z_C.ret rfl rfl hq
  | succ k ih =>
    intro j v L hk hj hL hc hq
    have ej : j = iN k := by rw [hj]; exact iN_pred k
    subst ej
    refine z_C.go 2 rfl ?_
    refine z_C.if (fun h => absurd h (idx_ng (by omega))) (fun _ => ?_)
    have i1 : z_in (v.1 0 0 23) 800 = true := by rw [hL]; exact iN_in (by omega) (by omega)
    refine z_C.go 11 rfl ?_
    refine z_C.go1 rfl (if_pos ⟨rfl, i1⟩) ?_
    refine z_C.go 8 rfl ?_
    exact ih (iN k + (-1)) (mAp1 5 23 (sB x k) v) (L + 1) (by omega) (Int32.sub_eq_add_neg _ _).symm (mAp1_len hL) (by omega) hq
theorem m_say {x : Int32} {k L : Nat} (hk : k ≤ 8) (hL : v.1 0 0 23 = iN L) (hc : L + k ≤ 800) (hq : Q (mApp 5 23 (sayL x k) v) none) : mRun kX_say (0, [some (zR 0 0), some (zI x), some (zI (iN k)), none], [], v) Q := by
  refine z_C.go 4 rfl ?_
  exact m_say_loop k _ v L hk rfl hL hc hq
theorem say1 {x : Nat} (h : x < 256) : sayL (iN x) 1 = [iN x] := by
  show [sB (iN x) 0] = _
  have e : sB (iN x) 0 = iN x &&& 255 := by
    unfold sB
    have e0 : ((8 * iN 0) &&& 31 : Int32) = 0 := by decide
    rw [e0]
    congr 1
    apply Int32.toBitVec_inj.mp
    rw [Int32.toBitVec_shiftRight]
    exact BitVec.sshiftRight_zero
  rw [e, byte_n h]
theorem m_lett_loop {word : Int64} {l : List Nat} {x : Int32} (hw : okW word l = true) (v0 : z_W) (L : Nat) (hL : v0.1 0 0 23 = iN L) (hc : L + l.length ≤ 800) (K : mRun kX_integer (47, [some (zR 0 0), some (zI (iN l.length)), some (zL word), none, some (zI x), some (zI (iN l.length))], [], mApp 5 23 (lettL l) v0) Q) :
    ∀ (d i : Nat), i + d = l.length → mRun kX_integer (16, [some (zR 0 0), some (zI (iN l.length)), some (zL word), none, some (zI x), some (zI (iN i))], [], mApp 5 23 ((lettL l).take i) v0) Q := by
  obtain ⟨w8, hw⟩ := okW_of hw
  intro d
  induction d with
  | zero =>
    intro i hi
    have e : i = l.length := by omega
    subst e
    rw [List.take_of_length_le (by rw [lettL_len]; exact Nat.le_refl _)]
    refine z_C.go 3 rfl ?_
    refine z_C.if (fun _ => ?_) (fun h => absurd (Int32.le_refl _) h)
    exact K
  | succ d ih =>
    intro i hi
    have hil : i < l.length := by omega
    obtain ⟨a1, a2, a3⟩ := hw i hil
    have lt : ((lettL l).take i).length = i := by rw [List.length_take, lettL_len]; omega
    have hLi : (mApp 5 23 ((lettL l).take i) v0).1 0 0 23 = iN (L + i) := by
      have k9 := mApp_len (g := 5) (f := 23) ((lettL l).take i) L v0 hL
      rw [lt] at k9
      exact k9
    have eq : (lettL l)[i]? = some (iN (96 + l.getD i 0)) := by
      unfold lettL
      rw [List.getElem?_map, List.getD_eq_getElem?_getD, List.getElem?_eq_getElem hil]
      rfl
    have et : (lettL l).take (i + 1) = (lettL l).take i ++ [iN (96 + l.getD i 0)] := by
      rw [List.take_add_one, eq]
      rfl
    refine z_C.go 3 rfl ?_
    refine z_C.if (fun h => absurd ((iN_le (by omega) (by omega)).mp h) (by omega)) (fun _ => ?_)
    refine z_C.go 11 rfl ?_
    have ev : w5 word i + 96 = iN (96 + l.getD i 0) := by
      rw [a1, show iN (l.getD i 0) + 96 = iN (l.getD i 0 + 96) from iN_add _ 96, Nat.add_comm]
    have ev2 : ((word >>> ((5 * iN i).toInt64 &&& 63)) &&& 31).toInt32 + 96 = iN (96 + l.getD i 0) := ev
    rw [ev2]
    refine z_C.go 1 rfl ?_
    refine z_C.call rfl rfl (m_say (v := mApp 5 23 ((lettL l).take i) v0) (x := iN (96 + l.getD i 0)) (k := 1) (Q := fun v' r => v' = mApp 5 23 ((lettL l).take (i + 1)) v0 ∧ r = none) (by decide) hLi (by omega) ⟨by rw [say1 (by omega), ← mApp_app, ← et], rfl⟩) (fun v' r h => ?_)
    obtain ⟨rfl, rfl⟩ := h
    refine z_C.go 2 rfl ?_
    have k9 := ih (i + 1) (by omega)
    rw [← iN_add i 1] at k9
    exact k9
theorem m_int {word : Int64} {l : List Nat} {x : Int32} {L : Nat} (hw : okW word l = true) (hL : v.1 0 0 23 = iN L) (hc : L + (l.length + 9) ≤ 800) (hq : Q (mApp 5 23 (intL l x) v) none) : mRun kX_integer (0, [some (zR 0 0), some (zI (iN l.length)), some (zL word), none, some (zI x), none], [], v) Q := by
  have e3 : ([33] ++ sayL (iN l.length) 2 ++ lettL l).length = 3 + l.length := by rw [List.length_append, lettL_len, List.length_append, sayL_len]; rfl
  have e4 : ([33] ++ sayL (iN l.length) 2 ++ lettL l ++ sayL 4 2).length = 5 + l.length := by rw [List.length_append, e3, sayL_len]; omega
  have e2 : ([33] ++ sayL (iN l.length) 2).length = 3 := by rw [List.length_append, sayL_len]; rfl
  refine z_C.go 3 rfl ?_
  refine z_C.call rfl rfl (m_say (x := iN 33) (k := 1) (Q := fun v' r => r = none ∧ v' = mApp 5 23 [33] v) (by decide) hL (by omega) ⟨rfl, by rw [say1 (by decide)]; rfl⟩) (fun v1 r h => ?_)
  obtain ⟨rfl, q1⟩ := h
  have l1 : v1.1 0 0 23 = iN (L + 1) := by rw [q1]; exact mApp_len (g := 5) (f := 23) [33] L v hL
  refine z_C.go 3 rfl ?_
  refine z_C.call rfl rfl (m_say (v := v1) (x := iN l.length) (k := 2) (Q := fun v' r => r = none ∧ v' = mApp 5 23 (sayL (iN l.length) 2) v1) (by decide) l1 (by omega) ⟨rfl, rfl⟩) (fun v2 r h => ?_)
  obtain ⟨rfl, q2⟩ := h
  rw [q1, ← mApp_app] at q2
  have l2 : v2.1 0 0 23 = iN (L + 3) := by
    have k9 := mApp_len (g := 5) (f := 23) ([33] ++ sayL (iN l.length) 2) L v hL
    rw [e2, ← q2] at k9
    exact k9
  refine z_C.go 2 rfl ?_
  refine m_lett_loop hw v2 (L + 3) l2 (by omega) ?_ l.length 0 (by omega)
  generalize q3 : mApp 5 23 (lettL l) v2 = v3
  rw [q2, ← mApp_app] at q3
  have l3 : v3.1 0 0 23 = iN (L + (3 + l.length)) := by
    have k9 := mApp_len (g := 5) (f := 23) ([33] ++ sayL (iN l.length) 2 ++ lettL l) L v hL
    rw [e3, q3] at k9
    exact k9
  refine z_C.go 3 rfl ?_
  refine z_C.call rfl rfl (m_say (v := v3) (x := 4) (k := 2) (Q := fun v' r => r = none ∧ v' = mApp 5 23 (sayL 4 2) v3) (by decide) l3 (by omega) ⟨rfl, rfl⟩) (fun v4 r h => ?_)
  obtain ⟨rfl, q4⟩ := h
  rw [← q3, ← mApp_app] at q4
  have l4 : v4.1 0 0 23 = iN (L + (5 + l.length)) := by
    have k9 := mApp_len (g := 5) (f := 23) ([33] ++ sayL (iN l.length) 2 ++ lettL l ++ sayL 4 2) L v hL
    rw [e4, ← q4] at k9
    exact k9
  refine z_C.go 3 rfl ?_
  refine z_C.call rfl rfl (m_say (v := v4) (x := x) (k := 4) (Q := fun v' r => r = none ∧ v' = mApp 5 23 (sayL x 4) v4) (by decide) l4 (by omega) ⟨rfl, rfl⟩) (fun v5 r h => ?_)
  obtain ⟨rfl, q5⟩ := h
  rw [q4, ← mApp_app] at q5
  have hq : Q v5 none := by rw [q5]; exact hq
  exact z_C.ret rfl rfl hq
end BM
