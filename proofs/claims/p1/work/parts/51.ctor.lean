/-! a second machine, for constructors: cells are made one behind the other, from an address on -/
abbrev y_E : Type := (Nat × List z_V) ⊕ Nat ⊕ Nat ⊕ List (Option Nat)
abbrev y_H : Type := List y_E
abbrev y_F : Type := Nat × z_L × List z_V × y_H
def y_ad (b : Nat) (o : z_N) : Nat := b + o.2
def y_cell (b : Nat) (cA : Nat → ClassId) (e : y_E) : va_E := match e with
  | .inl (ci, fs) => .inr (ci, fs.map (z_v (y_ad b)))
  | .inr (.inl n) => .inl (cA 0, n, .inl (fun _ => 0))
  | .inr (.inr (.inl n)) => .inl (cA 1, n, .inr (.inl (fun _ => 0)))
  | .inr (.inr (.inr l)) => .inl (cA 2, l.length, .inr (.inr (.inr (.inr (fun j => (l.getD j none).map (fun o => b + o))))))
def y_ws (b : Nat) (cA : Nat → ClassId) (h : y_H) : va_W := (List.range h.length).map (fun o => (b + o, y_cell b cA (h.getD o (.inr (.inl 0)))))
def y_sl (e : y_E) : Nat := match e with
  | .inl (_, fs) => fs.length
  | .inr (.inl n) => n
  | .inr (.inr (.inl n)) => n
  | .inr (.inr (.inr l)) => l.length
def y_step (fk : Nat → List Nat) (M : Nat → z_M) (I : z_I) (pc : Nat) (L : z_L) (st : List z_V) (h : y_H) : Option (y_F ⊕ Unit ⊕ (Nat × List z_V × List z_V)) :=
  match I with
  | (ins, _, a, b, t, _, c, _) => match ins with
    | .iconst _ => some (.inl (pc + 1, L, (.inl c) :: st, h))
    | .bipush _ => some (.inl (pc + 2, L, (.inl c) :: st, h))
    | .sipush _ => some (.inl (pc + 3, L, (.inl c) :: st, h))
    | .iload_n k => match z_ld L k with
      | some (.inl x) => some (.inl (pc + 1, L, (.inl x) :: st, h))
      | _ => none
    | .aload_n k => match z_ld L k with
      | some (.inr (.inr (some o))) => some (.inl (pc + 1, L, (.inr (.inr (some o))) :: st, h))
      | _ => none
    | .istore_n k => match st with
      | (.inl x) :: r => if (k : Nat) < L.length then some (.inl (pc + 1, z_st1 L k (.inl x), r, h)) else none
      | _ => none
    | .iinc k _ => match z_ld L k with
      | some (.inl x) => if k < L.length then some (.inl (pc + 3, z_st1 L k (.inl (x + c)), st, h)) else none
      | _ => none
    | .dup => match st with
      | (.inr (.inr (some x))) :: r => some (.inl (pc + 1, L, (.inr (.inr (some x))) :: (.inr (.inr (some x))) :: r, h))
      | _ => none
    | .if_icmp .ge _ => match st with
      | (.inl y) :: (.inl x) :: r => some (.inl (if y ≤ x then a else pc + 3, L, r, h))
      | _ => none
    | .goto _ => some (.inl (a, L, st, h))
    | .new _ => some (.inl (pc + 3, L, (.inr (.inr (some (0, h.length)))) :: st, h ++ [.inl (a, (fk a).map (fun k => if k = 2 then (.inr (.inr none)) else (.inl 0)))]))
    | .newarray ty => match st with
      | (.inl n) :: r => if 0 ≤ n.toInt ∧ n.toInt < 60000 then match ty with
          | .int => some (.inl (pc + 2, L, (.inr (.inr (some (0, h.length)))) :: r, h ++ [.inr (.inl n.toNatClampNeg)]))
          | .long => some (.inl (pc + 2, L, (.inr (.inr (some (0, h.length)))) :: r, h ++ [.inr (.inr (.inl n.toNatClampNeg))]))
          | _ => none
        else none
      | _ => none
    | .anewarray _ => match st with
      | (.inl n) :: r => if 0 ≤ n.toInt ∧ n.toInt < 60000 then some (.inl (pc + 3, L, (.inr (.inr (some (0, h.length)))) :: r, h ++ [.inr (.inr (.inr (List.replicate n.toNatClampNeg none)))])) else none
      | _ => none
    | .getfield _ => match st with
      | (.inr (.inr (some (_, o)))) :: r => match h[o]? with
        | some (.inl (ci, fs)) => if ci = a then match fs[b]? with
            | some (.inr (.inr (some x))) => some (.inl (pc + 3, L, (.inr (.inr (some x))) :: r, h))
            | _ => none
          else none
        | _ => none
      | _ => none
    | .putfield _ => match st with
      | v :: (.inr (.inr (some (_, o)))) :: r => match h[o]? with
        | some (.inl (ci, fs)) => if ci = a ∧ b < fs.length then match t, v with
            | 0, (.inl x) => some (.inl (pc + 3, L, r, h.set o (.inl (ci, fs.set b (.inl x)))))
            | 1, (.inl x) => if x = 0 ∨ x = 1 then some (.inl (pc + 3, L, r, h.set o (.inl (ci, fs.set b (.inl x))))) else none
            | 2, (.inr (.inr (some x))) => some (.inl (pc + 3, L, r, h.set o (.inl (ci, fs.set b (.inr (.inr (some x)))))))
            | _, _ => none
          else none
        | _ => none
      | _ => none
    | .aastore => match st with
      | (.inr (.inr (some (_, v)))) :: (.inl i) :: (.inr (.inr (some (_, o)))) :: r => match h[o]?, h[v]? with
        | some (.inr (.inr (.inr l))), some (.inl (ci, _)) => if ci = a ∧ z_in i l.length = true then some (.inl (pc + 1, L, r, h.set o (.inr (.inr (.inr (l.set i.toNatClampNeg (some v))))))) else none
        | _, _ => none
      | _ => none
    | .invokespecial _ => match t with
      | 0 => if (M a).2.2.2.2.1 ≤ st.length ∧ z_cat (st.drop (M a).2.2.2.2.1) ≤ 8 ∧ (z_args (st.take (M a).2.2.2.2.1).reverse).length ≤ (M a).2.2.1 then match (st.take (M a).2.2.2.2.1).reverse with
          | (.inr (.inr (some _))) :: _ => some (.inr (.inr (a, (st.take (M a).2.2.2.2.1).reverse, st.drop (M a).2.2.2.2.1)))
          | _ => none
        else none
      | _ => match st with
        | (.inr (.inr (some _))) :: r => if z_cat r ≤ 8 then some (.inl (pc + 3, L, r, h)) else none
        | _ => none
    | .return_ => match st with
      | [] => some (.inr (.inl ()))
      | _ => none
    | _ => none
def y_run (fk : Nat → List Nat) (M : Nat → z_M) (C : Nat → Nat → Option z_I) : Nat → Nat → y_F → Option y_H
  | 0, _, _ => none
  | n + 1, mi, (pc, L, st, h) => match C mi pc with
    | none => none
    | some I => match y_step fk M I pc L st h with
      | none => none
      | some (.inl f) => y_run fk M C n mi f
      | some (.inr (.inl _)) => some h
      | some (.inr (.inr (mj, as, rest))) => match y_run fk M C n mj (0, z_entry (M mj).2.2.1 as, [], h) with
        | none => none
        | some h' => y_run fk M C n mi (pc + 3, L, rest, h')
section YC
variable {b : Nat} {cA : Nat → ClassId} {h : y_H} {e e' : y_E} {o : Nat}
theorem y_ws_at (ho : h[o]? = some e) : (y_ws b cA h)[o]? = some (b + o, y_cell b cA e) := by
  have hl := (List.getElem?_eq_some_iff.mp ho).1
  simp only [y_ws, List.getElem?_map, List.getElem?_range hl, List.getD]
  show some (b + o, y_cell b cA (h[o]?.getD _)) = _
  rw [ho]
  rfl
theorem y_ws_len : (y_ws b cA h).length = h.length := by simp [y_ws]
theorem y_ws_push : y_ws b cA (h ++ [e]) = y_ws b cA h ++ [(b + h.length, y_cell b cA e)] := by
  apply List.ext_getElem?
  intro k
  by_cases hk : k < h.length
  · rw [List.getElem?_append_left (by rw [y_ws_len]; exact hk)]
    have h1 : (h ++ [e])[k]? = some h[k] := by rw [List.getElem?_append_left hk]; exact List.getElem?_eq_getElem hk
    rw [y_ws_at h1, y_ws_at (List.getElem?_eq_getElem hk)]
  · rw [List.getElem?_append_right (by rw [y_ws_len]; omega), y_ws_len]
    by_cases hk2 : k = h.length
    · subst hk2
      have h1 : (h ++ [e])[h.length]? = some e := by simp
      rw [y_ws_at h1]
      simp
    · have h1 : (y_ws b cA (h ++ [e]))[k]? = none := by
        rw [List.getElem?_eq_none_iff, y_ws_len]
        simp
        omega
      rw [h1]
      have : k - h.length = (k - h.length - 1) + 1 := by omega
      rw [this]
      simp
theorem y_ws_set (ho : h[o]? = some e) : (y_ws b cA h).set o (b + o, y_cell b cA e') = y_ws b cA (h.set o e') := by
  have hl := (List.getElem?_eq_some_iff.mp ho).1
  apply List.ext_getElem?
  intro k
  by_cases hk : k = o
  · subst hk
    rw [List.getElem?_set_self (by rw [y_ws_len]; exact hl)]
    have h1 : (h.set k e')[k]? = some e' := List.getElem?_set_self hl
    rw [y_ws_at h1]
  · rw [List.getElem?_set_ne (Ne.symm hk)]
    by_cases hkl : k < h.length
    · have h1 : (h.set o e')[k]? = some h[k] := by rw [List.getElem?_set_ne (Ne.symm hk)]; exact List.getElem?_eq_getElem hkl
      rw [y_ws_at h1, y_ws_at (List.getElem?_eq_getElem hkl)]
    · have h1 : (y_ws b cA h)[k]? = none := by rw [List.getElem?_eq_none_iff, y_ws_len]; omega
      have h2 : (y_ws b cA (h.set o e'))[k]? = none := by rw [List.getElem?_eq_none_iff, y_ws_len, List.length_set]; omega
      rw [h1, h2]
theorem y_ws_D {A : Nat → Prop} (hA : ∀ q, b ≤ q → A q) : va_D A (y_ws b cA h) := by
  have key : ∀ (k : Nat) (q : Nat × va_E), (y_ws b cA h)[k]? = some q → q.1 = b + k := by
    intro k q hq
    have hl : k < h.length := by
      have := (List.getElem?_eq_some_iff.mp hq).1
      rwa [y_ws_len] at this
    rw [y_ws_at (List.getElem?_eq_getElem hl)] at hq
    cases hq
    rfl
  refine ⟨fun i j p q hp hq hpq => ?_, fun k q hq => ?_⟩
  · have := key i p hp
    have := key j q hq
    omega
  · rw [key k q hq]
    exact hA _ (by omega)
end YC
