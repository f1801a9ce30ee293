theorem q_mk {α : Sort _} {a b : α} (h : a = b) : a = b := h
/-! the heap of the law as a record: scalars, rows, the out cell; concrete places -/
abbrev SS : Type := (Nat → Nat → Int32) × (Nat → Nat → Int32) × (Nat → Int64)
abbrev AS : Type := Nat × Nat × (Nat → Option (Option aE))
def us (S : SS) (a k : Nat) (v : Int32) : SS := (fun b => if b = a then upd (S.1 a) k v else S.1 b, S.2)
def uA (S : SS) (a : Nat) (g : Nat → Int32) : SS := (S.1, fun b => if b = a then g else S.2.1 b, S.2.2)
def ua (S : SS) (a i : Nat) (v : Int32) : SS := uA S a (upd (S.2.1 a) i v)
def uo (S : SS) (v : Int64) : SS := (S.1, S.2.1, va_up S.2.2 0 v)
def isSt (a : Nat) : Bool := a == 7 || a == 15 || (decide (25 ≤ a) && decide (a < 89) && (a - 25) % 8 == 0)
def isMx (a : Nat) : Bool := a == 8 || a == 16 || (decide (26 ≤ a) && decide (a < 89) && (a - 26) % 8 == 0)
def row64 (a : Nat) : Bool := (decide (4 ≤ a) && decide (a ≤ 6)) || (decide (9 ≤ a) && decide (a ≤ 14)) || (decide (17 ≤ a) && decide (a ≤ 22)) || (decide (25 ≤ a) && decide (a < 89) && decide (2 ≤ (a - 25) % 8)) || (decide (96 ≤ a) && decide (a ≤ 100)) || (decide (102 ≤ a) && decide (a ≤ 106)) || (decide (108 ≤ a) && decide (a ≤ 112)) || (decide (115 ≤ a) && decide (a ≤ 117)) || (decide (134 ≤ a) && decide (a ≤ 197)) || (decide (199 ≤ a) && decide (a ≤ 264)) || (decide (266 ≤ a) && decide (a ≤ 269))
def row387 (a : Nat) : Bool := a == 122 || a == 123 || (decide (125 ≤ a) && decide (a ≤ 132))
def emb0 (a : Nat) (sc ar : Nat → Int32) (o : Nat → Int64) : aE :=
  if a = 270 then z_l 1 o else if row64 a = true then z_i 64 ar else if row387 a = true then z_i 387 ar else if isSt a = true then z_o 3 [.int (sc 0), .int (sc 1), .int (sc 2), .ref (a + 1)] else if isMx a = true then z_r 2 6 (fun i => if i < 6 then some (a + 1 + i) else none) else if a = 0 then z_o 6 [.ref 1, .ref 7, .ref 15, .ref 23, .ref 89, .ref 94, .ref 113, .ref 118, .int (sc 8)] else if a = 1 then z_o 0 [.int (sc 0), .int (sc 1), .int (sc 2), .int (sc 3), .ref 2, .ref 3, .ref 4, .ref 5, .ref 6] else if a = 2 then z_i 4096 ar else if a = 3 then z_i 4096 ar else if a = 23 then z_o 1 [.int (sc 0), .int (sc 1), .ref 24] else if a = 24 then z_r 3 8 (fun i => if i < 8 then some (25 + 8 * i) else none) else if a = 89 then z_o 5 [.int (sc 0), .int (sc 1), .int (sc 2), .int (sc 3), .ref 90, .ref 91, .ref 92, .ref 93, .int (sc 8)] else if a = 90 then z_i 300 ar else if a = 91 then z_i 301 ar else if a = 92 then z_i 301 ar else if a = 93 then z_i 301 ar else if a = 94 then z_o 2 [.int (sc 0), .int (sc 1), .ref 89, .ref 1, .ref 15, .ref 95, .ref 101, .ref 107] else if a = 95 then z_r 2 5 (fun i => if i < 5 then some (95 + 1 + i) else none) else if a = 101 then z_r 2 5 (fun i => if i < 5 then some (101 + 1 + i) else none) else if a = 107 then z_r 2 5 (fun i => if i < 5 then some (107 + 1 + i) else none) else if a = 113 then z_o 4 [.int (sc 0), .ref 114, .ref 1, .ref 115, .ref 116, .ref 117] else if a = 114 then z_i 65 ar else if a = 118 then z_i 3 ar else if a = 119 then z_o 7 [.int (sc 0), .ref 120, .int (sc 2), .int (sc 3), .int (sc 4), .int (sc 5), .int (sc 6), .int (sc 7), .ref 121, .ref 122, .ref 123, .ref 124, .int (sc 12), .int (sc 13), .int (sc 14), .int (sc 15), .int (sc 16), .ref 133, .ref 198, .ref 263, .ref 264, .ref 265, .int (sc 22), .int (sc 23), .ref 266, .ref 267, .ref 268, .ref 269] else if a = 120 then z_i 3 ar else if a = 121 then z_i 300 ar else if a = 124 then z_r 2 8 (fun i => if i < 8 then some (124 + 1 + i) else none) else if a = 133 then z_r 2 64 (fun i => if i < 64 then some (133 + 1 + i) else none) else if a = 198 then z_r 2 64 (fun i => if i < 64 then some (198 + 1 + i) else none) else if a = 265 then z_i 14 ar else z_i 0 ar
def qH (A : AS) (S : SS) : AH := (A.1, A.2.1, fun a => if a < 271 then some (emb0 a (S.1 a) (S.2.1 a) S.2.2) else match A.2.2 a with
  | none => some (z_i 64 (S.2.1 a))
  | some x => x)
def qL (A : AS) (a len : Nat) : Prop := len < 2 ^ 31 ∧ ((a < 271 ∧ a ≠ 270 ∧ ∀ sc ar o, emb0 a sc ar o = z_i len ar) ∨ (271 ≤ a ∧ A.2.2 a = none ∧ len = 64))
theorem q_at {A : AS} {S : SS} {a : Nat} (h : a < 271) : (qH A S).2.2 a = some (emb0 a (S.1 a) (S.2.1 a) S.2.2) := if_pos h
theorem q_arr {A : AS} {S : SS} {a len : Nat} (h : qL A a len) : (qH A S).2.2 a = some (z_i len (S.2.1 a)) := by
  rcases h.2 with ⟨h1, -, h2⟩ | ⟨h1, h2, rfl⟩
  · rw [q_at h1, h2]
  · show (if a < 271 then _ else _) = _
    rw [if_neg (by omega), h2]
theorem q_noout (b : Nat) (hb : b ≠ 270) (o1 o2 : Nat → Int64) (sc ar : Nat → Int32) : emb0 b sc ar o1 = emb0 b sc ar o2 := by
  unfold emb0
  rw [if_neg hb, if_neg hb]
/-- a write to one place -/
theorem q_put {A : AS} {S S' : SS} {a : Nat} {e : aE} (he : (qH A S').2.2 a = some e) (ho : ∀ b, b ≠ a → S'.1 b = S.1 b ∧ S'.2.1 b = S.2.1 b) (h2 : S'.2.2 = S.2.2 ∨ a = 270) : zput (qH A S) a e = qH A S' := by
  unfold zput
  show (A.1, A.2.1, _) = (A.1, A.2.1, _)
  congr 2
  funext b
  by_cases hb : b = a
  · subst hb
    rw [if_pos rfl]
    exact he.symm
  · rw [if_neg hb]
    obtain ⟨h3, h4⟩ := ho b hb
    show (if b < 271 then _ else _) = (if b < 271 then _ else _)
    rw [h3, h4]
    rcases h2 with h2 | h2
    · rw [h2]
    · subst h2
      by_cases h5 : b < 271
      · rw [if_pos h5, if_pos h5]
        rw [q_noout b hb S'.2.2 S.2.2 (S.1 b) (S.2.1 b)]
      · rw [if_neg h5, if_neg h5]
theorem q_ai {A : AS} {S : SS} {a len i : Nat} (h : qL A a len) (hi : i < len) : zai (qH A S) a (nI i) = some (S.2.1 a i) := by
  unfold zai
  rw [q_arr h]
  show (if nI i < 0 ∨ len ≤ (nI i).toNatClampNeg then _ else _) = _
  rw [if_neg (nI_in hi h.1), nI_clamp (Nat.lt_trans hi h.1)]
theorem q_si {A : AS} {S : SS} {a len i : Nat} {v : Int32} (h : qL A a len) (hi : i < len) : zsi (qH A S) a (nI i) v = some (qH A (ua S a i v)) := by
  unfold zsi
  rw [q_arr h]
  show (if nI i < 0 ∨ len ≤ (nI i).toNatClampNeg then _ else _) = _
  rw [if_neg (nI_in hi h.1), nI_clamp (Nat.lt_trans hi h.1)]
  congr 1
  refine q_put ?_ (fun b hb => ⟨rfl, if_neg hb⟩) (Or.inl rfl)
  rw [q_arr h]
  show some (z_i len (if a = a then _ else _)) = _
  rw [if_pos rfl]
  rfl
theorem q_len {A : AS} {S : SS} {a len : Nat} (h : qL A a len) : zlen (qH A S) a = some len := by
  unfold zlen
  rw [q_arr h]
theorem q_cp {A : AS} {S : SS} {a b : Nat} (ha : qL A a 64) (hb : qL A b 64) : zcp (qH A S) a 0 b 0 64 = some (qH A (uA S b (fun j => if j < 64 then S.2.1 a j else S.2.1 b j))) := by
  unfold zcp
  rw [q_arr ha, q_arr hb]
  show some (zput (qH A S) b (z_i 64 (va_cpy (S.2.1 a) (S.2.1 b) 0 0 64))) = _
  congr 1
  refine q_put ?_ (fun c hc => ⟨rfl, if_neg hc⟩) (Or.inl rfl)
  rw [q_arr hb]
  show some (z_i 64 (if b = b then _ else _)) = _
  rw [if_pos rfl]
  congr 2
  funext j
  unfold va_cpy
  by_cases hj : j < 64
  · rw [if_pos hj, if_pos ⟨Nat.zero_le _, by omega⟩]
    simp
  · rw [if_neg hj, if_neg (by omega)]
theorem q_junk {A : AS} {S : SS} : zjnk (qH A S) 6 = qH (A.1 + 1, A.2.1 + 6, A.2.2) S := q_mk rfl
def qN (A : AS) : AS := (A.1 + 1, A.2.1 + 64, fun b => if b = A.1 then none else A.2.2 b)
theorem q_new {A : AS} {S : SS} (h : 271 ≤ A.1) : znI (qH A S) 64 = some (A.1, qH (qN A) (uA S A.1 (fun _ => 0))) := by
  unfold znI
  rw [if_neg (by decide)]
  show some (A.1, znew (qH A S) 64 (z_i 64 (fun _ => 0))) = _
  congr 2
  unfold znew
  show (A.1 + 1, A.2.1 + 64, _) = (A.1 + 1, A.2.1 + 64, _)
  congr 2
  funext b
  show (if b = A.1 then _ else (if b < 271 then _ else _)) = (if b < 271 then some (emb0 b (S.1 b) (if b = A.1 then _ else _) S.2.2) else match (if b = A.1 then none else A.2.2 b) with | none => some (z_i 64 (if b = A.1 then _ else _)) | some x => x)
  by_cases hb : b = A.1
  · subst hb
    rw [if_pos rfl, if_neg (by omega), if_pos rfl, if_pos rfl]
  · rw [if_neg hb, if_neg hb, if_neg hb]
theorem gr_0_0 {A : AS} {S : SS} : zgR (qH A S) 0 6 0 = some 1 := q_mk rfl
theorem gr_0_1 {A : AS} {S : SS} : zgR (qH A S) 0 6 1 = some 7 := q_mk rfl
theorem gr_0_2 {A : AS} {S : SS} : zgR (qH A S) 0 6 2 = some 15 := q_mk rfl
theorem gr_0_3 {A : AS} {S : SS} : zgR (qH A S) 0 6 3 = some 23 := q_mk rfl
theorem gr_0_4 {A : AS} {S : SS} : zgR (qH A S) 0 6 4 = some 89 := q_mk rfl
theorem gr_0_5 {A : AS} {S : SS} : zgR (qH A S) 0 6 5 = some 94 := q_mk rfl
theorem gr_0_6 {A : AS} {S : SS} : zgR (qH A S) 0 6 6 = some 113 := q_mk rfl
theorem gr_0_7 {A : AS} {S : SS} : zgR (qH A S) 0 6 7 = some 118 := q_mk rfl
theorem gi_0_8 {A : AS} {S : SS} : zgI (qH A S) 0 6 8 = some (S.1 0 8) := q_mk rfl
theorem pi_0_8 {A : AS} {S : SS} {v : Int32} : zpf (qH A S) 0 6 8 (.int v) = some (qH A (us S 0 8 v)) := congrArg some (q_put rfl (fun b hb => ⟨if_neg hb, rfl⟩) (Or.inl rfl))
theorem ob_0 {A : AS} {S : SS} : zob (qH A S) 0 6 = true := q_mk rfl
theorem gi_1_0 {A : AS} {S : SS} : zgI (qH A S) 1 0 0 = some (S.1 1 0) := q_mk rfl
theorem pi_1_0 {A : AS} {S : SS} {v : Int32} : zpf (qH A S) 1 0 0 (.int v) = some (qH A (us S 1 0 v)) := congrArg some (q_put rfl (fun b hb => ⟨if_neg hb, rfl⟩) (Or.inl rfl))
theorem gi_1_1 {A : AS} {S : SS} : zgI (qH A S) 1 0 1 = some (S.1 1 1) := q_mk rfl
theorem pi_1_1 {A : AS} {S : SS} {v : Int32} : zpf (qH A S) 1 0 1 (.int v) = some (qH A (us S 1 1 v)) := congrArg some (q_put rfl (fun b hb => ⟨if_neg hb, rfl⟩) (Or.inl rfl))
theorem gi_1_2 {A : AS} {S : SS} : zgI (qH A S) 1 0 2 = some (S.1 1 2) := q_mk rfl
theorem pi_1_2 {A : AS} {S : SS} {v : Int32} : zpf (qH A S) 1 0 2 (.int v) = some (qH A (us S 1 2 v)) := congrArg some (q_put rfl (fun b hb => ⟨if_neg hb, rfl⟩) (Or.inl rfl))
theorem gi_1_3 {A : AS} {S : SS} : zgI (qH A S) 1 0 3 = some (S.1 1 3) := q_mk rfl
theorem pi_1_3 {A : AS} {S : SS} {v : Int32} : zpf (qH A S) 1 0 3 (.int v) = some (qH A (us S 1 3 v)) := congrArg some (q_put rfl (fun b hb => ⟨if_neg hb, rfl⟩) (Or.inl rfl))
theorem gr_1_4 {A : AS} {S : SS} : zgR (qH A S) 1 0 4 = some 2 := q_mk rfl
theorem gr_1_5 {A : AS} {S : SS} : zgR (qH A S) 1 0 5 = some 3 := q_mk rfl
theorem gr_1_6 {A : AS} {S : SS} : zgR (qH A S) 1 0 6 = some 4 := q_mk rfl
theorem gr_1_7 {A : AS} {S : SS} : zgR (qH A S) 1 0 7 = some 5 := q_mk rfl
theorem gr_1_8 {A : AS} {S : SS} : zgR (qH A S) 1 0 8 = some 6 := q_mk rfl
theorem ob_1 {A : AS} {S : SS} : zob (qH A S) 1 0 = true := q_mk rfl
theorem gi_23_0 {A : AS} {S : SS} : zgI (qH A S) 23 1 0 = some (S.1 23 0) := q_mk rfl
theorem pi_23_0 {A : AS} {S : SS} {v : Int32} : zpf (qH A S) 23 1 0 (.int v) = some (qH A (us S 23 0 v)) := congrArg some (q_put rfl (fun b hb => ⟨if_neg hb, rfl⟩) (Or.inl rfl))
theorem gi_23_1 {A : AS} {S : SS} : zgI (qH A S) 23 1 1 = some (S.1 23 1) := q_mk rfl
theorem pi_23_1 {A : AS} {S : SS} {v : Int32} : zpf (qH A S) 23 1 1 (.int v) = some (qH A (us S 23 1 v)) := congrArg some (q_put rfl (fun b hb => ⟨if_neg hb, rfl⟩) (Or.inl rfl))
theorem gr_23_2 {A : AS} {S : SS} : zgR (qH A S) 23 1 2 = some 24 := q_mk rfl
theorem ob_23 {A : AS} {S : SS} : zob (qH A S) 23 1 = true := q_mk rfl
theorem gi_94_0 {A : AS} {S : SS} : zgI (qH A S) 94 2 0 = some (S.1 94 0) := q_mk rfl
theorem pi_94_0 {A : AS} {S : SS} {v : Int32} : zpf (qH A S) 94 2 0 (.int v) = some (qH A (us S 94 0 v)) := congrArg some (q_put rfl (fun b hb => ⟨if_neg hb, rfl⟩) (Or.inl rfl))
theorem gi_94_1 {A : AS} {S : SS} : zgI (qH A S) 94 2 1 = some (S.1 94 1) := q_mk rfl
theorem pi_94_1 {A : AS} {S : SS} {v : Int32} : zpf (qH A S) 94 2 1 (.int v) = some (qH A (us S 94 1 v)) := congrArg some (q_put rfl (fun b hb => ⟨if_neg hb, rfl⟩) (Or.inl rfl))
theorem gr_94_2 {A : AS} {S : SS} : zgR (qH A S) 94 2 2 = some 89 := q_mk rfl
theorem gr_94_3 {A : AS} {S : SS} : zgR (qH A S) 94 2 3 = some 1 := q_mk rfl
theorem gr_94_4 {A : AS} {S : SS} : zgR (qH A S) 94 2 4 = some 15 := q_mk rfl
theorem gr_94_5 {A : AS} {S : SS} : zgR (qH A S) 94 2 5 = some 95 := q_mk rfl
theorem gr_94_6 {A : AS} {S : SS} : zgR (qH A S) 94 2 6 = some 101 := q_mk rfl
theorem gr_94_7 {A : AS} {S : SS} : zgR (qH A S) 94 2 7 = some 107 := q_mk rfl
theorem ob_94 {A : AS} {S : SS} : zob (qH A S) 94 2 = true := q_mk rfl
theorem gi_113_0 {A : AS} {S : SS} : zgI (qH A S) 113 4 0 = some (S.1 113 0) := q_mk rfl
theorem pi_113_0 {A : AS} {S : SS} {v : Int32} : zpf (qH A S) 113 4 0 (.int v) = some (qH A (us S 113 0 v)) := congrArg some (q_put rfl (fun b hb => ⟨if_neg hb, rfl⟩) (Or.inl rfl))
theorem gr_113_1 {A : AS} {S : SS} : zgR (qH A S) 113 4 1 = some 114 := q_mk rfl
theorem gr_113_2 {A : AS} {S : SS} : zgR (qH A S) 113 4 2 = some 1 := q_mk rfl
theorem gr_113_3 {A : AS} {S : SS} : zgR (qH A S) 113 4 3 = some 115 := q_mk rfl
theorem gr_113_4 {A : AS} {S : SS} : zgR (qH A S) 113 4 4 = some 116 := q_mk rfl
theorem gr_113_5 {A : AS} {S : SS} : zgR (qH A S) 113 4 5 = some 117 := q_mk rfl
theorem ob_113 {A : AS} {S : SS} : zob (qH A S) 113 4 = true := q_mk rfl
theorem gi_89_0 {A : AS} {S : SS} : zgI (qH A S) 89 5 0 = some (S.1 89 0) := q_mk rfl
theorem pi_89_0 {A : AS} {S : SS} {v : Int32} : zpf (qH A S) 89 5 0 (.int v) = some (qH A (us S 89 0 v)) := congrArg some (q_put rfl (fun b hb => ⟨if_neg hb, rfl⟩) (Or.inl rfl))
theorem gi_89_1 {A : AS} {S : SS} : zgI (qH A S) 89 5 1 = some (S.1 89 1) := q_mk rfl
theorem pi_89_1 {A : AS} {S : SS} {v : Int32} : zpf (qH A S) 89 5 1 (.int v) = some (qH A (us S 89 1 v)) := congrArg some (q_put rfl (fun b hb => ⟨if_neg hb, rfl⟩) (Or.inl rfl))
theorem gi_89_2 {A : AS} {S : SS} : zgI (qH A S) 89 5 2 = some (S.1 89 2) := q_mk rfl
theorem pi_89_2 {A : AS} {S : SS} {v : Int32} : zpf (qH A S) 89 5 2 (.int v) = some (qH A (us S 89 2 v)) := congrArg some (q_put rfl (fun b hb => ⟨if_neg hb, rfl⟩) (Or.inl rfl))
theorem gi_89_3 {A : AS} {S : SS} : zgI (qH A S) 89 5 3 = some (S.1 89 3) := q_mk rfl
theorem pi_89_3 {A : AS} {S : SS} {v : Int32} : zpf (qH A S) 89 5 3 (.int v) = some (qH A (us S 89 3 v)) := congrArg some (q_put rfl (fun b hb => ⟨if_neg hb, rfl⟩) (Or.inl rfl))
theorem gr_89_4 {A : AS} {S : SS} : zgR (qH A S) 89 5 4 = some 90 := q_mk rfl
theorem gr_89_5 {A : AS} {S : SS} : zgR (qH A S) 89 5 5 = some 91 := q_mk rfl
theorem gr_89_6 {A : AS} {S : SS} : zgR (qH A S) 89 5 6 = some 92 := q_mk rfl
theorem gr_89_7 {A : AS} {S : SS} : zgR (qH A S) 89 5 7 = some 93 := q_mk rfl
theorem gi_89_8 {A : AS} {S : SS} : zgI (qH A S) 89 5 8 = some (S.1 89 8) := q_mk rfl
theorem pi_89_8 {A : AS} {S : SS} {v : Int32} : zpf (qH A S) 89 5 8 (.int v) = some (qH A (us S 89 8 v)) := congrArg some (q_put rfl (fun b hb => ⟨if_neg hb, rfl⟩) (Or.inl rfl))
theorem ob_89 {A : AS} {S : SS} : zob (qH A S) 89 5 = true := q_mk rfl
theorem gi_119_0 {A : AS} {S : SS} : zgI (qH A S) 119 7 0 = some (S.1 119 0) := q_mk rfl
theorem pi_119_0 {A : AS} {S : SS} {v : Int32} : zpf (qH A S) 119 7 0 (.int v) = some (qH A (us S 119 0 v)) := congrArg some (q_put rfl (fun b hb => ⟨if_neg hb, rfl⟩) (Or.inl rfl))
theorem gr_119_1 {A : AS} {S : SS} : zgR (qH A S) 119 7 1 = some 120 := q_mk rfl
theorem gi_119_2 {A : AS} {S : SS} : zgI (qH A S) 119 7 2 = some (S.1 119 2) := q_mk rfl
theorem pi_119_2 {A : AS} {S : SS} {v : Int32} : zpf (qH A S) 119 7 2 (.int v) = some (qH A (us S 119 2 v)) := congrArg some (q_put rfl (fun b hb => ⟨if_neg hb, rfl⟩) (Or.inl rfl))
theorem gi_119_3 {A : AS} {S : SS} : zgI (qH A S) 119 7 3 = some (S.1 119 3) := q_mk rfl
theorem pi_119_3 {A : AS} {S : SS} {v : Int32} : zpf (qH A S) 119 7 3 (.int v) = some (qH A (us S 119 3 v)) := congrArg some (q_put rfl (fun b hb => ⟨if_neg hb, rfl⟩) (Or.inl rfl))
theorem gi_119_4 {A : AS} {S : SS} : zgI (qH A S) 119 7 4 = some (S.1 119 4) := q_mk rfl
theorem pi_119_4 {A : AS} {S : SS} {v : Int32} : zpf (qH A S) 119 7 4 (.int v) = some (qH A (us S 119 4 v)) := congrArg some (q_put rfl (fun b hb => ⟨if_neg hb, rfl⟩) (Or.inl rfl))
theorem gi_119_5 {A : AS} {S : SS} : zgI (qH A S) 119 7 5 = some (S.1 119 5) := q_mk rfl
theorem pi_119_5 {A : AS} {S : SS} {v : Int32} : zpf (qH A S) 119 7 5 (.int v) = some (qH A (us S 119 5 v)) := congrArg some (q_put rfl (fun b hb => ⟨if_neg hb, rfl⟩) (Or.inl rfl))
theorem gi_119_6 {A : AS} {S : SS} : zgI (qH A S) 119 7 6 = some (S.1 119 6) := q_mk rfl
theorem pi_119_6 {A : AS} {S : SS} {v : Int32} : zpf (qH A S) 119 7 6 (.int v) = some (qH A (us S 119 6 v)) := congrArg some (q_put rfl (fun b hb => ⟨if_neg hb, rfl⟩) (Or.inl rfl))
theorem gi_119_7 {A : AS} {S : SS} : zgI (qH A S) 119 7 7 = some (S.1 119 7) := q_mk rfl
theorem pi_119_7 {A : AS} {S : SS} {v : Int32} : zpf (qH A S) 119 7 7 (.int v) = some (qH A (us S 119 7 v)) := congrArg some (q_put rfl (fun b hb => ⟨if_neg hb, rfl⟩) (Or.inl rfl))
theorem gr_119_8 {A : AS} {S : SS} : zgR (qH A S) 119 7 8 = some 121 := q_mk rfl
theorem gr_119_9 {A : AS} {S : SS} : zgR (qH A S) 119 7 9 = some 122 := q_mk rfl
theorem gr_119_10 {A : AS} {S : SS} : zgR (qH A S) 119 7 10 = some 123 := q_mk rfl
theorem gr_119_11 {A : AS} {S : SS} : zgR (qH A S) 119 7 11 = some 124 := q_mk rfl
theorem gi_119_12 {A : AS} {S : SS} : zgI (qH A S) 119 7 12 = some (S.1 119 12) := q_mk rfl
theorem pi_119_12 {A : AS} {S : SS} {v : Int32} : zpf (qH A S) 119 7 12 (.int v) = some (qH A (us S 119 12 v)) := congrArg some (q_put rfl (fun b hb => ⟨if_neg hb, rfl⟩) (Or.inl rfl))
theorem gi_119_13 {A : AS} {S : SS} : zgI (qH A S) 119 7 13 = some (S.1 119 13) := q_mk rfl
theorem pi_119_13 {A : AS} {S : SS} {v : Int32} : zpf (qH A S) 119 7 13 (.int v) = some (qH A (us S 119 13 v)) := congrArg some (q_put rfl (fun b hb => ⟨if_neg hb, rfl⟩) (Or.inl rfl))
theorem gi_119_14 {A : AS} {S : SS} : zgI (qH A S) 119 7 14 = some (S.1 119 14) := q_mk rfl
theorem pi_119_14 {A : AS} {S : SS} {v : Int32} : zpf (qH A S) 119 7 14 (.int v) = some (qH A (us S 119 14 v)) := congrArg some (q_put rfl (fun b hb => ⟨if_neg hb, rfl⟩) (Or.inl rfl))
theorem gi_119_15 {A : AS} {S : SS} : zgI (qH A S) 119 7 15 = some (S.1 119 15) := q_mk rfl
theorem pi_119_15 {A : AS} {S : SS} {v : Int32} : zpf (qH A S) 119 7 15 (.int v) = some (qH A (us S 119 15 v)) := congrArg some (q_put rfl (fun b hb => ⟨if_neg hb, rfl⟩) (Or.inl rfl))
theorem gi_119_16 {A : AS} {S : SS} : zgI (qH A S) 119 7 16 = some (S.1 119 16) := q_mk rfl
theorem pi_119_16 {A : AS} {S : SS} {v : Int32} : zpf (qH A S) 119 7 16 (.int v) = some (qH A (us S 119 16 v)) := congrArg some (q_put rfl (fun b hb => ⟨if_neg hb, rfl⟩) (Or.inl rfl))
theorem gr_119_17 {A : AS} {S : SS} : zgR (qH A S) 119 7 17 = some 133 := q_mk rfl
theorem gr_119_18 {A : AS} {S : SS} : zgR (qH A S) 119 7 18 = some 198 := q_mk rfl
theorem gr_119_19 {A : AS} {S : SS} : zgR (qH A S) 119 7 19 = some 263 := q_mk rfl
theorem gr_119_20 {A : AS} {S : SS} : zgR (qH A S) 119 7 20 = some 264 := q_mk rfl
theorem gr_119_21 {A : AS} {S : SS} : zgR (qH A S) 119 7 21 = some 265 := q_mk rfl
theorem gi_119_22 {A : AS} {S : SS} : zgI (qH A S) 119 7 22 = some (S.1 119 22) := q_mk rfl
theorem pi_119_22 {A : AS} {S : SS} {v : Int32} : zpf (qH A S) 119 7 22 (.int v) = some (qH A (us S 119 22 v)) := congrArg some (q_put rfl (fun b hb => ⟨if_neg hb, rfl⟩) (Or.inl rfl))
theorem gi_119_23 {A : AS} {S : SS} : zgI (qH A S) 119 7 23 = some (S.1 119 23) := q_mk rfl
theorem pi_119_23 {A : AS} {S : SS} {v : Int32} : zpf (qH A S) 119 7 23 (.int v) = some (qH A (us S 119 23 v)) := congrArg some (q_put rfl (fun b hb => ⟨if_neg hb, rfl⟩) (Or.inl rfl))
theorem gr_119_24 {A : AS} {S : SS} : zgR (qH A S) 119 7 24 = some 266 := q_mk rfl
theorem gr_119_25 {A : AS} {S : SS} : zgR (qH A S) 119 7 25 = some 267 := q_mk rfl
theorem gr_119_26 {A : AS} {S : SS} : zgR (qH A S) 119 7 26 = some 268 := q_mk rfl
theorem gr_119_27 {A : AS} {S : SS} : zgR (qH A S) 119 7 27 = some 269 := q_mk rfl
theorem ob_119 {A : AS} {S : SS} : zob (qH A S) 119 7 = true := q_mk rfl
theorem ql_2 {A : AS} : qL A 2 4096 := ⟨by decide, Or.inl ⟨by decide, by decide, fun _ _ _ => rfl⟩⟩
theorem ai_2 {A : AS} {S : SS} {i : Nat} (h : i < 4096) : zai (qH A S) 2 (nI i) = some (S.2.1 2 i) := q_ai ql_2 h
theorem si_2 {A : AS} {S : SS} {i : Nat} {v : Int32} (h : i < 4096) : zsi (qH A S) 2 (nI i) v = some (qH A (ua S 2 i v)) := q_si ql_2 h
theorem ql_3 {A : AS} : qL A 3 4096 := ⟨by decide, Or.inl ⟨by decide, by decide, fun _ _ _ => rfl⟩⟩
theorem ai_3 {A : AS} {S : SS} {i : Nat} (h : i < 4096) : zai (qH A S) 3 (nI i) = some (S.2.1 3 i) := q_ai ql_3 h
theorem si_3 {A : AS} {S : SS} {i : Nat} {v : Int32} (h : i < 4096) : zsi (qH A S) 3 (nI i) v = some (qH A (ua S 3 i v)) := q_si ql_3 h
theorem ql_4 {A : AS} : qL A 4 64 := ⟨by decide, Or.inl ⟨by decide, by decide, fun _ _ _ => rfl⟩⟩
theorem ai_4 {A : AS} {S : SS} {i : Nat} (h : i < 64) : zai (qH A S) 4 (nI i) = some (S.2.1 4 i) := q_ai ql_4 h
theorem si_4 {A : AS} {S : SS} {i : Nat} {v : Int32} (h : i < 64) : zsi (qH A S) 4 (nI i) v = some (qH A (ua S 4 i v)) := q_si ql_4 h
theorem ql_5 {A : AS} : qL A 5 64 := ⟨by decide, Or.inl ⟨by decide, by decide, fun _ _ _ => rfl⟩⟩
theorem ai_5 {A : AS} {S : SS} {i : Nat} (h : i < 64) : zai (qH A S) 5 (nI i) = some (S.2.1 5 i) := q_ai ql_5 h
theorem si_5 {A : AS} {S : SS} {i : Nat} {v : Int32} (h : i < 64) : zsi (qH A S) 5 (nI i) v = some (qH A (ua S 5 i v)) := q_si ql_5 h
theorem ql_6 {A : AS} : qL A 6 64 := ⟨by decide, Or.inl ⟨by decide, by decide, fun _ _ _ => rfl⟩⟩
theorem ai_6 {A : AS} {S : SS} {i : Nat} (h : i < 64) : zai (qH A S) 6 (nI i) = some (S.2.1 6 i) := q_ai ql_6 h
theorem si_6 {A : AS} {S : SS} {i : Nat} {v : Int32} (h : i < 64) : zsi (qH A S) 6 (nI i) v = some (qH A (ua S 6 i v)) := q_si ql_6 h
theorem ql_115 {A : AS} : qL A 115 64 := ⟨by decide, Or.inl ⟨by decide, by decide, fun _ _ _ => rfl⟩⟩
theorem ai_115 {A : AS} {S : SS} {i : Nat} (h : i < 64) : zai (qH A S) 115 (nI i) = some (S.2.1 115 i) := q_ai ql_115 h
theorem si_115 {A : AS} {S : SS} {i : Nat} {v : Int32} (h : i < 64) : zsi (qH A S) 115 (nI i) v = some (qH A (ua S 115 i v)) := q_si ql_115 h
theorem ql_116 {A : AS} : qL A 116 64 := ⟨by decide, Or.inl ⟨by decide, by decide, fun _ _ _ => rfl⟩⟩
theorem ai_116 {A : AS} {S : SS} {i : Nat} (h : i < 64) : zai (qH A S) 116 (nI i) = some (S.2.1 116 i) := q_ai ql_116 h
theorem si_116 {A : AS} {S : SS} {i : Nat} {v : Int32} (h : i < 64) : zsi (qH A S) 116 (nI i) v = some (qH A (ua S 116 i v)) := q_si ql_116 h
theorem ql_117 {A : AS} : qL A 117 64 := ⟨by decide, Or.inl ⟨by decide, by decide, fun _ _ _ => rfl⟩⟩
theorem ai_117 {A : AS} {S : SS} {i : Nat} (h : i < 64) : zai (qH A S) 117 (nI i) = some (S.2.1 117 i) := q_ai ql_117 h
theorem si_117 {A : AS} {S : SS} {i : Nat} {v : Int32} (h : i < 64) : zsi (qH A S) 117 (nI i) v = some (qH A (ua S 117 i v)) := q_si ql_117 h
theorem ql_263 {A : AS} : qL A 263 64 := ⟨by decide, Or.inl ⟨by decide, by decide, fun _ _ _ => rfl⟩⟩
theorem ai_263 {A : AS} {S : SS} {i : Nat} (h : i < 64) : zai (qH A S) 263 (nI i) = some (S.2.1 263 i) := q_ai ql_263 h
theorem si_263 {A : AS} {S : SS} {i : Nat} {v : Int32} (h : i < 64) : zsi (qH A S) 263 (nI i) v = some (qH A (ua S 263 i v)) := q_si ql_263 h
theorem ql_264 {A : AS} : qL A 264 64 := ⟨by decide, Or.inl ⟨by decide, by decide, fun _ _ _ => rfl⟩⟩
theorem ai_264 {A : AS} {S : SS} {i : Nat} (h : i < 64) : zai (qH A S) 264 (nI i) = some (S.2.1 264 i) := q_ai ql_264 h
theorem si_264 {A : AS} {S : SS} {i : Nat} {v : Int32} (h : i < 64) : zsi (qH A S) 264 (nI i) v = some (qH A (ua S 264 i v)) := q_si ql_264 h
theorem ql_266 {A : AS} : qL A 266 64 := ⟨by decide, Or.inl ⟨by decide, by decide, fun _ _ _ => rfl⟩⟩
theorem ai_266 {A : AS} {S : SS} {i : Nat} (h : i < 64) : zai (qH A S) 266 (nI i) = some (S.2.1 266 i) := q_ai ql_266 h
theorem si_266 {A : AS} {S : SS} {i : Nat} {v : Int32} (h : i < 64) : zsi (qH A S) 266 (nI i) v = some (qH A (ua S 266 i v)) := q_si ql_266 h
theorem ql_267 {A : AS} : qL A 267 64 := ⟨by decide, Or.inl ⟨by decide, by decide, fun _ _ _ => rfl⟩⟩
theorem ai_267 {A : AS} {S : SS} {i : Nat} (h : i < 64) : zai (qH A S) 267 (nI i) = some (S.2.1 267 i) := q_ai ql_267 h
theorem si_267 {A : AS} {S : SS} {i : Nat} {v : Int32} (h : i < 64) : zsi (qH A S) 267 (nI i) v = some (qH A (ua S 267 i v)) := q_si ql_267 h
theorem ql_268 {A : AS} : qL A 268 64 := ⟨by decide, Or.inl ⟨by decide, by decide, fun _ _ _ => rfl⟩⟩
theorem ai_268 {A : AS} {S : SS} {i : Nat} (h : i < 64) : zai (qH A S) 268 (nI i) = some (S.2.1 268 i) := q_ai ql_268 h
theorem si_268 {A : AS} {S : SS} {i : Nat} {v : Int32} (h : i < 64) : zsi (qH A S) 268 (nI i) v = some (qH A (ua S 268 i v)) := q_si ql_268 h
theorem ql_269 {A : AS} : qL A 269 64 := ⟨by decide, Or.inl ⟨by decide, by decide, fun _ _ _ => rfl⟩⟩
theorem ai_269 {A : AS} {S : SS} {i : Nat} (h : i < 64) : zai (qH A S) 269 (nI i) = some (S.2.1 269 i) := q_ai ql_269 h
theorem si_269 {A : AS} {S : SS} {i : Nat} {v : Int32} (h : i < 64) : zsi (qH A S) 269 (nI i) v = some (qH A (ua S 269 i v)) := q_si ql_269 h
theorem ql_90 {A : AS} : qL A 90 300 := ⟨by decide, Or.inl ⟨by decide, by decide, fun _ _ _ => rfl⟩⟩
theorem ai_90 {A : AS} {S : SS} {i : Nat} (h : i < 300) : zai (qH A S) 90 (nI i) = some (S.2.1 90 i) := q_ai ql_90 h
theorem si_90 {A : AS} {S : SS} {i : Nat} {v : Int32} (h : i < 300) : zsi (qH A S) 90 (nI i) v = some (qH A (ua S 90 i v)) := q_si ql_90 h
theorem ql_91 {A : AS} : qL A 91 301 := ⟨by decide, Or.inl ⟨by decide, by decide, fun _ _ _ => rfl⟩⟩
theorem ai_91 {A : AS} {S : SS} {i : Nat} (h : i < 301) : zai (qH A S) 91 (nI i) = some (S.2.1 91 i) := q_ai ql_91 h
theorem si_91 {A : AS} {S : SS} {i : Nat} {v : Int32} (h : i < 301) : zsi (qH A S) 91 (nI i) v = some (qH A (ua S 91 i v)) := q_si ql_91 h
theorem ql_92 {A : AS} : qL A 92 301 := ⟨by decide, Or.inl ⟨by decide, by decide, fun _ _ _ => rfl⟩⟩
theorem ai_92 {A : AS} {S : SS} {i : Nat} (h : i < 301) : zai (qH A S) 92 (nI i) = some (S.2.1 92 i) := q_ai ql_92 h
theorem si_92 {A : AS} {S : SS} {i : Nat} {v : Int32} (h : i < 301) : zsi (qH A S) 92 (nI i) v = some (qH A (ua S 92 i v)) := q_si ql_92 h
theorem ql_93 {A : AS} : qL A 93 301 := ⟨by decide, Or.inl ⟨by decide, by decide, fun _ _ _ => rfl⟩⟩
theorem ai_93 {A : AS} {S : SS} {i : Nat} (h : i < 301) : zai (qH A S) 93 (nI i) = some (S.2.1 93 i) := q_ai ql_93 h
theorem si_93 {A : AS} {S : SS} {i : Nat} {v : Int32} (h : i < 301) : zsi (qH A S) 93 (nI i) v = some (qH A (ua S 93 i v)) := q_si ql_93 h
theorem ql_114 {A : AS} : qL A 114 65 := ⟨by decide, Or.inl ⟨by decide, by decide, fun _ _ _ => rfl⟩⟩
theorem ai_114 {A : AS} {S : SS} {i : Nat} (h : i < 65) : zai (qH A S) 114 (nI i) = some (S.2.1 114 i) := q_ai ql_114 h
theorem si_114 {A : AS} {S : SS} {i : Nat} {v : Int32} (h : i < 65) : zsi (qH A S) 114 (nI i) v = some (qH A (ua S 114 i v)) := q_si ql_114 h
theorem ql_118 {A : AS} : qL A 118 3 := ⟨by decide, Or.inl ⟨by decide, by decide, fun _ _ _ => rfl⟩⟩
theorem ai_118 {A : AS} {S : SS} {i : Nat} (h : i < 3) : zai (qH A S) 118 (nI i) = some (S.2.1 118 i) := q_ai ql_118 h
theorem si_118 {A : AS} {S : SS} {i : Nat} {v : Int32} (h : i < 3) : zsi (qH A S) 118 (nI i) v = some (qH A (ua S 118 i v)) := q_si ql_118 h
theorem ql_120 {A : AS} : qL A 120 3 := ⟨by decide, Or.inl ⟨by decide, by decide, fun _ _ _ => rfl⟩⟩
theorem ai_120 {A : AS} {S : SS} {i : Nat} (h : i < 3) : zai (qH A S) 120 (nI i) = some (S.2.1 120 i) := q_ai ql_120 h
theorem si_120 {A : AS} {S : SS} {i : Nat} {v : Int32} (h : i < 3) : zsi (qH A S) 120 (nI i) v = some (qH A (ua S 120 i v)) := q_si ql_120 h
theorem ql_121 {A : AS} : qL A 121 300 := ⟨by decide, Or.inl ⟨by decide, by decide, fun _ _ _ => rfl⟩⟩
theorem ai_121 {A : AS} {S : SS} {i : Nat} (h : i < 300) : zai (qH A S) 121 (nI i) = some (S.2.1 121 i) := q_ai ql_121 h
theorem si_121 {A : AS} {S : SS} {i : Nat} {v : Int32} (h : i < 300) : zsi (qH A S) 121 (nI i) v = some (qH A (ua S 121 i v)) := q_si ql_121 h
theorem ql_122 {A : AS} : qL A 122 387 := ⟨by decide, Or.inl ⟨by decide, by decide, fun _ _ _ => rfl⟩⟩
theorem ai_122 {A : AS} {S : SS} {i : Nat} (h : i < 387) : zai (qH A S) 122 (nI i) = some (S.2.1 122 i) := q_ai ql_122 h
theorem si_122 {A : AS} {S : SS} {i : Nat} {v : Int32} (h : i < 387) : zsi (qH A S) 122 (nI i) v = some (qH A (ua S 122 i v)) := q_si ql_122 h
theorem ql_123 {A : AS} : qL A 123 387 := ⟨by decide, Or.inl ⟨by decide, by decide, fun _ _ _ => rfl⟩⟩
theorem ai_123 {A : AS} {S : SS} {i : Nat} (h : i < 387) : zai (qH A S) 123 (nI i) = some (S.2.1 123 i) := q_ai ql_123 h
theorem si_123 {A : AS} {S : SS} {i : Nat} {v : Int32} (h : i < 387) : zsi (qH A S) 123 (nI i) v = some (qH A (ua S 123 i v)) := q_si ql_123 h
theorem ql_265 {A : AS} : qL A 265 14 := ⟨by decide, Or.inl ⟨by decide, by decide, fun _ _ _ => rfl⟩⟩
theorem ai_265 {A : AS} {S : SS} {i : Nat} (h : i < 14) : zai (qH A S) 265 (nI i) = some (S.2.1 265 i) := q_ai ql_265 h
theorem si_265 {A : AS} {S : SS} {i : Nat} {v : Int32} (h : i < 14) : zsi (qH A S) 265 (nI i) v = some (qH A (ua S 265 i v)) := q_si ql_265 h
theorem st_facts : ∀ s, s < 271 → isSt s = true → s < 89 ∧ row64 s = false ∧ row387 s = false ∧ isSt (s + 1) = false ∧ row64 (s + 1) = false ∧ row387 (s + 1) = false ∧ isMx (s + 1) = true ∧ (∀ i, i < 6 → row64 (s + 2 + i) = true) := by decide +kernel
theorem st_lt {s : Nat} (h : isSt s = true) : s < 271 := by
  unfold isSt at h
  simp at h
  omega
theorem st_emb {s : Nat} (h : isSt s = true) (sc ar : Nat → Int32) (o : Nat → Int64) : emb0 s sc ar o = z_o 3 [.int (sc 0), .int (sc 1), .int (sc 2), .ref (s + 1)] := by
  obtain ⟨-, h1, h2, -⟩ := st_facts s (st_lt h) h
  rw [emb0, if_neg (by rintro rfl; exact absurd h (by decide))]
  simp [h1, h2, h]
theorem mx_emb {s : Nat} (h : isSt s = true) (sc ar : Nat → Int32) (o : Nat → Int64) : emb0 (s + 1) sc ar o = z_r 2 6 (fun i => if i < 6 then some (s + 1 + 1 + i) else none) := by
  obtain ⟨-, -, -, h3, h4, h5, h6, -⟩ := st_facts s (st_lt h) h
  rw [emb0, if_neg (by intro e; have : s = 269 := by omega
                       subst this; exact absurd h (by decide))]
  simp [h3, h4, h5, h6]
theorem ql_row {A : AS} {a : Nat} (h : a < 271) (hr : row64 a = true) : qL A a 64 := ⟨by decide, Or.inl ⟨h, by rintro rfl; exact absurd hr (by decide), fun _ _ _ => by rw [emb0, if_neg (by rintro rfl; exact absurd hr (by decide)), if_pos hr]⟩⟩
theorem ql_387 {A : AS} {a : Nat} (h : a < 271) (h1 : row64 a = false) (hr : row387 a = true) : qL A a 387 := ⟨by decide, Or.inl ⟨h, by rintro rfl; exact absurd hr (by decide), fun _ _ _ => by rw [emb0, if_neg (by rintro rfl; exact absurd hr (by decide)), if_neg (by rw [h1]; decide), if_pos hr]⟩⟩
theorem ql_st {A : AS} {s i : Nat} (h : isSt s = true) (hi : i < 6) : qL A (s + 2 + i) 64 := by
  obtain ⟨h0, -, -, -, -, -, -, h6⟩ := st_facts s (st_lt h) h
  exact ql_row (by omega) (h6 i hi)
theorem ob_st {A : AS} {S : SS} {s : Nat} (h : isSt s = true) : zob (qH A S) s 3 = true := by
  unfold zob
  rw [q_at (st_lt h), st_emb h]
  rfl
theorem gi_st {A : AS} {S : SS} {s k : Nat} (h : isSt s = true) (hk : k < 3) : zgI (qH A S) s 3 k = some (S.1 s k) := by
  unfold zgI zfd
  rw [q_at (st_lt h), st_emb h]
  match k, hk with
  | 0, _ => rfl
  | 1, _ => rfl
  | 2, _ => rfl
theorem gr_st {A : AS} {S : SS} {s : Nat} (h : isSt s = true) : zgR (qH A S) s 3 3 = some (s + 1) := by
  unfold zgR zfd
  rw [q_at (st_lt h), st_emb h]
  rfl
theorem pi_st {A : AS} {S : SS} {s k : Nat} {v : Int32} (h : isSt s = true) (hk : k < 3) : zpf (qH A S) s 3 k (.int v) = some (qH A (us S s k v)) := by
  unfold zpf
  rw [q_at (st_lt h), st_emb h]
  have hp : ∀ e, (qH A (us S s k v)).2.2 s = some e → zput (qH A S) s e = qH A (us S s k v) := fun e he => q_put he (fun b hb => ⟨if_neg hb, rfl⟩) (Or.inl rfl)
  have hq : (qH A (us S s k v)).2.2 s = some (z_o 3 [.int (upd (S.1 s) k v 0), .int (upd (S.1 s) k v 1), .int (upd (S.1 s) k v 2), .ref (s + 1)]) := by
    rw [q_at (st_lt h), st_emb h]
    simp [us]
  match k, hk with
  | 0, _ => exact congrArg some (hp _ hq)
  | 1, _ => exact congrArg some (hp _ hq)
  | 2, _ => exact congrArg some (hp _ hq)
theorem ar_mx {A : AS} {S : SS} {s i : Nat} (h : isSt s = true) (hi : i < 6) : zar (qH A S) (s + 1) (nI i) = some (s + 2 + i) := by
  have h0 := (st_facts s (st_lt h) h).1
  unfold zar
  rw [q_at (by omega), mx_emb h]
  show (if ((2 = 2 ∨ 2 = 3) ∧ ¬ (nI i < 0 ∨ 6 ≤ (nI i).toNatClampNeg)) then _ else _) = _
  rw [if_pos ⟨Or.inl rfl, nI_in hi (by decide)⟩, nI_clamp (by omega)]
  show (if i < 6 then some (s + 1 + 1 + i) else none) = _
  rw [if_pos hi]
theorem ar_95 {A : AS} {S : SS} {i : Nat} (hi : i < 5) : zar (qH A S) 95 (nI i) = some (95 + 1 + i) := by
  unfold zar
  show (if ((2 = 2 ∨ 2 = 3) ∧ ¬ (nI i < 0 ∨ 5 ≤ (nI i).toNatClampNeg)) then (if (nI i).toNatClampNeg < 5 then some (_) else none) else none) = _
  rw [if_pos ⟨by decide, nI_in hi (by decide)⟩, nI_clamp (by omega), if_pos hi]
theorem ar_101 {A : AS} {S : SS} {i : Nat} (hi : i < 5) : zar (qH A S) 101 (nI i) = some (101 + 1 + i) := by
  unfold zar
  show (if ((2 = 2 ∨ 2 = 3) ∧ ¬ (nI i < 0 ∨ 5 ≤ (nI i).toNatClampNeg)) then (if (nI i).toNatClampNeg < 5 then some (_) else none) else none) = _
  rw [if_pos ⟨by decide, nI_in hi (by decide)⟩, nI_clamp (by omega), if_pos hi]
theorem ar_107 {A : AS} {S : SS} {i : Nat} (hi : i < 5) : zar (qH A S) 107 (nI i) = some (107 + 1 + i) := by
  unfold zar
  show (if ((2 = 2 ∨ 2 = 3) ∧ ¬ (nI i < 0 ∨ 5 ≤ (nI i).toNatClampNeg)) then (if (nI i).toNatClampNeg < 5 then some (_) else none) else none) = _
  rw [if_pos ⟨by decide, nI_in hi (by decide)⟩, nI_clamp (by omega), if_pos hi]
theorem ar_133 {A : AS} {S : SS} {i : Nat} (hi : i < 64) : zar (qH A S) 133 (nI i) = some (133 + 1 + i) := by
  unfold zar
  show (if ((2 = 2 ∨ 2 = 3) ∧ ¬ (nI i < 0 ∨ 64 ≤ (nI i).toNatClampNeg)) then (if (nI i).toNatClampNeg < 64 then some (_) else none) else none) = _
  rw [if_pos ⟨by decide, nI_in hi (by decide)⟩, nI_clamp (by omega), if_pos hi]
theorem ar_198 {A : AS} {S : SS} {i : Nat} (hi : i < 64) : zar (qH A S) 198 (nI i) = some (198 + 1 + i) := by
  unfold zar
  show (if ((2 = 2 ∨ 2 = 3) ∧ ¬ (nI i < 0 ∨ 64 ≤ (nI i).toNatClampNeg)) then (if (nI i).toNatClampNeg < 64 then some (_) else none) else none) = _
  rw [if_pos ⟨by decide, nI_in hi (by decide)⟩, nI_clamp (by omega), if_pos hi]
theorem ar_124 {A : AS} {S : SS} {i : Nat} (hi : i < 8) : zar (qH A S) 124 (nI i) = some (124 + 1 + i) := by
  unfold zar
  show (if ((2 = 2 ∨ 2 = 3) ∧ ¬ (nI i < 0 ∨ 8 ≤ (nI i).toNatClampNeg)) then (if (nI i).toNatClampNeg < 8 then some (_) else none) else none) = _
  rw [if_pos ⟨by decide, nI_in hi (by decide)⟩, nI_clamp (by omega), if_pos hi]
theorem ar_24 {A : AS} {S : SS} {i : Nat} (hi : i < 8) : zar (qH A S) 24 (nI i) = some (25 + 8 * i) := by
  unfold zar
  show (if ((3 = 2 ∨ 3 = 3) ∧ ¬ (nI i < 0 ∨ 8 ≤ (nI i).toNatClampNeg)) then (if (nI i).toNatClampNeg < 8 then some (_) else none) else none) = _
  rw [if_pos ⟨by decide, nI_in hi (by decide)⟩, nI_clamp (by omega), if_pos hi]
theorem q_out {A : AS} {S : SS} : zal (qH A S) 270 0 = some (S.2.2 0) := q_mk rfl
theorem q_outs {A : AS} {S : SS} {v : Int64} : zsl (qH A S) 270 0 v = some (qH A (uo S v)) := by
  show some (zput (qH A S) 270 (z_l 1 (va_up S.2.2 0 v))) = _
  congr 1
  exact q_put rfl (fun b hb => ⟨rfl, rfl⟩) (Or.inr rfl)
theorem qlit (n : Nat) : (OfNat.ofNat n : Int32) = nI (OfNat.ofNat n) := q_mk rfl
