/-! the words of a line: one function on the codes without blanks; the class reads so -/
abbrev WS : Type := (Nat → Option Int32) × Int32 × Int32
def ltr (c : Nat) : Option Nat := if c = 71 then some 0 else if c = 77 then some 1 else if c = 88 then some 2 else if c = 89 then some 3 else if c = 73 then some 4 else if c = 74 then some 5 else if c = 70 then some 6 else none
def most (L : Nat) : Nat := if L < 2 then 2 else if L < 6 then 4 else 5
def isD (c : Nat) : Bool := decide (48 ≤ c) && decide (c ≤ 57)
def dgv : List Nat → Int32 → Nat → Int32 × Nat × List Nat
  | [], a, k => (a, k, [])
  | c :: l, a, k => if isD c = true then dgv l (10 * a + nI c - 48) (k + 1) else (a, k, c :: l)
def setO (v : Nat → Option Int32) (k : Nat) (x : Int32) : Nat → Option Int32 := fun j => if j = k then some x else v j
def setw (L : Nat) (x : Int32) (s : WS) : Int32 × WS :=
  if L = 0 then
    (if 0 ≤ x ∧ x ≤ 3 then (if s.2.1 = -1 then (0, (s.1, x, s.2.2)) else (103, s))
     else if x = 90 ∨ x = 91 then (if s.2.2 = -1 then (0, (s.1, s.2.1, x)) else (103, s))
     else (102, s))
  else if L = 1 ∧ ¬ x = 2 then (102, s)
  else if (s.1 L).isSome = true then (103, s)
  else if L = 6 ∧ (x < 1 ∨ 10000 < x) then (105, s)
  else (0, (setO s.1 L x, s.2))
def sgn (L : Nat) (l : List Nat) : Bool × List Nat :=
  if 2 ≤ L ∧ L ≤ 5 then (match l with | [] => (false, []) | c :: t => if c = 45 then (true, t) else if c = 43 then (false, t) else (false, c :: t)) else (false, l)
def word (L : Nat) (l : List Nat) (s : WS) : Int32 × WS × List Nat :=
  if (dgv (sgn L l).2 0 0).2.1 < 1 ∨ most L < (dgv (sgn L l).2 0 0).2.1 then (101, s, (dgv (sgn L l).2 0 0).2.2)
  else ((setw L (if (sgn L l).1 = true then -(dgv (sgn L l).2 0 0).1 else (dgv (sgn L l).2 0 0).1) s).1, (setw L (if (sgn L l).1 = true then -(dgv (sgn L l).2 0 0).1 else (dgv (sgn L l).2 0 0).1) s).2, (dgv (sgn L l).2 0 0).2.2)
def rd : Nat → List Nat → WS → Int32 × WS
  | 0, _, s => (0, s)
  | _ + 1, [], s => (0, s)
  | n + 1, c :: l, s => match ltr c with
    | none => (101, s)
    | some L => if (word L l s).1 = 0 then rd n (word L l s).2.2 (word L l s).2.1 else ((word L l s).1, (word L l s).2.1)
theorem dgv_len : ∀ (l : List Nat) (a : Int32) (k : Nat), (dgv l a k).2.1 + (dgv l a k).2.2.length = k + l.length := by
  intro l
  induction l with
  | nil => intro a k; rfl
  | cons c l ih =>
    intro a k
    unfold dgv
    by_cases h : isD c = true
    · rw [if_pos h, ih]; simp; omega
    · rw [if_neg h]
theorem dgv_drop : ∀ (l : List Nat) (a : Int32) (k : Nat), ∃ j, (dgv l a k).2.2 = l.drop j ∧ (dgv l a k).2.1 = k + j ∧ j ≤ l.length := by
  intro l
  induction l with
  | nil => intro a k; exact ⟨0, rfl, rfl, Nat.le_refl _⟩
  | cons c l ih =>
    intro a k
    unfold dgv
    by_cases h : isD c = true
    · rw [if_pos h]
      obtain ⟨j, h1, h2, h3⟩ := ih (10 * a + nI c - 48) (k + 1)
      exact ⟨j + 1, by rw [h1]; rfl, by omega, by simp; omega⟩
    · rw [if_neg h]
      exact ⟨0, rfl, rfl, Nat.zero_le _⟩
theorem ltr_lt {c L : Nat} (h : ltr c = some L) : L < 7 := by
  unfold ltr at h
  repeat' (split at h)
  all_goals first | (cases h; decide) | cases h
/-- String.indexOf over the seven letters -/
theorem lts_eq : ∀ n, n < 256 → (lts 0 = (nI n).toInt8.toInt32 ↔ n = 71) ∧ (lts 1 = (nI n).toInt8.toInt32 ↔ n = 77) ∧ (lts 2 = (nI n).toInt8.toInt32 ↔ n = 88) ∧ (lts 3 = (nI n).toInt8.toInt32 ↔ n = 89) ∧ (lts 4 = (nI n).toInt8.toInt32 ↔ n = 73) ∧ (lts 5 = (nI n).toInt8.toInt32 ↔ n = 74) ∧ (lts 6 = (nI n).toInt8.toInt32 ↔ n = 70) := by decide +kernel
def ixr (c : Nat) : Int32 := match ltr c with
  | none => -1
  | some L => nI L
theorem ix_step {Q : Int32 → Prop} {n : Nat} {f j : Nat} (hj : j < 7) (h1 : lts j = (nI n).toInt8.toInt32 → Q (nI j)) (h2 : ¬ lts j = (nI n).toInt8.toInt32 → wq_Jl_indexOfChar_7 Q f 7 (nI n).toInt8.toInt32 (nI (j + 1))) : wq_Jl_indexOfChar_7 Q (f + 1) 7 (nI n).toInt8.toInt32 (nI j) := by
  unfold wq_Jl_indexOfChar_7
  refine pk_le 7 j (fun z => absurd z (by omega)) (fun _ => ⟨vp_in_nI hj (by omega), ?_⟩) (by decide)
  rw [nI_clamp (by omega), nI_add1]
  exact ⟨h2, h1⟩
theorem Js_ix {Q : Int32 → Prop} {n : Nat} (hn : n < 256) (h : Q (ixr n)) : wp_Js_indexOf (nI n) Q := by
  unfold wp_Js_indexOf wp_Js_indexOf2 wp_Js_isLatin1
  refine ⟨fun z => absurd z (by decide), fun _ => ⟨fun z => absurd rfl z, fun _ => ⟨fun z => absurd z (by decide), fun _ => ?_⟩⟩⟩
  unfold wp_Js_length wp_Js_coder
  refine ⟨fun z => absurd z (by decide), fun _ => ?_⟩
  dsimp only
  rw [show (7 : Int32) >>> ((0 : Int32) &&& 31) = 7 from by decide +kernel]
  unfold wp_Jl_indexOf wp_Jl_canEncode
  refine ⟨fun z => absurd z (nI_pos (by omega)), fun _ => ⟨fun z => absurd z (nI_nlt (a := 255) (b := n) (by omega) (by omega)), fun _ => ⟨fun _ => ?_, fun z => absurd z (by decide)⟩⟩⟩
  unfold wp_Jm_max
  refine ⟨fun z => absurd z (by decide), fun _ => ?_⟩
  unfold wp_Jm_min
  refine ⟨fun z => absurd z (by decide), fun _ => ⟨fun _ => ?_, fun z => absurd (by decide) z⟩⟩
  obtain ⟨e0, e1, e2, e3, e4, e5, e6⟩ := lts_eq n hn
  unfold ixr ltr at h
  refine ⟨8, ?_⟩
  refine ix_step (j := 0) (by decide) (fun z => by rw [if_pos (e0.mp z)] at h; exact h) (fun z0 => ?_)
  rw [if_neg (fun q => z0 (e0.mpr q))] at h
  refine ix_step (j := 1) (by decide) (fun z => by rw [if_pos (e1.mp z)] at h; exact h) (fun z1 => ?_)
  rw [if_neg (fun q => z1 (e1.mpr q))] at h
  refine ix_step (j := 2) (by decide) (fun z => by rw [if_pos (e2.mp z)] at h; exact h) (fun z2 => ?_)
  rw [if_neg (fun q => z2 (e2.mpr q))] at h
  refine ix_step (j := 3) (by decide) (fun z => by rw [if_pos (e3.mp z)] at h; exact h) (fun z3 => ?_)
  rw [if_neg (fun q => z3 (e3.mpr q))] at h
  refine ix_step (j := 4) (by decide) (fun z => by rw [if_pos (e4.mp z)] at h; exact h) (fun z4 => ?_)
  rw [if_neg (fun q => z4 (e4.mpr q))] at h
  refine ix_step (j := 5) (by decide) (fun z => by rw [if_pos (e5.mp z)] at h; exact h) (fun z5 => ?_)
  rw [if_neg (fun q => z5 (e5.mpr q))] at h
  refine ix_step (j := 6) (by decide) (fun z => by rw [if_pos (e6.mp z)] at h; exact h) (fun z6 => ?_)
  rw [if_neg (fun q => z6 (e6.mpr q))] at h
  unfold wq_Jl_indexOfChar_7
  exact ⟨fun _ => h, fun z => absurd (by decide) z⟩
