/-! what a line asks: bounds of its words, the outcome of its move -/
theorem dgv_bnd : ∀ (l : List Nat) (a : Int32) (k j : Nat), (dgv l a k).2.1 = k + j → 0 ≤ a.toInt → (a.toInt + 1) * 10 ^ j ≤ 100000000 → 0 ≤ (dgv l a k).1.toInt ∧ (dgv l a k).1.toInt + 1 ≤ (a.toInt + 1) * 10 ^ j := by
  intro l
  induction l with
  | nil =>
    intro a k j e h0 h1
    have : (dgv [] a k) = (a, k, []) := rfl
    rw [this] at e ⊢
    have ej : j = 0 := by simp at e; omega
    rw [ej]
    simp
    exact h0
  | cons c l ih =>
    intro a k j e h0 h1
    unfold dgv at e ⊢
    by_cases h : isD c = true
    · rw [if_pos h] at e ⊢
      have hc : 48 ≤ c ∧ c ≤ 57 := by
        unfold isD at h
        rw [Bool.and_eq_true, decide_eq_true_eq, decide_eq_true_eq] at h
        exact h
      obtain ⟨j', d1, d2, d3⟩ := dgv_drop l (10 * a + nI c - 48) (k + 1)
      have ej : j = j' + 1 := by omega
      subst ej
      have p10 : (1 : Int) ≤ 10 ^ j' := by
        have : 0 < (10 : Int) ^ j' := Int.pow_pos (by decide)
        omega
      have hs : (10 : Int) ^ (j' + 1) = 10 ^ j' * 10 := Int.pow_succ 10 j'
      have ha : (a.toInt + 1) * 10 ≤ 100000000 := by
        have k1 : (a.toInt + 1) * 10 * 1 ≤ (a.toInt + 1) * 10 * 10 ^ j' := Int.mul_le_mul_of_nonneg_left p10 (by omega)
        have k2 : (a.toInt + 1) * 10 * 10 ^ j' = (a.toInt + 1) * 10 ^ (j' + 1) := by rw [hs, Int.mul_assoc, Int.mul_comm 10]
        omega
      have t10 : (10 : Int32).toInt = 10 := rfl
      have t48 : (48 : Int32).toInt = 48 := rfl
      have e1 : (10 * a).toInt = 10 * a.toInt := by
        rw [ti_mul (by rw [t10]; omega) (by rw [t10]; omega), t10]
      have e2 : (nI c).toInt = c := nI_toInt (by omega)
      have e3 : (10 * a + nI c).toInt = 10 * a.toInt + c := by
        rw [ti_add (by rw [e1, e2]; omega) (by rw [e1, e2]; omega), e1, e2]
      have e4 : (10 * a + nI c - 48).toInt = 10 * a.toInt + c - 48 := by
        rw [ti_sub (by rw [e3, t48]; omega) (by rw [e3, t48]; omega), e3, t48]
      have m1 : ((10 * a + nI c - 48).toInt + 1) * 10 ^ j' ≤ (a.toInt + 1) * 10 ^ (j' + 1) := by
        rw [hs, Int.mul_comm (10 ^ j') 10, ← Int.mul_assoc]
        exact Int.mul_le_mul_of_nonneg_right (by omega) (by omega)
      have := ih (10 * a + nI c - 48) (k + 1) j' d2 (by omega) (by omega)
      omega
    · rw [if_neg h] at e ⊢
      have ej : j = 0 := by
        have : k = k + j := e
        omega
      rw [ej]
      simp
      exact h0
def WOK (s : WS) : Prop := (∀ k v, 2 ≤ k → k ≤ 5 → s.1 k = some v → -9999 ≤ v.toInt ∧ v.toInt ≤ 9999) ∧ (s.2.1 = -1 ∨ 0 ≤ s.2.1 ∧ s.2.1 ≤ 3) ∧ (∀ v, s.1 6 = some v → 1 ≤ v ∧ v ≤ 10000)
def Fl (f : Int32) : Prop := f = 0 ∨ f = 101 ∨ f = 102 ∨ f = 103 ∨ f = 105
theorem WOK_0 : WOK ws0 := ⟨fun k v _ _ h => by simp [ws0] at h, Or.inl rfl, fun v h => by simp [ws0] at h⟩
theorem setw_ok {L : Nat} {x : Int32} {s : WS} (h : WOK s) (hx : 2 ≤ L → L ≤ 5 → -9999 ≤ x.toInt ∧ x.toInt ≤ 9999) : WOK (setw L x s).2 ∧ Fl (setw L x s).1 := by
  unfold setw Fl
  by_cases c0 : L = 0
  · rw [if_pos c0]
    by_cases c1 : 0 ≤ x ∧ x ≤ 3
    · rw [if_pos c1]
      by_cases c2 : s.2.1 = -1
      · rw [if_pos c2]
        exact ⟨⟨h.1, Or.inr c1, h.2.2⟩, Or.inl rfl⟩
      · rw [if_neg c2]
        exact ⟨h, by simp⟩
    · rw [if_neg c1]
      by_cases c2 : x = 90 ∨ x = 91
      · rw [if_pos c2]
        by_cases c3 : s.2.2 = -1
        · rw [if_pos c3]
          exact ⟨h, Or.inl rfl⟩
        · rw [if_neg c3]
          exact ⟨h, by simp⟩
      · rw [if_neg c2]
        exact ⟨h, by simp⟩
  · rw [if_neg c0]
    by_cases c1 : L = 1 ∧ ¬ x = 2
    · rw [if_pos c1]
      exact ⟨h, by simp⟩
    · rw [if_neg c1]
      by_cases c2 : (s.1 L).isSome = true
      · rw [if_pos c2]
        exact ⟨h, by simp⟩
      · rw [if_neg c2]
        by_cases c3 : L = 6 ∧ (x < 1 ∨ 10000 < x)
        · rw [if_pos c3]
          exact ⟨h, by simp⟩
        · rw [if_neg c3]
          refine ⟨⟨fun k v k1 k2 e => ?_, h.2.1, fun v e => ?_⟩, Or.inl rfl⟩
          · have e' : setO s.1 L x k = some v := e
            unfold setO at e'
            by_cases q : k = L
            · rw [if_pos q] at e'
              cases e'
              exact hx (by omega) (by omega)
            · rw [if_neg q] at e'
              exact h.1 k v k1 k2 e'
          · have e' : setO s.1 L x 6 = some v := e
            unfold setO at e'
            by_cases q : 6 = L
            · rw [if_pos q] at e'
              cases e'
              have z : ¬ (x < 1 ∨ 10000 < x) := fun y => c3 ⟨q.symm, y⟩
              rw [not_or, Int32.not_lt, Int32.not_lt] at z
              exact z
            · rw [if_neg q] at e'
              exact h.2.2 v e'
theorem word_ok {L : Nat} {l : List Nat} {s : WS} (h : WOK s) : WOK (word L l s).2.1 ∧ Fl (word L l s).1 := by
  unfold word
  by_cases c : (dgv (sgn L l).2 0 0).2.1 < 1 ∨ most L < (dgv (sgn L l).2 0 0).2.1
  · rw [if_pos c]
    exact ⟨h, Or.inr (Or.inl rfl)⟩
  · rw [if_neg c]
    refine setw_ok h (fun l1 l2 => ?_)
    have hm : most L = 4 := by
      unfold most
      rw [if_neg (by omega), if_pos (by omega)]
    rw [hm] at c
    obtain ⟨j, d1, d2, d3⟩ := dgv_drop (sgn L l).2 0 0
    have z0 : (0 : Int32).toInt = 0 := rfl
    have hj : j ≤ 4 := by omega
    have p : ((0 : Int32).toInt + 1) * 10 ^ j ≤ 10000 := by
      rw [z0]
      rcases (by omega : j = 0 ∨ j = 1 ∨ j = 2 ∨ j = 3 ∨ j = 4) with rfl | rfl | rfl | rfl | rfl <;> decide
    have v := dgv_bnd (sgn L l).2 0 0 j d2 (by rw [z0]; omega) (by omega)
    by_cases q : (sgn L l).1 = true
    · rw [if_pos q, ti_neg (by omega)]
      omega
    · rw [if_neg q]
      omega
theorem rd_ok : ∀ (n : Nat) (l : List Nat) (s : WS), WOK s → WOK (rd n l s).2 ∧ Fl (rd n l s).1 := by
  intro n
  induction n with
  | zero => intro l s h; exact ⟨h, Or.inl rfl⟩
  | succ n ih =>
    intro l s h
    cases l with
    | nil => exact ⟨h, Or.inl rfl⟩
    | cons c l =>
      unfold rd
      cases hl : ltr c with
      | none => exact ⟨h, Or.inr (Or.inl rfl)⟩
      | some L =>
        dsimp only
        have w := word_ok (L := L) (l := l) h
        by_cases q : (word L l s).1 = 0
        · rw [if_pos q]
          exact ih _ _ w.1
        · rw [if_neg q]
          exact w
theorem ln_ok (tx : Nat → Nat) (i e : Nat) : WOK (ln tx i e).2 ∧ Fl (ln tx i e).1 := rd_ok _ _ _ WOK_0
noncomputable def cif {α : Type} (P : Prop) (a b : α) : α := @ite α P (Classical.propDecidable P) a b
theorem cif_pos {α : Type} {P : Prop} {a b : α} (h : P) : cif P a b = a := @if_pos P (Classical.propDecidable P) h α a b
theorem cif_neg {α : Type} {P : Prop} {a b : α} (h : ¬ P) : cif P a b = b := @if_neg P (Classical.propDecidable P) h α a b
abbrev PT : Type := Nat → Int32 × Int32
abbrev MO : Type := Int32 × Option (Nat × PT)
noncomputable def arcO (R t a b c d cx cy : Int) : Nat × PT := @Classical.epsilon (Nat × PT) ⟨(0, fun _ => (0, 0))⟩ (fun o => IsArc R t a b c d cx cy o.1 o.2)
theorem arcO_eq {R t a b c d cx cy : Int} {N : Nat} {pth : PT} (ht : t = 1 ∨ t = -1) (h : IsArc R t a b c d cx cy N pth) : arcO R t a b c d cx cy = (N, pth) := by
  have h' := @Classical.epsilon_spec (Nat × PT) (fun o => IsArc R t a b c d cx cy o.1 o.2) ⟨(N, pth), h⟩
  have := IsArc.uniq ht h' h
  exact Prod.ext this.1 this.2
noncomputable def mvo (x y mo gX gY i j : Int) : MO :=
  if mo < 2 then (if -200 ≤ gX ∧ gX ≤ 200 ∧ -200 ≤ gY ∧ gY ≤ 200 then (0, some (sN (gX - x) (gY - y), pS (iI x) (iI y) (iI (gX - x)) (iI (gY - y)) (sN (gX - x) (gY - y)))) else (107, none))
  else if i * i + j * j = 0 ∨ ¬ (gX - (x + i)) * (gX - (x + i)) + (gY - (y + j)) * (gY - (y + j)) = i * i + j * j then (106, none)
  else cif (inL (i * i + j * j).toNat (x + i) (y + j)) (0, some (arcO (i * i + j * j) (if mo = 3 then 1 else -1) (-i) (-j) (gX - (x + i)) (gY - (y + j)) (x + i) (y + j))) (107, none)
def gl (o : Option Int32) (re he : Int32) : Int32 := match o with
  | none => he
  | some v => if re = 0 then v else he + v
def hasG (s : WS) : Bool := (s.1 2).isSome || (s.1 3).isSome
def hasC (s : WS) : Bool := (s.1 4).isSome || (s.1 5).isSome
noncomputable def smv (x y mo fe re : Int32) (s : WS) : MO :=
  if ((mo = 2 ∨ mo = 3) ∧ hasG s = true ∧ hasC s = false) ∨ (¬ (mo = 2 ∨ mo = 3) ∧ hasC s = true) then (104, none)
  else if hasG s = false ∧ hasC s = false then (0, none)
  else if ¬ mo = 0 ∧ fe = 0 then (105, none)
  else mvo x.toInt y.toInt mo.toInt (gl (s.1 2) re x).toInt (gl (s.1 3) re y).toInt ((s.1 4).getD 0).toInt ((s.1 5).getD 0).toInt
theorem gl_in {o : Option Int32} {re he : Int32} (h1 : -200 ≤ he.toInt) (h2 : he.toInt ≤ 200) (ho : ∀ v, o = some v → -9999 ≤ v.toInt ∧ v.toInt ≤ 9999) : -10199 ≤ (gl o re he).toInt ∧ (gl o re he).toInt ≤ 10199 := by
  unfold gl
  cases o with
  | none => dsimp only; omega
  | some v =>
    have := ho v rfl
    dsimp only
    by_cases q : re = 0
    · rw [if_pos q]; omega
    · rw [if_neg q, ti_add (by omega) (by omega)]; omega
theorem nm_in {o : Option Int32} (ho : ∀ v, o = some v → -9999 ≤ v.toInt ∧ v.toInt ≤ 9999) : -9999 ≤ (o.getD 0).toInt ∧ (o.getD 0).toInt ≤ 9999 := by
  cases o with
  | none => decide
  | some v => exact ho v rfl
