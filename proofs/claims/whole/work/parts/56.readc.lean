/-! the class reads a line so -/
def Row (F : List Nat) (wr : Nat → Int32) : Prop := F.length ≤ 400 ∧ (∀ i, i < F.length → wr i = nI (F.getD i 0)) ∧ ∀ c, c ∈ F → c < 256
theorem drop_hd {F l : List Nat} {k c : Nat} (h : F.drop k = c :: l) : k < F.length ∧ F.getD k 0 = c ∧ F.drop (k + 1) = l ∧ c ∈ F := by
  have h1 : k < F.length := by
    rcases Nat.lt_or_ge k F.length with q | q
    · exact q
    · rw [List.drop_eq_nil_iff.mpr q] at h; cases h
  rw [List.drop_eq_getElem_cons h1] at h
  have h2 := (List.cons.inj h).1
  refine ⟨h1, ?_, (List.cons.inj h).2, ?_⟩
  · rw [List.getD_eq_getElem?_getD, List.getElem?_eq_getElem h1]; exact h2
  · rw [← h2]; exact List.getElem_mem h1
theorem drop_nil {F : List Nat} {k : Nat} (h : F.drop k = []) : F.length ≤ k := List.drop_eq_nil_iff.mp h
theorem cZ_n {n : Nat} (h : n < 256) : cZ (nI n) := (pk_charN (by omega)).1
theorem W_peek {Q : Int32 → Prop} {F l : List Nat} {wr : Nat → Int32} {k : Nat} (hR : Row F wr) (hk : k ≤ F.length) (hl : F.drop k = l) (h : Q (nI (l.headD 0))) : wp_W_peek (nI F.length) (nI k) wr Q := by
  obtain ⟨r1, r2, r3⟩ := hR
  unfold wp_W_peek
  refine pk_le F.length k (fun z => ?_) (fun z => ?_) rfl rfl (by omega) (by omega)
  · rw [List.drop_eq_nil_iff.mpr z] at hl
    subst hl
    exact h
  · refine ⟨vp_in_nI (by omega) (by omega), ?_⟩
    rw [nI_clamp (by omega), r2 k z]
    cases l with
    | nil => exact absurd (drop_nil hl) (by omega)
    | cons c l =>
      obtain ⟨q1, q2, q3, q4⟩ := drop_hd hl
      rw [q2]
      exact ⟨cZ_n (r3 c q4), h⟩
theorem W_peekC {Q : Int32 → Prop} {F l : List Nat} {wr : Nat → Int32} {k c : Nat} (hR : Row F wr) (hl : F.drop k = c :: l) (h : Q (nI c)) : wp_W_peek (nI F.length) (nI k) wr Q := W_peek hR (Nat.le_of_lt (drop_hd hl).1) hl h
theorem W_isD {Q : Int32 → Prop} {c : Nat} (hc : c < 256) (h : Q (if isD c = true then 1 else 0)) : wp_W_isDigit (nI c) Q := by
  unfold wp_W_isDigit
  refine pk_lt c 48 (fun z => ?_) (fun z => pk_lt 57 c (fun y => ?_) (fun y => ?_) (by decide) rfl (by omega) (by omega)) rfl (by decide) (by omega) (by omega)
  · rw [if_neg (by simp [isD]; omega)] at h; exact h
  · rw [if_neg (by simp [isD]; omega)] at h; exact h
  · rw [if_pos (by simp [isD]; omega)] at h; exact h
theorem W_isS {Q : Int32 → Prop} {L : Nat} (hL : L < 7) (h : Q (if 2 ≤ L ∧ L ≤ 5 then 1 else 0)) : wp_W_isSigned (nI L) Q := by
  unfold wp_W_isSigned wq_W_isSigned_20
  refine pk_eq L 2 (fun z => ?_) (fun z => pk_eq L 3 (fun y => ?_) (fun y => pk_eq L 4 (fun x => ?_) (fun x => ⟨fun w => ?_, fun w => ?_⟩) rfl (by decide) (by omega) (by omega)) rfl (by decide) (by omega) (by omega)) rfl (by decide) (by omega) (by omega)
  · rw [if_pos (by omega)] at h; exact h
  · rw [if_pos (by omega)] at h; exact h
  · rw [if_pos (by omega)] at h; exact h
  · have : ¬ L = 5 := fun q => w (by rw [q]; decide)
    rw [if_neg (by omega)] at h; exact h
  · have : L = 5 := (nI_eq (b := 5) (by omega) (by omega)).mp w
    rw [if_pos (by omega)] at h; exact h
section RC
variable {Q : Int32 → Int32 → Int32 → Int32 → (Nat → Int32) → (Nat → Int32) → Prop} {F : List Nat} {wr wz wn : Nat → Int32} {x1 x2 w_motion w_distances : Int32}
/-- the digits -/
theorem W_dig (hR : Row F wr) : ∀ (l : List Nat) (k x : Nat) (a : Int32) (j : Nat), k ≤ F.length → F.drop k = l →
    wq_W_readWord_129 Q x1 x2 (nI x) ((dgv l a j).1) (nI (k + ((dgv l a j).2.1 - j))) w_motion w_distances wz wn → wq_W_readWord_80 Q (nI F.length) wr (l.length + 1) x1 x2 (nI x) a (nI k) w_motion w_distances wz wn := by
  intro l
  induction l with
  | nil =>
    intro k x a j hk hl h
    unfold wq_W_readWord_80
    have := drop_nil hl
    refine pk_le F.length k (fun z => ?_) (fun z => absurd z (by omega)) rfl rfl (by have := hR.1; omega) (by have := hR.1; omega)
    have e : k + ((dgv [] a j).2.1 - j) = k := by show k + (j - j) = k; omega
    rw [e] at h
    exact h
  | cons c l ih =>
    intro k x a j hk hl h
    obtain ⟨q1, q2, q3, q4⟩ := drop_hd hl
    have hc := hR.2.2 c q4
    unfold wq_W_readWord_80
    refine pk_le F.length k (fun z => absurd z (by omega)) (fun _ => ?_) rfl rfl (by have := hR.1; omega) (by have := hR.1; omega)
    refine W_peekC hR hl (W_isD hc ?_)
    by_cases hd : isD c = true
    · rw [if_pos hd]
      refine ⟨fun z => absurd z (by decide), fun _ => W_peekC hR hl ?_⟩
      rw [nI_add1]
      unfold dgv at h
      rw [if_pos hd] at h
      refine ih (k + 1) x _ (j + 1) (by omega) q3 ?_
      obtain ⟨i, d1, d2, d3⟩ := dgv_drop l (10 * a + nI c - 48) (j + 1)
      rw [d2] at h ⊢
      have e : k + (j + 1 + i - j) = k + 1 + (j + 1 + i - (j + 1)) := by omega
      rw [e] at h
      exact h
    · rw [if_neg hd]
      unfold dgv at h
      rw [if_neg hd] at h
      have e : k + (j - j) = k := by omega
      refine ⟨fun _ => ?_, fun z => absurd rfl z⟩
      dsimp only at h
      rw [e] at h
      exact h
/-- a letter and a number are kept -/
def wO (o : Option Int32) (z n : Int32) : Prop := (o = none ∧ z = 0) ∨ ∃ x, o = some x ∧ z = 1 ∧ n = x
def CW (s : WS) (mo di : Int32) (wz wn : Nat → Int32) : Prop := mo = s.2.1 ∧ di = s.2.2 ∧ ∀ k, 1 ≤ k → k ≤ 6 → wO (s.1 k) (wz k) (wn k)
theorem bool_1 : vp_nar .boolean (1 : Int32) = 1 := by decide +kernel
theorem bool_0 : vp_nar .boolean (0 : Int32) = 0 := by decide +kernel
theorem CW.set {s : WS} {mo di : Int32} {wz wn : Nat → Int32} {L : Nat} {x : Int32} (h : CW s mo di wz wn) : CW (setO s.1 L x, s.2) mo di (upd wz L 1) (upd wn L x) := by
  refine ⟨h.1, h.2.1, fun k h1 h2 => ?_⟩
  by_cases e : k = L
  · subst e
    exact Or.inr ⟨x, by simp [setO], pk_us, pk_us⟩
  · rw [pk_un e, pk_un e]
    have := h.2.2 k h1 h2
    simpa [setO, e] using this
theorem CW.some_iff {s : WS} {mo di : Int32} {wz wn : Nat → Int32} {L : Nat} (h : CW s mo di wz wn) (h1 : 1 ≤ L) (h2 : L ≤ 6) : wz L = 0 ↔ ¬ (s.1 L).isSome = true := by
  rcases h.2.2 L h1 h2 with ⟨q1, q2⟩ | ⟨x, q1, q2, q3⟩
  · rw [q1, q2]; simp
  · rw [q1, q2]; simp
theorem W_keep {Q : Int32 → (Nat → Int32) → (Nat → Int32) → Prop} {s : WS} {mo di : Int32} {L : Nat} {x : Int32} (hC : CW s mo di wz wn) (h1 : 1 ≤ L) (h2 : L ≤ 6) (h : ∀ z' n', ((setw L x s).1 = 0 → CW (setw L x s).2 mo di z' n') → Q (setw L x s).1 z' n') : wp_W_keep (nI L) x wz wn Q := by
  unfold wp_W_keep wq_W_keep_13 wq_W_keep_46
  rw [nI_clamp (by omega), bool_1]
  have hin : vp_in (nI L) 7 := vp_in_nI (by omega) (by omega)
  have key : (¬ (L = 1 ∧ ¬ x = 2)) → (vp_in (nI L) 7 ∧ ((wz L = 0 → ((¬ nI L = (6 : Int32) → (vp_in (nI L) 7 ∧ (vp_in (nI L) 7 ∧ (Q (0 : Int32) (upd wz L 1) (upd wn L x))))) ∧ (nI L = (6 : Int32) → ((x < (1 : Int32) → (Q (105 : Int32) wz wn)) ∧ (¬ x < (1 : Int32) → ((x ≤ (10000 : Int32) → (vp_in (nI L) 7 ∧ (vp_in (nI L) 7 ∧ (Q (0 : Int32) (upd wz L 1) (upd wn L x))))) ∧ (¬ x ≤ (10000 : Int32) → (Q (105 : Int32) wz wn)))))))) ∧ (¬ wz L = 0 → (Q (103 : Int32) wz wn)))) := by
    intro hm
    refine ⟨hin, fun z => ?_, fun z => ?_⟩
    · have hs := (hC.some_iff h1 h2).mp z
      have e6 : nI L = (6 : Int32) ↔ L = 6 := nI_eq (b := 6) (by omega) (by omega)
      have ok : ¬ (L = 6 ∧ (x < 1 ∨ 10000 < x)) → Q 0 (upd wz L 1) (upd wn L x) := by
        intro q
        have e : setw L x s = (0, (setO s.1 L x, s.2)) := by
          unfold setw
          rw [if_neg (by omega), if_neg hm, if_neg hs, if_neg q]
        rw [e] at h
        exact h _ _ (fun _ => hC.set)
      have bad : (L = 6 ∧ (x < 1 ∨ 10000 < x)) → Q 105 wz wn := by
        intro q
        have e : setw L x s = (105, s) := by
          unfold setw
          rw [if_neg (by omega), if_neg hm, if_neg hs, if_pos q]
        rw [e] at h
        exact h _ _ (fun z => absurd (show (105 : Int32) = 0 from z) (by decide))
      refine ⟨fun y => ⟨hin, hin, ok (fun q => y (e6.mpr q.1))⟩, fun y => ⟨fun u => bad ⟨e6.mp y, Or.inl u⟩, fun u => ⟨fun v => ⟨hin, hin, ok (fun q => ?_)⟩, fun v => bad ⟨e6.mp y, Or.inr (Int32.not_le.mp v)⟩⟩⟩⟩
      rcases q.2 with q | q
      · exact u q
      · exact absurd v (Int32.not_le.mpr q)
    · have hs : (s.1 L).isSome = true := by
        rcases Bool.eq_false_or_eq_true (s.1 L).isSome with q | q
        · exact q
        · exact absurd ((hC.some_iff h1 h2).mpr (by rw [q]; decide)) z
      have e : setw L x s = (103, s) := by
        unfold setw
        rw [if_neg (by omega), if_neg hm, if_pos hs]
      rw [e] at h
      exact h _ _ (fun z => absurd (show (103 : Int32) = 0 from z) (by decide))
  have e1 : nI L = (1 : Int32) ↔ L = 1 := nI_eq (b := 1) (by omega) (by omega)
  refine ⟨fun z => key (fun q => z (e1.mpr q.1)), fun z => ⟨fun y => key (fun q => q.2 y), fun y => ?_⟩⟩
  have e : setw L x s = (102, s) := by
    unfold setw
    rw [if_neg (by omega), if_pos ⟨e1.mp z, y⟩]
  rw [e] at h
  exact h _ _ (fun z => absurd (show (102 : Int32) = 0 from z) (by decide))
end RC
