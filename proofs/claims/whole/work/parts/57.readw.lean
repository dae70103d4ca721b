section RW
variable {F : List Nat} {wr wz wn : Nat → Int32} {s : WS} {mo di : Int32}
theorem W_keepG {Q : Int32 → Int32 → Int32 → Prop} {x : Int32} (h : Q (setw 0 x s).1 (setw 0 x s).2.2.1 (setw 0 x s).2.2.2) : wp_W_keepG x s.2.1 s.2.2 Q := by
  have big : ¬ (0 ≤ x ∧ x ≤ 3) → wq_W_keepG_27 Q x s.2.1 s.2.2 := by
    intro q
    unfold wq_W_keepG_27 wq_W_keepG_39
    have two : (x = 90 ∨ x = 91) → ((s.2.2 = (-1 : Int32) → (Q (0 : Int32) s.2.1 x)) ∧ (¬ s.2.2 = (-1 : Int32) → (Q (103 : Int32) s.2.1 s.2.2))) := by
      intro y
      refine ⟨fun z => ?_, fun z => ?_⟩
      · have e : setw 0 x s = (0, (s.1, s.2.1, x)) := by unfold setw; rw [if_pos rfl, if_neg q, if_pos y, if_pos z]
        rw [e] at h; exact h
      · have e : setw 0 x s = (103, s) := by unfold setw; rw [if_pos rfl, if_neg q, if_pos y, if_neg z]
        rw [e] at h; exact h
    refine ⟨fun z => two (Or.inl z), fun z => ⟨fun y => ?_, fun y => two (Or.inr y)⟩⟩
    have e : setw 0 x s = (102, s) := by unfold setw; rw [if_pos rfl, if_neg q, if_neg (fun u => u.elim z y)]
    rw [e] at h; exact h
  unfold wp_W_keepG
  refine ⟨fun z => big (fun q => absurd z (Int32.not_lt.mpr q.1)), fun z => ⟨fun y => big (fun q => absurd y (Int32.not_lt.mpr q.2)), fun y => ?_⟩⟩
  have q : 0 ≤ x ∧ x ≤ 3 := ⟨Int32.not_lt.mp z, Int32.not_lt.mp y⟩
  refine ⟨fun w => ?_, fun w => ?_⟩
  · have e : setw 0 x s = (0, (s.1, x, s.2.2)) := by unfold setw; rw [if_pos rfl, if_pos q, if_pos w]
    rw [e] at h; exact h
  · have e : setw 0 x s = (103, s) := by unfold setw; rw [if_pos rfl, if_pos q, if_neg w]
    rw [e] at h; exact h
theorem setw_CW {x : Int32} (hC : CW s s.2.1 s.2.2 wz wn) : CW (setw 0 x s).2 (setw 0 x s).2.2.1 (setw 0 x s).2.2.2 wz wn := by
  refine ⟨rfl, rfl, ?_⟩
  have e : (setw 0 x s).2.1 = s.1 := by
    unfold setw
    rw [if_pos rfl]
    repeat' split
    all_goals rfl
  rw [e]
  exact hC.2.2
theorem mdg_most : ∀ L, L < 7 → mdg L = nI (most L) := by decide +kernel
theorem most_le (L : Nat) : most L ≤ 5 := by
  unfold most
  split
  · omega
  · split <;> omega
/-- behind the sign -/
theorem W_num {Q : Int32 → Int32 → Int32 → Int32 → (Nat → Int32) → (Nat → Int32) → Prop} {L : Nat} {neg : Bool} {x2 : Int32} {k : Nat} {l : List Nat} (hR : Row F wr) (hC : CW s s.2.1 s.2.2 wz wn) (hL : L < 7) (hk : k ≤ F.length) (hl : F.drop k = l) (hx2 : (x2 = 0 ↔ neg = false) ∨ L = 0)
    (h : ∀ mo' di' z' n', let d := dgv l 0 0; let r := setw L (if neg = true then -d.1 else d.1) s; (¬ (d.2.1 < 1 ∨ most L < d.2.1) → r.1 = 0 → CW r.2 mo' di' z' n') → Q (if d.2.1 < 1 ∨ most L < d.2.1 then 101 else r.1) (nI (k + d.2.1)) mo' di' z' n') (hneg : L = 0 → neg = false) :
    wq_W_readWord_72 Q (nI F.length) wr (nI L) x2 (nI k) s.2.1 s.2.2 wz wn := by
  refine ⟨l.length + 1, W_dig hR l k k 0 0 hk hl ?_⟩
  dsimp only at h
  have hr1 := hR.1
  obtain ⟨i, d1, d2, d3⟩ := dgv_drop l 0 0
  have hlen : l.length = F.length - k := by rw [← hl, List.length_drop]
  generalize dgv l 0 0 = d at h d1 d2
  rw [Nat.sub_zero]
  unfold wq_W_readWord_129
  rw [pk_sub (by omega), (by omega : k + d.2.1 - k = d.2.1), nI_clamp (by omega), mdg_most L hL]
  have bad : (d.2.1 < 1 ∨ most L < d.2.1) → Q 101 (nI (k + d.2.1)) s.2.1 s.2.2 wz wn := by
    intro q
    have := h s.2.1 s.2.2 wz wn (fun z => absurd q z)
    rwa [if_pos q] at this
  refine pk_lt d.2.1 1 (fun z => bad (Or.inl z)) (fun z => ⟨vp_in_nI hL (by omega), pk_le d.2.1 (most L) (fun y => ?_) (fun y => bad (Or.inr y)) rfl rfl (by omega) (by have := most_le L; omega)⟩) rfl (by decide) (by omega) (by omega)
  have good : ¬ (d.2.1 < 1 ∨ most L < d.2.1) := by omega
  rw [if_neg good] at h
  refine pk_eq L 0 (fun w => ?_) (fun w => ?_) rfl (by decide) (by omega) (by omega) |> fun u => ⟨fun w => u.2 w, fun w => u.1 w⟩
  · have hn := hneg w
    subst w
    refine W_keepG (x := d.1) ?_
    rw [if_neg (by rw [hn]; decide)] at h
    exact h _ _ _ _ (fun _ _ => setw_CW hC)
  · have kp : ∀ x, x = (if neg = true then -d.1 else d.1) → wq_W_readWord_183 Q (nI L) x (nI (k + d.2.1)) s.2.1 s.2.2 wz wn := by
      rintro x rfl
      unfold wq_W_readWord_183
      refine W_keep hC (by omega) (by omega) (fun z' n' q => ?_)
      exact h _ _ _ _ (fun _ y => q y)
    have hx := hx2.resolve_right w
    refine ⟨fun v => kp _ ?_, fun v => kp _ ?_⟩
    · rw [if_neg (by rw [hx.mp v]; decide)]
    · have : neg = true := by
        rcases Bool.eq_false_or_eq_true neg with q | q
        · exact q
        · exact absurd (hx.mpr q) v
      rw [if_pos this]
theorem sgn_false {L : Nat} {l : List Nat} (h : ¬ (2 ≤ L ∧ L ≤ 5)) : sgn L l = (false, l) := by unfold sgn; rw [if_neg h]
theorem W_word {Q : Int32 → Int32 → Int32 → Int32 → (Nat → Int32) → (Nat → Int32) → Prop} {L k : Nat} {l : List Nat} (hR : Row F wr) (hC : CW s s.2.1 s.2.2 wz wn) (hL : L < 7) (hk : k ≤ F.length) (hl : F.drop k = l)
    (h : ∀ k' mo' di' z' n', k ≤ k' → k' ≤ F.length → F.drop k' = (word L l s).2.2 → ((word L l s).1 = 0 → k < k' ∧ CW (word L l s).2.1 mo' di' z' n') → Q (word L l s).1 (nI k') mo' di' z' n') (s0 : Int32) (hs0 : s0 = if l.headD 0 = 45 then 1 else 0) :
    wq_W_readWord_41 Q (nI F.length) wr (nI L) s0 (nI k) s.2.1 s.2.2 wz wn := by
  have hr1 := hR.1
  -- from a place on, with the sign's answer
  have go : ∀ (neg : Bool) (k1 : Nat) (l1 : List Nat) (x2 : Int32), k ≤ k1 → k1 ≤ F.length → F.drop k1 = l1 → sgn L l = (neg, l1) → ((x2 = 0 ↔ neg = false) ∨ L = 0) → (L = 0 → neg = false) → wq_W_readWord_72 Q (nI F.length) wr (nI L) x2 (nI k1) s.2.1 s.2.2 wz wn := by
    intro neg k1 l1 x2 a1 a2 a3 a4 a5 a6
    refine W_num hR hC hL a2 a3 a5 ?_ a6
    intro mo' di' z' n'
    dsimp only
    intro q
    obtain ⟨i, d1, d2, d3⟩ := dgv_drop l1 0 0
    have hlen : l1.length = F.length - k1 := by rw [← a3, List.length_drop]
    have ew : word L l s = (if (dgv l1 0 0).2.1 < 1 ∨ most L < (dgv l1 0 0).2.1 then (101, s, (dgv l1 0 0).2.2) else ((setw L (if neg = true then -(dgv l1 0 0).1 else (dgv l1 0 0).1) s).1, (setw L (if neg = true then -(dgv l1 0 0).1 else (dgv l1 0 0).1) s).2, (dgv l1 0 0).2.2)) := by
      unfold word
      rw [a4]
    have e2 : (word L l s).2.2 = (dgv l1 0 0).2.2 := by
      rw [ew]
      split <;> rfl
    have hi : (dgv l1 0 0).2.1 = i := by omega
    have ed : F.drop (k1 + (dgv l1 0 0).2.1) = (word L l s).2.2 := by
      rw [e2, d1, hi, ← List.drop_drop, a3]
    have := h (k1 + (dgv l1 0 0).2.1) mo' di' z' n' (by omega) (by omega) ed
    by_cases c : (dgv l1 0 0).2.1 < 1 ∨ most L < (dgv l1 0 0).2.1
    · rw [if_pos c] at ew ⊢
      rw [ew] at this
      exact this (fun z => absurd (show (101 : Int32) = 0 from z) (by decide))
    · rw [if_neg c] at ew ⊢
      rw [ew] at this
      exact this (fun z => ⟨by omega, q c z⟩)
  unfold wq_W_readWord_41
  refine W_isS hL ?_
  by_cases hs : 2 ≤ L ∧ L ≤ 5
  · rw [if_pos hs]
    refine ⟨fun z => absurd z (by decide), fun _ => ?_⟩
    cases l with
    | nil =>
      have e : s0 = 0 := by rw [hs0]; rfl
      subst e
      refine ⟨fun z => absurd rfl z, fun _ => W_peek hR hk hl ⟨fun _ => ?_, fun z => absurd z (by decide)⟩⟩
      exact go false k [] 0 (Nat.le_refl _) hk hl (by unfold sgn; rw [if_pos hs]) (Or.inl (by simp)) (fun _ => rfl)
    | cons c l =>
      obtain ⟨q1, q2, q3, q4⟩ := drop_hd hl
      have hc := hR.2.2 c q4
      have eh : (c :: l).headD 0 = c := rfl
      rw [eh] at hs0
      by_cases c45 : c = 45
      · rw [if_pos c45] at hs0
        subst hs0
        refine ⟨fun _ => ?_, fun z => absurd z (by decide)⟩
        unfold wq_W_readWord_62
        rw [nI_add1]
        exact go true (k + 1) l 1 (by omega) (by omega) q3 (by unfold sgn; rw [if_pos hs]; simp [c45]) (Or.inl (by simp)) (fun z => by omega)
      · rw [if_neg c45] at hs0
        subst hs0
        refine ⟨fun z => absurd rfl z, fun _ => W_peekC hR hl ⟨fun z => ?_, fun z => ?_⟩⟩
        · have c43 : ¬ c = 43 := fun q => z (by rw [q]; decide)
          exact go false k (c :: l) 0 (Nat.le_refl _) hk hl (by unfold sgn; rw [if_pos hs]; simp [c45, c43]) (Or.inl (by simp)) (fun _ => rfl)
        · have c43 : c = 43 := (nI_eq (b := 43) (by omega) (by omega)).mp z
          unfold wq_W_readWord_62
          rw [nI_add1]
          exact go false (k + 1) l 0 (by omega) (by omega) q3 (by unfold sgn; rw [if_pos hs]; simp [c43]) (Or.inl (by simp)) (fun _ => rfl)
  · rw [if_neg hs]
    refine ⟨fun _ => ?_, fun z => absurd rfl z⟩
    by_cases e : s0 = 0 ∨ L = 0
    · exact go false k l s0 (Nat.le_refl _) hk hl (sgn_false hs) (by rcases e with e | e; exact Or.inl (by rw [e]; simp); exact Or.inr e) (fun _ => rfl)
    · -- a minus ahead of an unsigned number: no digit stands there
      have e1 : l.headD 0 = 45 := by
        rcases Decidable.em (l.headD 0 = 45) with q | q
        · exact q
        · rw [if_neg q] at hs0; exact absurd (Or.inl hs0) e
      cases l with
      | nil => exact absurd e1 (by decide)
      | cons c l =>
        have e2 : c = 45 := e1
        subst e2
        have ed : dgv (45 :: l) 0 0 = (0, 0, 45 :: l) := by unfold dgv; rw [if_neg (by decide)]
        have ew : word L (45 :: l) s = (101, s, 45 :: l) := by
          unfold word
          rw [sgn_false hs, ed]
          exact if_pos (Or.inl Nat.zero_lt_one)
        refine ⟨(45 :: l).length + 1, W_dig hR (45 :: l) k k 0 0 hk hl ?_⟩
        rw [ew] at h
        rw [ed]
        unfold wq_W_readWord_129
        dsimp only
        rw [Nat.sub_self, Nat.add_zero, pk_sub (Nat.le_refl _), Nat.sub_self]
        refine ⟨fun _ => ?_, fun z => absurd (by decide) z⟩
        exact h k s.2.1 s.2.2 wz wn (Nat.le_refl _) hk hl (fun z => absurd (show (101 : Int32) = 0 from z) (by decide))
end RW
