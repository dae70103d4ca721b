/-! feed: how many codes, and what the text then holds -/
def cw (w : Int32) (k : Nat) : Int32 := (w >>> (((8 : Int32) * nI k) &&& 31)) &&& (255 : Int32)
def cnt (w : Int32) : Nat := if cw w 0 = 0 then 0 else if cw w 1 = 0 then 1 else if cw w 2 = 0 then 2 else if cw w 3 = 0 then 3 else 4
theorem cnt_le (w : Int32) : cnt w ≤ 4 := by
  unfold cnt
  split
  · omega
  · split
    · omega
    · split
      · omega
      · split <;> omega
theorem cnt_eq {w : Int32} {j : Nat} (hj : j ≤ 4) (h : ∀ i, i < j → ¬ cw w i = 0) (h4 : j = 4 ∨ cw w j = 0) : cnt w = j := by
  unfold cnt
  rcases (by omega : j = 0 ∨ j = 1 ∨ j = 2 ∨ j = 3 ∨ j = 4) with rfl | rfl | rfl | rfl | rfl
  · rw [if_pos (h4.resolve_left (by decide))]
  · rw [if_neg (h 0 (by decide)), if_pos (h4.resolve_left (by decide))]
  · rw [if_neg (h 0 (by decide)), if_neg (h 1 (by decide)), if_pos (h4.resolve_left (by decide))]
  · rw [if_neg (h 0 (by decide)), if_neg (h 1 (by decide)), if_neg (h 2 (by decide)), if_pos (h4.resolve_left (by decide))]
  · rw [if_neg (h 0 (by decide)), if_neg (h 1 (by decide)), if_neg (h 2 (by decide)), if_neg (h 3 (by decide))]
theorem cnt_ne {w : Int32} {i : Nat} (hi : i < cnt w) : ¬ cw w i = 0 := by
  unfold cnt at hi
  split at hi
  · omega
  · rename_i h0
    split at hi
    · rcases (by omega : i = 0) with rfl; exact h0
    · rename_i h1
      split at hi
      · rcases (by omega : i = 0 ∨ i = 1) with rfl | rfl
        · exact h0
        · exact h1
      · rename_i h2
        split at hi
        · rcases (by omega : i = 0 ∨ i = 1 ∨ i = 2) with rfl | rfl | rfl
          · exact h0
          · exact h1
          · exact h2
        · rename_i h3
          rcases (by omega : i = 0 ∨ i = 1 ∨ i = 2 ∨ i = 3) with rfl | rfl | rfl | rfl
          · exact h0
          · exact h1
          · exact h2
          · exact h3
theorem cw_code (w : Int32) (k : Nat) : ∃ j : Nat, j < 256 ∧ cw w k = nI j := pk_andE _ (m := 255) 8 (by decide)
theorem cw_char (w : Int32) (k : Nat) : vp_nar .char (((cw w k).toUInt32 % 65536).toInt32) = cw w k := by
  obtain ⟨j, hj, e⟩ := cw_code w k
  rw [pk_vc, e, pk_char, pk_tn (by omega), Nat.mod_eq_of_lt (by omega)]
/-- the text behind: the old codes, then the first j of w's -/
def fed (n j : Nat) (w : Int32) (f g : Nat → Int32) : Prop := (∀ i, i < n → g i = f i) ∧ ∀ i, i < j → g (n + i) = cw w i
theorem fed_0 {n : Nat} {w : Int32} {f : Nat → Int32} : fed n 0 w f f := ⟨fun _ _ => rfl, fun i h => absurd h (by omega)⟩
theorem fed_s {n j : Nat} {w : Int32} {f g : Nat → Int32} {x : Int32} {k : Nat} (hk : k = n + j) (hx : x = cw w j) (h : fed n j w f g) : fed n (j + 1) w f (upd g k x) := by
  subst hk hx
  refine ⟨fun i hi => ?_, fun i hi => ?_⟩
  · rw [pk_un (by omega)]; exact h.1 i hi
  · by_cases e : i = j
    · rw [e, pk_us]
    · rw [pk_un (by omega)]; exact h.2 i (by omega)
section CF
variable {Q : Int32 → Int32 → (Nat → Int32) → Prop} {w : Int32} {n : Nat} {tc : Nat → Int32}
theorem T_l2 (k : Nat) (hk : n + k ≤ 400) (h : ∀ g, fed n k w tc g → Q (nI k) (nI (n + k)) g) : ∀ (d j : Nat) (g : Nat → Int32), j + d = k → fed n j w tc g → wq_T_append_37 Q (d + 1) w (nI k) (nI j) (nI n) g := by
  intro d
  induction d with
  | zero =>
    intro j g e hg
    unfold wq_T_append_37
    refine pk_le k j (fun _ => ?_) (fun z => absurd z (by omega))
    rw [nI_add]
    rcases (by omega : j = k) with rfl
    exact h g hg
  | succ d ih =>
    intro j g e hg
    unfold wq_T_append_37
    refine pk_le k j (fun z => absurd z (by omega)) (fun _ => ?_)
    unfold wp_T_packedCode
    have e2 : nI n + nI j = nI (n + j) := nI_add n j
    refine ⟨by rw [e2]; exact vp_in_nI (by omega) (by omega), ?_⟩
    rw [e2, nI_clamp (by omega), nI_add1]
    exact ih (j + 1) _ (by omega) (fed_s rfl (cw_char w j) hg)
theorem T_l1 (h : wq_T_append_21 Q w (nI (cnt w)) (nI n) tc) : ∀ (d j : Nat), j + d = 4 → (∀ i, i < j → ¬ cw w i = 0) → wq_T_append_2 Q (d + 1) w (nI j) (nI n) tc := by
  intro d
  induction d with
  | zero =>
    intro j e hj
    unfold wq_T_append_2
    rw [cnt_eq (by omega) hj (Or.inl (by omega))] at h
    exact pk_le 4 j (fun _ => h) (fun z => absurd z (by omega)) (by decide)
  | succ d ih =>
    intro j e hj
    unfold wq_T_append_2
    refine pk_le 4 j (fun z => absurd z (by omega)) (fun _ => ?_) (by decide)
    unfold wp_T_packedCode
    refine ⟨fun z => ?_, fun z => ?_⟩
    · rw [cnt_eq (by omega) hj (Or.inr z)] at h
      exact h
    · rw [nI_add1]
      refine ih (j + 1) (by omega) (fun i hi => ?_)
      by_cases q : i = j
      · rw [q]; exact z
      · exact hj i (by omega)
theorem T_app (hn : n ≤ 400) (h1 : 400 < n + cnt w → Q (-1) (nI n) tc) (h2 : n + cnt w ≤ 400 → ∀ g, fed n (cnt w) w tc g → Q (nI (cnt w)) (nI (n + cnt w)) g) : wp_T_append w (nI n) tc Q := by
  have hc := cnt_le w
  refine ⟨5, ?_⟩
  refine T_l1 ?_ 4 0 rfl (fun i hi => absurd hi (by omega))
  unfold wq_T_append_21
  rw [nI_add]
  refine pk_le (n + cnt w) 400 (fun z => ?_) (fun z => h1 z) rfl (by decide)
  exact ⟨cnt w + 1, T_l2 (cnt w) z (h2 z) (cnt w) 0 tc (by omega) fed_0⟩
end CF
