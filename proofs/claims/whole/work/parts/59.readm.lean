/-! the reference reads a line so -/
section MR0
variable {n e : Nat} {tx : Nat → Nat} {mt : Nat → Int32}
/-- at place q the rest of the line, without blanks, is l; no blank stands at q -/
def At (tx : Nat → Nat) (e q : Nat) (l : List Nat) : Prop := q ≤ e ∧ lnf tx q (e - q) = l ∧ (l = [] → q = e) ∧ ∀ c l', l = c :: l' → q < e ∧ tx q = c ∧ lnf tx (q + 1) (e - (q + 1)) = l'
theorem lnf_s {q : Nat} (h : q < e) : lnf tx q (e - q) = if tx q = 32 then lnf tx (q + 1) (e - (q + 1)) else tx q :: lnf tx (q + 1) (e - (q + 1)) := by
  have : e - q = (e - (q + 1)) + 1 := by omega
  rw [this]
  rfl
theorem M_skip {Q : Int32 → Prop} {p : Nat} (hT : Txt n tx mt) (he : e ≤ n) (hp : p ≤ e) (h : ∀ q, p ≤ q → At tx e q (lnf tx p (e - p)) → Q (nI q)) : wp_M_skip (nI p) (nI e) mt Q := by
  have hn := hT.1
  have L : ∀ (d q : Nat), q + d = e → p ≤ q → lnf tx q (e - q) = lnf tx p (e - p) → wq_M_skip_2 Q mt (d + 1) (nI e) (nI q) := by
    intro d
    induction d with
    | zero =>
      intro q e1 e2 e3
      have e4 : q = e := by omega
      unfold wq_M_skip_2
      refine pk_le e q (fun _ => h q e2 ?_) (fun z => absurd z (by omega)) rfl rfl (by omega) (by omega)
      rw [← e3, e4, Nat.sub_self]
      exact ⟨Nat.le_refl _, by rw [Nat.sub_self], fun _ => rfl, fun c l' z => by cases z⟩
    | succ d ih =>
      intro q e1 e2 e3
      obtain ⟨t1, t2, t3⟩ := hT.2 q (by omega)
      unfold wq_M_skip_2
      refine pk_le e q (fun z => absurd z (by omega)) (fun _ => ⟨vp_in_nI (by omega) (by omega), ?_⟩) rfl rfl (by omega) (by omega)
      rw [nI_clamp (by omega), t1, nI_add1]
      have hs := lnf_s (tx := tx) (e := e) (q := q) (by omega)
      refine ⟨fun z => h q e2 ?_, fun z => ih (q + 1) (by omega) (by omega) ?_⟩
      · have q32 : ¬ tx q = 32 := fun y => z (by rw [y]; decide)
        rw [if_neg q32] at hs
        rw [← e3]
        refine ⟨by omega, rfl, fun y => ?_, fun c l' y => ?_⟩
        · rw [hs] at y; cases y
        · rw [hs] at y
          cases y
          exact ⟨by omega, rfl, rfl⟩
      · have q32 : tx q = 32 := (nI_eq (b := 32) (by omega) (by omega)).mp z
        rw [if_pos q32] at hs
        rw [← hs, e3]
  exact ⟨e - p + 1, L (e - p) p (by omega) (Nat.le_refl _) rfl⟩
theorem M_skip1 {Q : Int32 → Prop} {q c : Nat} {l : List Nat} (hT : Txt n tx mt) (he : e ≤ n) (hA : At tx e q (c :: l)) (h : ∀ q', q < q' → At tx e q' l → Q (nI q')) : wp_M_skip (nI q + 1) (nI e) mt Q := by
  obtain ⟨a1, a2, a3⟩ := hA.2.2.2 c l rfl
  rw [nI_add1]
  refine M_skip hT he (by omega) (fun q' h1 h2 => h q' (by omega) ?_)
  rw [a3] at h2
  exact h2
end MR0
theorem M_digit {Q : Int32 → Prop} {c : Nat} (hc : c < 256) (h : Q (if isD c = true then 1 else 0)) : wp_M_digit (nI c) Q := W_isD hc h
def wh (L : Nat) : Nat := ([5, 6, 0, 1, 2, 3, 4] : List Nat).getD L 0
theorem wh_lt : ∀ L, L < 7 → wh L < 7 := by decide
theorem M_letter {Q : Int32 → Prop} {c : Nat} (hc : c < 256) (h : Q (match ltr c with | none => -1 | some L => nI (wh L))) : wp_M_letter (nI c) Q := by
  have no : ∀ k : Nat, k < 256 → (nI c = nI k ↔ c = k) := fun k hk => nI_eq (by omega) (by omega)
  unfold wp_M_letter wq_M_letter_29 wq_M_letter_12
  have n88 := no 88 (by decide)
  have n89 := no 89 (by decide)
  have n73 := no 73 (by decide)
  have n74 := no 74 (by decide)
  have n70 := no 70 (by decide)
  have n71 := no 71 (by decide)
  have n77 := no 77 (by decide)
  refine ⟨fun z => ?_, fun z1 => ⟨fun z2 => ⟨fun z => ?_, fun z3 => ⟨fun z4 => ⟨fun z5 => ⟨fun z6 => ⟨fun z7 => ?_, fun z => ?_⟩, fun z => ?_⟩, fun z => ?_⟩, fun z => ?_⟩⟩, fun z => ?_⟩⟩
  · have e := n88.mp z; subst e; exact h
  · have e := n73.mp z; subst e; exact h
  · have e : ltr c = none := by
      unfold ltr
      rw [if_neg (fun q => z6 (n71.mpr q)), if_neg (fun q => z7 (n77.mpr q)), if_neg (fun q => z1 (n88.mpr q)), if_neg (fun q => z2 (n89.mpr q)), if_neg (fun q => z3 (n73.mpr q)), if_neg (fun q => z4 (n74.mpr q)), if_neg (fun q => z5 (n70.mpr q))]
    rw [e] at h
    exact h
  · have e := n77.mp z; subst e; exact h
  · have e := n71.mp z; subst e; exact h
  · have e := n70.mp z; subst e; exact h
  · have e := n74.mp z; subst e; exact h
  · have e := n89.mp z; subst e; exact h
/-- the line's words as the reference keeps them -/
def wF (o : Option Int32) (f : Int32) : Prop := (o = none ∧ f = -1) ∨ ∃ x, o = some x ∧ f = x ∧ 1 ≤ x ∧ x ≤ 10000
def MW (s : WS) (th mo wa fe en : Int32) (mn : Nat → Int32) : Prop :=
  mo = s.2.1 ∧ (mo = -1 ∨ 0 ≤ mo ∧ mo ≤ 3) ∧ ((s.2.2 = -1 ∧ wa = -1) ∨ (s.2.2 = 90 ∧ wa = 0) ∨ (s.2.2 = 91 ∧ wa = 1)) ∧ wF (s.1 6) fe ∧ ((s.1 1 = none ∧ en = -1) ∨ ((s.1 1).isSome = true ∧ en = 1)) ∧
  ∃ t : Nat, t < 16 ∧ th = nI t ∧ ∀ j, j < 4 → (t.testBit j = (s.1 (j + 2)).isSome ∧ ∀ x, s.1 (j + 2) = some x → mn j = x)
theorem bt_get : ∀ t, t < 16 → ∀ j, j < 4 → ((nI t >>> (nI j &&& 31)) &&& (1 : Int32)) = if t.testBit j = true then 1 else 0 := by decide +kernel
theorem bt_set : ∀ t, t < 16 → ∀ j, j < 4 → nI t ||| ((1 : Int32) <<< (nI j &&& 31)) = nI (t ||| 2 ^ j) ∧ t ||| 2 ^ j < 16 ∧ ∀ i, i < 4 → (t ||| 2 ^ j).testBit i = (t.testBit i || decide (i = j)) := by decide +kernel
theorem MW_0 {mn : Nat → Int32} : MW ws0 0 (-1) (-1) (-1) (-1) mn :=
  ⟨rfl, Or.inl rfl, Or.inl ⟨rfl, rfl⟩, Or.inl ⟨rfl, rfl⟩, Or.inl ⟨rfl, rfl⟩, 0, by decide, rfl, fun j _ => ⟨by simp [ws0], fun x z => by simp [ws0] at z⟩⟩
section MK0
variable {Q : Int32 → Int32 → Int32 → Int32 → Int32 → Int32 → (Nat → Int32) → Prop} {s : WS} {m_there m_newMode m_newWay m_newFeed m_ends : Int32} {mn : Nat → Int32}
theorem M_keep {L : Nat} {x : Int32} (hM : MW s m_there m_newMode m_newWay m_newFeed m_ends mn) (hL : L < 7) (hx : L = 0 → 0 ≤ x) (h : ∀ th mo wa fe en mn', ((setw L x s).1 = 0 → MW (setw L x s).2 th mo wa fe en mn') → Q (setw L x s).1 th mo wa fe en mn') : wp_M_keep (nI (wh L)) x m_there m_newMode m_newWay m_newFeed m_ends mn Q := by
  obtain ⟨m1, m2, m3, m4, m5, t, ht, m6, m7⟩ := hM
  have hq : ∀ f, (setw L x s) = (f, s) → ¬ f = 0 → Q f m_there m_newMode m_newWay m_newFeed m_ends mn := by
    intro f e1 e2
    have := h m_there m_newMode m_newWay m_newFeed m_ends mn
    rw [e1] at this
    exact this (fun z => absurd z e2)
  unfold wp_M_keep
  rcases (by omega : L = 0 ∨ L = 1 ∨ L = 6 ∨ (2 ≤ L ∧ L ≤ 5)) with e | e | e | e
  · subst e
    have hx := hx rfl
    refine ⟨fun z => absurd rfl z, fun _ => ?_⟩
    unfold wq_M_keep_25 wq_M_keep_50
    have c3 : x ≤ 3 → setw 0 x s = if s.2.1 = -1 then (0, (s.1, x, s.2.2)) else (103, s) := by
      intro q; unfold setw; rw [if_pos rfl, if_pos ⟨hx, q⟩]
    have c9 : ¬ x ≤ 3 → (x = 90 ∨ x = 91) → setw 0 x s = if s.2.2 = -1 then (0, (s.1, s.2.1, x)) else (103, s) := by
      intro q q2; unfold setw; rw [if_pos rfl, if_neg (fun z => q z.2), if_pos q2]
    have sub : (x ≤ 3 ∨ x = 90 ∨ x = 91) → ((x ≤ (3 : Int32) → ((m_newMode < 0 → ((x ≤ (3 : Int32) → (Q (0 : Int32) m_there x m_newWay m_newFeed m_ends mn)) ∧ (¬ x ≤ (3 : Int32) → (Q (0 : Int32) m_there m_newMode (x - (90 : Int32)) m_newFeed m_ends mn)))) ∧ (¬ m_newMode < 0 → (Q (103 : Int32) m_there m_newMode m_newWay m_newFeed m_ends mn)))) ∧ (¬ x ≤ (3 : Int32) → ((m_newWay < 0 → ((x ≤ (3 : Int32) → (Q (0 : Int32) m_there x m_newWay m_newFeed m_ends mn)) ∧ (¬ x ≤ (3 : Int32) → (Q (0 : Int32) m_there m_newMode (x - (90 : Int32)) m_newFeed m_ends mn)))) ∧ (¬ m_newWay < 0 → (Q (103 : Int32) m_there m_newMode m_newWay m_newFeed m_ends mn))))) := by
      intro q
      refine ⟨fun z => ⟨fun y => ⟨fun _ => ?_, fun w => absurd z w⟩, fun y => ?_⟩, fun z => ⟨fun y => ⟨fun w => absurd w z, fun _ => ?_⟩, fun y => ?_⟩⟩
      · have e1 : m_newMode = -1 := m2.resolve_right (fun w => absurd y (Int32.not_lt.mpr w.1))
        have e2 := c3 z
        rw [if_pos (m1 ▸ e1)] at e2
        have := h m_there x m_newWay m_newFeed m_ends mn
        rw [e2] at this
        exact this (fun _ => ⟨rfl, Or.inr ⟨hx, z⟩, m3, m4, m5, t, ht, m6, m7⟩)
      · refine hq 103 ?_ (by decide)
        rw [c3 z, if_neg (fun w => y (by rw [m1, w]; decide))]
      · have q2 := q.resolve_left z
        have e1 : s.2.2 = -1 := by
          rcases m3 with ⟨w, _⟩ | ⟨_, w⟩ | ⟨_, w⟩
          · exact w
          · rw [w] at y; exact absurd y (by decide)
          · rw [w] at y; exact absurd y (by decide)
        have e2 := c9 z q2
        rw [if_pos e1] at e2
        have := h m_there m_newMode (x - 90) m_newFeed m_ends mn
        rw [e2] at this
        refine this (fun _ => ⟨m1, m2, ?_, m4, m5, t, ht, m6, m7⟩)
        rcases q2 with rfl | rfl
        · exact Or.inr (Or.inl ⟨rfl, by decide⟩)
        · exact Or.inr (Or.inr ⟨rfl, by decide⟩)
      · have q2 := q.resolve_left z
        refine hq 103 ?_ (by decide)
        rw [c9 z q2, if_neg (fun w => ?_)]
        rcases m3 with ⟨_, v⟩ | ⟨v, _⟩ | ⟨v, _⟩
        · rw [v] at y; exact y (by decide)
        · rw [w] at v; exact absurd v (by decide)
        · rw [w] at v; exact absurd v (by decide)
    refine ⟨fun z => sub (Or.inl z), fun z => ⟨fun y => sub (Or.inr (Or.inl y)), fun y => ⟨fun w => sub (Or.inr (Or.inr w)), fun w => hq 102 ?_ (by decide)⟩⟩⟩
    unfold setw
    rw [if_pos rfl, if_neg (fun v => z v.2), if_neg (fun v => v.elim y w)]
  · subst e
    refine ⟨fun _ => ⟨fun z => absurd rfl z, fun _ => ⟨fun z => ⟨fun y => ?_, fun y => ?_⟩, fun z => hq 102 ?_ (by decide)⟩⟩, fun z => absurd z (by decide)⟩
    · have e1 : s.1 1 = none := by
        rcases m5 with ⟨w, _⟩ | ⟨_, w⟩
        · exact w
        · rw [w] at y; exact absurd y (by decide)
      have e2 : setw 1 x s = (0, (setO s.1 1 x, s.2)) := by
        unfold setw
        rw [if_neg (by decide), if_neg (fun w => w.2 z), if_neg (by rw [e1]; decide), if_neg (fun w => absurd w.1 (by decide))]
      have := h m_there m_newMode m_newWay m_newFeed 1 mn
      rw [e2] at this
      exact this (fun _ => ⟨m1, m2, m3, m4, Or.inr ⟨rfl, rfl⟩, t, ht, m6, fun j hj => by
        have := m7 j hj
        have e : setO s.1 1 x (j + 2) = s.1 (j + 2) := by simp [setO]
        show _ = (setO s.1 1 x (j + 2)).isSome ∧ ∀ y, setO s.1 1 x (j + 2) = some y → _
        rw [e]
        exact this⟩)
    · refine hq 103 ?_ (by decide)
      have e1 : (s.1 1).isSome = true := by
        rcases m5 with ⟨_, w⟩ | ⟨w, _⟩
        · rw [w] at y; exact absurd (by decide) y
        · exact w
      unfold setw
      rw [if_neg (by decide), if_neg (fun w => w.2 z), if_pos e1]
    · unfold setw
      rw [if_neg (by decide), if_pos ⟨rfl, z⟩]
  · subst e
    refine ⟨fun _ => ⟨fun _ => ⟨fun z => absurd rfl z, fun _ => ⟨fun y => ?_, fun y => hq 103 ?_ (by decide)⟩⟩, fun z => absurd z (by decide)⟩, fun z => absurd z (by decide)⟩
    · have e1 : s.1 6 = none := by
        rcases m4 with ⟨w, _⟩ | ⟨v, _, w, w2, _⟩
        · exact w
        · exfalso
          rw [w] at y
          exact Int32.lt_irrefl (Int32.lt_of_lt_of_le y (show (0 : Int32) ≤ v from Int32.le_trans (by decide) w2))
      have ok : ¬ (x < 1 ∨ 10000 < x) → Q 0 m_there m_newMode m_newWay x m_ends mn := by
        intro q
        have e2 : setw 6 x s = (0, (setO s.1 6 x, s.2)) := by
          unfold setw
          rw [if_neg (by decide), if_neg (fun w => absurd w.1 (by decide)), if_neg (by rw [e1]; decide), if_neg (fun w => q w.2)]
        have := h m_there m_newMode m_newWay x m_ends mn
        rw [e2] at this
        exact this (fun _ => ⟨m1, m2, m3, Or.inr ⟨x, rfl, rfl, Int32.not_lt.mp (fun w => q (Or.inl w)), Int32.not_lt.mp (fun w => q (Or.inr w))⟩, m5, t, ht, m6, fun j hj => by
          have := m7 j hj
          have e : setO s.1 6 x (j + 2) = s.1 (j + 2) := by
            unfold setO
            rw [if_neg (by omega)]
          show _ = (setO s.1 6 x (j + 2)).isSome ∧ ∀ y, setO s.1 6 x (j + 2) = some y → _
          rw [e]
          exact this⟩)
      have bad : (x < 1 ∨ 10000 < x) → Q 105 m_there m_newMode m_newWay m_newFeed m_ends mn := by
        intro q
        refine hq 105 ?_ (by decide)
        unfold setw
        rw [if_neg (by decide), if_neg (fun w => absurd w.1 (by decide)), if_neg (by rw [e1]; decide), if_pos ⟨rfl, q⟩]
      exact ⟨fun w => bad (Or.inl w), fun w => ⟨fun v => ok (fun q => q.elim w (fun u => absurd v (Int32.not_le.mpr u))), fun v => bad (Or.inr (Int32.not_le.mp v))⟩⟩
    · have e1 : (s.1 6).isSome = true := by
        rcases m4 with ⟨_, w⟩ | ⟨v, w, _⟩
        · rw [w] at y; exact absurd (by decide) y
        · rw [w]; rfl
      unfold setw
      rw [if_neg (by decide), if_neg (fun w => absurd w.1 (by decide)), if_pos e1]
  · have ew : wh L = L - 2 := by
      rcases (by omega : L = 2 ∨ L = 3 ∨ L = 4 ∨ L = 5) with rfl | rfl | rfl | rfl <;> rfl
    obtain ⟨b1, b2⟩ := m7 (L - 2) (by omega)
    have e2 : L - 2 + 2 = L := by omega
    rw [e2] at b1 b2
    have n5 : ¬ nI (wh L) = (5 : Int32) := fun z => by have := (nI_eq (b := 5) (by omega) (by omega)).mp z; omega
    have n6 : ¬ nI (wh L) = (6 : Int32) := fun z => by have := (nI_eq (b := 6) (by omega) (by omega)).mp z; omega
    have n4 : ¬ nI (wh L) = (4 : Int32) := fun z => by have := (nI_eq (b := 4) (by omega) (by omega)).mp z; omega
    refine ⟨fun _ => ⟨fun _ => ⟨fun _ => ?_, fun z => absurd z n4⟩, fun z => absurd z n6⟩, fun z => absurd z n5⟩
    rw [ew, m6, bt_get t ht (L - 2) (by omega), (bt_set t ht (L - 2) (by omega)).1, nI_clamp (by omega)]
    obtain ⟨-, s2, s3⟩ := bt_set t ht (L - 2) (by omega)
    refine ⟨fun z => ⟨vp_in_nI (by omega) (by omega), ?_⟩, fun z => ?_⟩
    · have hb : ¬ t.testBit (L - 2) = true := fun w => z (by rw [if_pos w])
      have hs : ¬ (s.1 L).isSome = true := fun w => hb (by rw [b1, w])
      have e3 : setw L x s = (0, (setO s.1 L x, s.2)) := by
        unfold setw
        rw [if_neg (by omega), if_neg (fun w => by omega), if_neg hs, if_neg (fun w => by omega)]
      have := h (nI (t ||| 2 ^ (L - 2))) m_newMode m_newWay m_newFeed m_ends (upd mn (L - 2) x)
      rw [e3] at this
      refine this (fun _ => ⟨m1, m2, m3, ?_, ?_, t ||| 2 ^ (L - 2), s2, rfl, fun j hj => ?_⟩)
      · have e : setO s.1 L x 6 = s.1 6 := by unfold setO; rw [if_neg (by omega)]
        show wF (setO s.1 L x 6) _
        rw [e]; exact m4
      · have e : setO s.1 L x 1 = s.1 1 := by unfold setO; rw [if_neg (by omega)]
        show (setO s.1 L x 1 = none ∧ _) ∨ ((setO s.1 L x 1).isSome = true ∧ _)
        rw [e]; exact m5
      · obtain ⟨c1, c2⟩ := m7 j hj
        rw [s3 j hj]
        show _ = (setO s.1 L x (j + 2)).isSome ∧ ∀ y, setO s.1 L x (j + 2) = some y → _
        unfold setO
        by_cases q : j = L - 2
        · rw [if_pos (by omega)]
          refine ⟨by simp [q], fun y hy => ?_⟩
          cases hy
          rw [q, pk_us]
        · rw [if_neg (by omega), pk_un q]
          exact ⟨by rw [c1]; simp [q], c2⟩
    · have hb : t.testBit (L - 2) = true := by
        rcases Bool.eq_false_or_eq_true (t.testBit (L - 2)) with w | w
        · exact w
        · rw [w] at z; exact absurd z (by decide)
      rw [← m6]
      refine hq 103 ?_ (by decide)
      unfold setw
      rw [if_neg (by omega), if_neg (fun w => by omega), if_pos (by rw [← b1, hb])]
end MK0
