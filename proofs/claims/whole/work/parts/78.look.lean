/-! the abstract state, a look at a line, the class's look -/
def leF (tx : Nat → Nat) : Nat → Nat → Nat
  | 0, i => i
  | d + 1, i => if tx i = 10 then i else leF tx d (i + 1)
def le (tx : Nat → Nat) (n q : Nat) : Nat := leF tx (n - q) q
theorem leF_in (tx : Nat → Nat) : ∀ d i, i ≤ leF tx d i ∧ leF tx d i ≤ i + d := by
  intro d
  induction d with
  | zero => intro i; exact ⟨Nat.le_refl _, Nat.le_refl _⟩
  | succ d ih =>
    intro i
    unfold leF
    by_cases h : tx i = 10
    · rw [if_pos h]; omega
    · rw [if_neg h]
      have := ih (i + 1)
      omega
theorem le_in {tx : Nat → Nat} {n q : Nat} (h : q ≤ n) : q ≤ le tx n q ∧ le tx n q ≤ n := by
  have := leF_in tx (n - q) q
  unfold le
  omega
theorem T_le {Q : Int32 → Prop} {n q : Nat} {tx : Nat → Nat} {tc : Nat → Int32} (hT : Txt n tx tc) (hq : q ≤ n) (h : Q (nI (le tx n q))) : wp_T_lineEnd (nI q) (nI n) tc Q := by
  have hn := hT.1
  have L : ∀ (d i : Nat), i + d = n → Q (nI (leF tx d i)) → wq_T_lineEnd_2 Q (nI n) tc (d + 1) (nI i) := by
    intro d
    induction d with
    | zero =>
      intro i e h
      unfold wq_T_lineEnd_2
      exact pk_le n i (fun _ => h) (fun z => absurd z (by omega)) rfl rfl (by omega) (by omega)
    | succ d ih =>
      intro i e h
      obtain ⟨t1, t2, t3⟩ := hT.2 i (by omega)
      unfold wq_T_lineEnd_2
      rw [nI_add1 i]
      refine pk_le n i (fun z => absurd z (by omega)) (fun _ => T_code hT (by omega) ?_) rfl rfl (by omega) (by omega)
      unfold leF at h
      refine pk_eq (tx i) 10 (fun z => ?_) (fun z => ?_) rfl (by decide) (by omega) (by omega)
      · rw [if_pos z] at h; exact h
      · rw [if_neg z] at h; exact ih (i + 1) (by omega) h
  exact ⟨n - q + 1, L (n - q) q (by omega) h⟩
def feA (s : WS) (fe : Int32) : Int32 := (s.1 6).getD fe
def moA (s : WS) (mo : Int32) : Int32 := if s.2.1 = -1 then mo else s.2.1
def reA (s : WS) (re : Int32) : Int32 := if s.2.2 = -1 then re else if s.2.2 = 91 then 1 else 0
def enA (s : WS) : Int32 := bI (s.1 1).isSome
theorem P_set {Q : Int32 → Int32 → Int32 → Int32 → Prop} {p_feedRate p_motion p_relative w_motion w_distances : Int32} {wz wn : Nat → Int32} {p_ending : Int32} {s : WS} (hW : CW s w_motion w_distances wz wn) (h : Q (enA s) (feA s p_feedRate) (moA s p_motion) (reA s p_relative)) : wp_P_applySettings p_ending p_feedRate p_motion p_relative w_motion w_distances wz wn Q := by
  obtain ⟨h1, h2, h3⟩ := hW
  subst h1
  subst h2
  have hK : CK s wz wn := h3
  have K79 : ∀ p_feedRate p_motion p_relative : Int32, Q (enA s) p_feedRate p_motion p_relative → wq_P_applySettings_79 Q wz p_ending p_feedRate p_motion p_relative := by
    intro p_feedRate p_motion p_relative h
    unfold wq_P_applySettings_79
    refine W_has_k hK 1 (by omega) (by omega) ⟨?_, h⟩
    cases (s.1 1).isSome with
    | true => exact Or.inr rfl
    | false => exact Or.inl rfl
  have K57 : ∀ p_feedRate p_motion p_relative : Int32, Q (enA s) p_feedRate (moA s p_motion) p_relative → wq_P_applySettings_57 Q s.2.1 wz p_ending p_feedRate p_motion p_relative := by
    intro p_feedRate p_motion p_relative h
    unfold wq_P_applySettings_57 wp_W_motion
    unfold moA at h
    refine ⟨fun z => K79 _ _ _ ?_, fun z => K79 _ _ _ ?_⟩
    · rw [if_pos z] at h; exact h
    · rw [if_neg z] at h; exact h
  have K25 : ∀ p_feedRate p_motion p_relative : Int32, Q (enA s) p_feedRate (moA s p_motion) (reA s p_relative) → wq_P_applySettings_25 Q s.2.1 s.2.2 wz p_ending p_feedRate p_motion p_relative := by
    intro p_feedRate p_motion p_relative h
    unfold wq_P_applySettings_25 wp_W_distances wq_P_applySettings_54
    unfold reA at h
    refine ⟨fun z => K57 _ _ _ ?_, fun z => ⟨fun y => ⟨Or.inl rfl, K57 _ _ _ ?_⟩, fun y => ⟨Or.inr rfl, K57 _ _ _ ?_⟩⟩⟩
    · rw [if_pos z] at h; exact h
    · rw [if_neg z, if_neg y] at h; exact h
    · rw [if_neg z, if_pos y] at h; exact h
  unfold wp_P_applySettings
  refine W_has_k hK 6 (by omega) (by omega) ⟨fun z => K25 _ _ _ ?_, fun z => W_num_k hK 6 (by omega) (by omega) (K25 _ _ _ ?_)⟩
  · have := (bI_0 _).mp z
    cases e : s.1 6 with
    | none =>
      unfold feA at h
      rw [e] at h
      exact h
    | some v => rw [e] at this; exact absurd this (by simp)
  · cases e : s.1 6 with
    | none => rw [e] at z; exact absurd rfl z
    | some v =>
      unfold feA at h
      rw [e] at h
      exact h
abbrev AS : Type := Int32 × Int32 × Int64 × Int32 × Int32 × Int32 × Int32 × Int32 × Int32 × Int32 × Nat × Int32 × Nat × Nat × PT
noncomputable def lkO (x y : Int32) (tm : Int64) (pu la fe mo re : Int32) (en : Int32) (q : Nat) (li : Int32) (N k : Nat) (p : PT) (o : MO) : AS := match o with
  | (f, none) => (x, y, tm, pu, la, fe, mo, re, if f = 0 then en else 0, f, q, li, N, k, p)
  | (f, some (N', p')) => (x, y, tm, pu, la, fe, mo, re, if f = 0 then en else 0, f, q, li, N', 0, p')
noncomputable def lk (n : Nat) (tx : Nat → Nat) : AS → AS := fun (x, y, tm, pu, la, fe, mo, re, en, st, q, li, N, k, p) =>
  if ¬ en = 0 ∨ n ≤ q then (x, y, tm, pu, la, fe, mo, re, en, 100, q, li, N, k, p)
  else if ¬ (ln tx q (le tx n q)).1 = 0 then (x, y, tm, pu, la, fe, mo, re, en, (ln tx q (le tx n q)).1, le tx n q + 1, li + 1, N, k, p)
  else lkO x y tm pu la (feA (ln tx q (le tx n q)).2 fe) (moA (ln tx q (le tx n q)).2 mo) (reA (ln tx q (le tx n q)).2 re) (enA (ln tx q (le tx n q)).2) (le tx n q + 1) (li + 1) N k p (smv x y (moA (ln tx q (le tx n q)).2 mo) (feA (ln tx q (le tx n q)).2 fe) (reA (ln tx q (le tx n q)).2 re) (ln tx q (le tx n q)).2)
def Inv (n : Nat) : AS → Prop := fun (x, y, tm, pu, la, fe, mo, re, en, st, q, li, N, k, p) =>
  (-200 ≤ x.toInt ∧ x.toInt ≤ 200) ∧ (-200 ≤ y.toInt ∧ y.toInt ≤ 200) ∧ (mo = 0 ∨ mo = 1 ∨ mo = 2 ∨ mo = 3) ∧ (0 ≤ fe.toInt ∧ fe.toInt ≤ 10000) ∧ k ≤ N ∧ N ≤ 2400 ∧ q ≤ n + 1 ∧ (¬ st = 0 → k = N) ∧ (k < N → (x, y) = p k ∧ (mo = 0 ∨ 1 ≤ fe.toInt) ∧ ∀ j, j ≤ N → ∃ X Y : Int, p j = (iI X, iI Y) ∧ -200 ≤ X ∧ X ≤ 200 ∧ -200 ≤ Y ∧ Y ≤ 200)
def RC : AS → Bool → Int32 → Int32 → Int32 → Int32 → Int32 → Int32 → Int32 → Int32 → Int64 → Int32 → Int32 → Int32 → Int32 → Int32 → Int32 → Int32 → Int32 → Int32 → Int32 → Int32 → Int32 → Int32 → Int32 → Int32 → Int32 → (Nat → Int32) → Prop := fun (x, y, tm, pu, la, fe, mo, re, en, st, q, li, N, k, p) p_way p_done p_left p_nextLineStart p_line p_state p_ending p_x p_y p_time p_pulses p_last p_feedRate p_motion p_relative s_startX s_startY s_dx s_dy s_size r_centreX r_centreY r_diagonal r_side r_first r_turn ar =>
  p_x = x ∧ p_y = y ∧ p_time = tm ∧ p_pulses = pu ∧ p_last = la ∧ p_feedRate = fe ∧ p_motion = mo ∧ p_relative = re ∧ (st = 0 → p_ending = en) ∧ p_state = st ∧ p_nextLineStart = nI q ∧ p_line = li ∧ p_left = nI (N - k) ∧ (k < N → p_done = nI k ∧ CMv N p p_way s_startX s_startY s_dx s_dy s_size r_centreX r_centreY r_diagonal r_side r_first r_turn ar)
theorem moA_in {s : WS} {mo : Int32} (hs : WOK s) (h : mo = 0 ∨ mo = 1 ∨ mo = 2 ∨ mo = 3) : moA s mo = 0 ∨ moA s mo = 1 ∨ moA s mo = 2 ∨ moA s mo = 3 := by
  unfold moA
  by_cases q : s.2.1 = -1
  · rw [if_pos q]; exact h
  · rw [if_neg q]
    have := hs.2.1.resolve_left q
    rw [ti_le, ti_le, show (0 : Int32).toInt = 0 from rfl, show (3 : Int32).toInt = 3 from rfl] at this
    rcases (by omega : s.2.1.toInt = 0 ∨ s.2.1.toInt = 1 ∨ s.2.1.toInt = 2 ∨ s.2.1.toInt = 3) with z | z | z | z
    · exact Or.inl (ti_eq z)
    · exact Or.inr (Or.inl (ti_eq z))
    · exact Or.inr (Or.inr (Or.inl (ti_eq z)))
    · exact Or.inr (Or.inr (Or.inr (ti_eq z)))
theorem P_look {Q : Bool → Int32 → Int32 → Int32 → Int32 → Int32 → Int32 → Int32 → Int32 → Int32 → Int32 → Int32 → Int32 → Int32 → (Nat → Int32) → (Nat → Int32) → (Nat → Int32) → Int32 → Int32 → Int32 → Int32 → Int32 → Int32 → Int32 → Int32 → Int32 → Int32 → Int32 → Int32 → (Nat → Int32) → Prop} {p_way : Bool} {p_done p_left p_nextLineStart p_line p_state p_ending p_x p_y p_feedRate p_motion p_relative w_rowSize w_at w_motion w_distances : Int32} {wr wz wn : Nat → Int32} {s_startX s_startY s_dx s_dy s_size r_centreX r_centreY r_diagonal r_side r_first r_turn r_size : Int32} {ar : Nat → Int32} {n : Nat} {tx : Nat → Nat} {tc : Nat → Int32} {S : AS} {p_time : Int64} {p_pulses p_last : Int32} (hT : Txt n tx tc) (hI : Inv n S) (hst : S.2.2.2.2.2.2.2.2.2.1 = 0) (hkN : S.2.2.2.2.2.2.2.2.2.2.2.2.2.1 = S.2.2.2.2.2.2.2.2.2.2.2.2.1)
    (hR : RC S p_way p_done p_left p_nextLineStart p_line p_state p_ending p_x p_y p_time p_pulses p_last p_feedRate p_motion p_relative s_startX s_startY s_dx s_dy s_size r_centreX r_centreY r_diagonal r_side r_first r_turn ar)
    (hQ : ∀ (p_way : Bool) (p_done p_left p_nextLineStart p_line p_state p_ending p_feedRate p_motion p_relative w_rowSize w_at w_motion w_distances : Int32) (wr wz wn : Nat → Int32) (s_startX s_startY s_dx s_dy s_size r_centreX r_centreY r_diagonal r_side r_first r_turn r_size : Int32) (ar : Nat → Int32), RC (lk n tx S) p_way p_done p_left p_nextLineStart p_line p_state p_ending p_x p_y p_time p_pulses p_last p_feedRate p_motion p_relative s_startX s_startY s_dx s_dy s_size r_centreX r_centreY r_diagonal r_side r_first r_turn ar → Q p_way p_done p_left p_nextLineStart p_line p_state p_ending p_feedRate p_motion p_relative w_rowSize w_at w_motion w_distances wr wz wn s_startX s_startY s_dx s_dy s_size r_centreX r_centreY r_diagonal r_side r_first r_turn r_size ar) : wp_P_lookAtNextLine p_way p_done p_left p_nextLineStart p_line p_state p_ending p_x p_y p_feedRate p_motion p_relative (nI n) tc w_rowSize w_at w_motion w_distances wr wz wn s_startX s_startY s_dx s_dy s_size r_centreX r_centreY r_diagonal r_side r_first r_turn r_size ar Q := by
  obtain ⟨x, y, tm, pu, la, fe, mo, re, en, st, q, li, N, k, p⟩ := S
  obtain ⟨i1, i2, i3, i4, i5, i6, i7, i8, i9⟩ := hI
  obtain ⟨r1, r2, r3, r4, r5, r6, r7, r8, r9, r10, r11, r12, r13, r14⟩ := hR
  dsimp only at hst hkN
  subst hst
  subst hkN
  have hn := hT.1
  have r9' := r9 rfl
  subst r1 r2 r3 r4 r5 r6 r7 r8 r10 r11 r12 r13
  subst r9'
  unfold lk at hQ
  unfold wp_P_lookAtNextLine wq_P_lookAtNextLine_21 wp_T_size
  have hend : (¬ p_ending = 0 ∨ n ≤ q) → Q p_way p_done (nI (k - k)) (nI q) p_line 100 p_ending p_feedRate p_motion p_relative w_rowSize w_at w_motion w_distances wr wz wn s_startX s_startY s_dx s_dy s_size r_centreX r_centreY r_diagonal r_side r_first r_turn r_size ar := by
    intro z
    refine hQ _ _ _ _ _ _ _ _ _ _ _ _ _ _ _ _ _ _ _ _ _ _ _ _ _ _ _ _ _ _ ?_
    dsimp only
    rw [if_pos z]
    exact ⟨rfl, rfl, rfl, rfl, rfl, rfl, rfl, rfl, fun _ => rfl, rfl, rfl, rfl, rfl, r14⟩
  refine ⟨fun z => hend (Or.inl z), fun z => pk_lt q n (fun w => ?_) (fun w => hend (Or.inr w)) rfl rfl (by omega) (by omega)⟩
  have hc : ¬ (¬ p_ending = 0 ∨ n ≤ q) := fun v => v.elim (fun v => v z) (fun v => by omega)
  dsimp only at hQ
  rw [if_neg hc] at hQ
  have hle := le_in (tx := tx) (n := n) (q := q) (by omega)
  refine T_le hT (by omega) (W_read hT hle.1 hle.2 (fun a b mo' di' r' z' n' hCW => ?_))
  have hok := ln_ok tx q (le tx n q)
  generalize ln tx q (le tx n q) = lnr at *
  rw [nI_add1 (le tx n q)]
  refine ⟨fun v => ?_, fun v => ?_⟩
  · rw [if_pos v] at hQ
    exact hQ _ _ _ _ _ _ _ _ _ _ _ _ _ _ _ _ _ _ _ _ _ _ _ _ _ _ _ _ _ _ ⟨rfl, rfl, rfl, rfl, rfl, rfl, rfl, rfl, fun _ => rfl, rfl, rfl, rfl, rfl, r14⟩
  · rw [if_neg (fun u => u v)] at hQ
    have hw := hCW v
    refine P_set hw (P_sm hw.2.2 hok.1 i1.1 i1.2 i2.1 i2.2 (moA_in hok.1 i3) (fun f he => ?_) (fun f N pth he w sX sY dx dy ss cX cY di si fi tu sz ar hC => ?_))
    · rw [he] at hQ
      refine hQ _ _ _ _ _ _ _ _ _ _ _ _ _ _ _ _ _ _ _ _ _ _ _ _ _ _ _ _ _ _ ⟨rfl, rfl, rfl, rfl, rfl, rfl, rfl, rfl, fun u => ?_, rfl, rfl, rfl, rfl, r14⟩
      rw [if_pos u]
    · rw [he] at hQ
      refine hQ _ _ _ _ _ _ _ _ _ _ _ _ _ _ _ _ _ _ _ _ _ _ _ _ _ _ _ _ _ _ ⟨rfl, rfl, rfl, rfl, rfl, rfl, rfl, rfl, fun u => ?_, rfl, rfl, rfl, rfl, fun u => ⟨rfl, hC (by omega)⟩⟩
      rw [if_pos u]
