/-! the class: has, number, goal, settings, startMove -/
def bI (b : Bool) : Int32 := if b = true then 1 else 0
theorem bI_0 (b : Bool) : bI b = 0 ↔ b = false := by cases b <;> decide
section SC
variable {s : WS} {wz wn : Nat → Int32}
def CK (s : WS) (wz wn : Nat → Int32) : Prop := ∀ k, 1 ≤ k → k ≤ 6 → wO (s.1 k) (wz k) (wn k)
theorem W_has_k {Q : Int32 → Prop} (h : CK s wz wn) (k : Nat) (h1 : 1 ≤ k) (h2 : k ≤ 6) (hQ : Q (bI (s.1 k).isSome)) : wp_W_has (nI k) wz Q := by
  unfold wp_W_has
  refine ⟨fun z => absurd z (nI_pos (by omega)), fun _ => pk_le 7 k (fun z => absurd z (by omega)) (fun _ => ⟨vp_in_nI (by omega) (by omega), ?_⟩) (by decide) rfl (by omega) (by omega)⟩
  rw [nI_clamp (by omega)]
  rcases h k h1 h2 with ⟨a, b⟩ | ⟨x, a, b, _⟩
  · rw [a] at hQ
    refine ⟨fun _ => hQ, fun z => absurd b z⟩
  · rw [a] at hQ
    refine ⟨fun z => absurd (b ▸ z) (by decide), fun _ => hQ⟩
theorem W_num_k {Q : Int32 → Prop} (h : CK s wz wn) (k : Nat) (h1 : 1 ≤ k) (h2 : k ≤ 6) (hQ : Q ((s.1 k).getD 0)) : wp_W_number (nI k) wz wn Q := by
  unfold wp_W_number
  refine W_has_k h k h1 h2 ?_
  rw [nI_clamp (by omega)]
  rcases h k h1 h2 with ⟨a, b⟩ | ⟨x, a, b, c⟩
  · rw [a] at hQ ⊢
    exact ⟨fun _ => hQ, fun z => absurd rfl z⟩
  · rw [a] at hQ ⊢
    refine ⟨fun z => absurd z (show ¬ bI true = 0 from by decide), fun _ => ⟨vp_in_nI (by omega) (by omega), ?_⟩⟩
    rw [c]
    exact hQ
theorem P_goal_k {Q : Int32 → Prop} {re he : Int32} (h : CK s wz wn) (k : Nat) (h1 : 1 ≤ k) (h2 : k ≤ 6) (hQ : Q (gl (s.1 k) re he)) : wp_P_goal (nI k) he re wz wn Q := by
  unfold wp_P_goal
  refine W_has_k h k h1 h2 ?_
  unfold gl at hQ
  cases e : s.1 k with
  | none =>
    rw [e] at hQ
    exact ⟨fun z => absurd rfl z, fun _ => hQ⟩
  | some v =>
    rw [e] at hQ
    dsimp only at hQ
    refine ⟨fun _ => ⟨fun z => W_num_k h k h1 h2 ?_, fun z => W_num_k h k h1 h2 ?_⟩, fun z => absurd z (show ¬ bI true = 0 from by decide)⟩
    · rw [if_pos z] at hQ
      rw [e]; exact hQ
    · rw [if_neg z] at hQ
      rw [e]; exact hQ
theorem mo_lt {mo : Int32} (h : mo = 0 ∨ mo = 1 ∨ mo = 2 ∨ mo = 3) : (mo = 2 ∨ mo = 3) ↔ ¬ mo.toInt < 2 := by
  rcases h with rfl | rfl | rfl | rfl <;> decide
theorem P_sm {Q : Int32 → Bool → Int32 → Int32 → Int32 → Int32 → Int32 → Int32 → Int32 → Int32 → Int32 → Int32 → Int32 → Int32 → Int32 → Int32 → (Nat → Int32) → Prop} {p_way : Bool} {p_done p_left p_x p_y p_feedRate p_motion p_relative s_startX s_startY s_dx s_dy s_size r_centreX r_centreY r_diagonal r_side r_first r_turn r_size : Int32} {ar : Nat → Int32} (hK : CK s wz wn) (hs : WOK s) (x1 : -200 ≤ p_x.toInt) (x2 : p_x.toInt ≤ 200) (y1 : -200 ≤ p_y.toInt) (y2 : p_y.toInt ≤ 200) (hmo : p_motion = 0 ∨ p_motion = 1 ∨ p_motion = 2 ∨ p_motion = 3)
    (hN : ∀ f, smv p_x p_y p_motion p_feedRate p_relative s = (f, none) → Q f p_way p_done p_left s_startX s_startY s_dx s_dy s_size r_centreX r_centreY r_diagonal r_side r_first r_turn r_size ar)
    (hS : ∀ f N pth, smv p_x p_y p_motion p_feedRate p_relative s = (f, some (N, pth)) → ∀ w sX sY dx dy ss cX cY di si fi tu sz ar, (1 ≤ N → CMv N pth w sX sY dx dy ss cX cY di si fi tu ar) → Q f w 0 (nI N) sX sY dx dy ss cX cY di si fi tu sz ar) : wp_P_startMove p_way p_done p_left p_x p_y p_feedRate p_motion p_relative wz wn s_startX s_startY s_dx s_dy s_size r_centreX r_centreY r_diagonal r_side r_first r_turn r_size ar Q := by
  have gX := gl_in (re := p_relative) x1 x2 (fun v e => hs.1 2 v (by omega) (by omega) e)
  have gY := gl_in (re := p_relative) y1 y2 (fun v e => hs.1 3 v (by omega) (by omega) e)
  have bi := nm_in (o := s.1 4) (fun v e => hs.1 4 v (by omega) (by omega) e)
  have bj := nm_in (o := s.1 5) (fun v e => hs.1 5 v (by omega) (by omega) e)
  have ml := mo_lt hmo
  have e2 : (2 : Int32) = nI 2 := rfl
  have e3 : (3 : Int32) = nI 3 := rfl
  have e4 : (4 : Int32) = nI 4 := rfl
  have e5 : (5 : Int32) = nI 5 := rfl
  -- the move itself
  have K127 : ∀ rd : Bool, (rd = true ↔ (p_motion = 2 ∨ p_motion = 3)) → smv p_x p_y p_motion p_feedRate p_relative s = mvo p_x.toInt p_y.toInt p_motion.toInt (gl (s.1 2) p_relative p_x).toInt (gl (s.1 3) p_relative p_y).toInt ((s.1 4).getD 0).toInt ((s.1 5).getD 0).toInt → wq_P_startMove_127 Q p_x p_y p_motion p_relative wz wn (bI rd) p_way p_done p_left s_startX s_startY s_dx s_dy s_size r_centreX r_centreY r_diagonal r_side r_first r_turn r_size ar := by
    intro rd hrd he
    rw [he] at hN hS
    unfold wq_P_startMove_127
    rw [e2, e3]
    refine P_goal_k hK 2 (by omega) (by omega) (P_goal_k hK 3 (by omega) (by omega) ?_)
    refine ⟨fun z => ?_, fun z => ?_⟩
    · have hr : ¬ (p_motion = 2 ∨ p_motion = 3) := fun q => by
        rw [hrd.mpr q] at z; exact absurd z (by decide)
      have lt : p_motion.toInt < 2 := by
        rcases Int.lt_or_le p_motion.toInt 2 with q | q
        · exact q
        · exact absurd (ml.mpr (by omega)) hr
      unfold mvo at hN hS
      rw [if_pos lt] at hN hS
      have := P_str (Q := fun r169 p_way_169 p_done_169 p_left_169 s_startX_169 s_startY_169 s_dx_169 s_dy_169 s_size_169 => (Q r169 p_way_169 p_done_169 p_left_169 s_startX_169 s_startY_169 s_dx_169 s_dy_169 s_size_169 r_centreX r_centreY r_diagonal r_side r_first r_turn r_size ar)) (p_way := p_way) (p_done := p_done) (p_left := p_left) (s_startX := s_startX) (s_startY := s_startY) (s_dx := s_dx) (s_dy := s_dy) (s_size := s_size) (r_size := r_size) x1 x2 y1 y2 gX.1 gX.2 gY.1 gY.2 (fun q => ?_) (fun q => ?_)
      · rw [iI_of, iI_of, iI_of, iI_of] at this
        exact this
      · rw [if_neg q] at hN
        exact hN 107 rfl
      · rw [if_pos q] at hS
        refine hS 0 _ _ rfl _ _ _ _ _ _ _ _ _ _ _ _ _ _ (fun n1 => S_mv (by omega) (by omega) (by omega) (by omega) n1)
    · have hr : p_motion = 2 ∨ p_motion = 3 := by
        refine hrd.mp ?_
        cases rd with
        | true => rfl
        | false => exact absurd rfl z
      have lt : ¬ p_motion.toInt < 2 := ml.mp hr
      unfold mvo at hN hS
      rw [if_neg lt] at hN hS
      have ht : (p_motion = 3 ∧ (if p_motion.toInt = 3 then (1 : Int) else -1) = 1) ∨ (¬ p_motion = 3 ∧ (if p_motion.toInt = 3 then (1 : Int) else -1) = -1) := by
        rcases hr with q | q
        · rw [q]; right; decide
        · rw [q]; left; decide
      have ht' : (if p_motion.toInt = 3 then (1 : Int) else -1) = 1 ∨ (if p_motion.toInt = 3 then (1 : Int) else -1) = -1 := by
        rcases ht with q | q
        · exact Or.inl q.2
        · exact Or.inr q.2
      have := P_arc (Q := fun r158 p_way_158 p_done_158 p_left_158 r_centreX_158 r_centreY_158 r_diagonal_158 r_side_158 r_first_158 r_turn_158 r_size_158 ar_158 => (Q r158 p_way_158 p_done_158 p_left_158 s_startX s_startY s_dx s_dy s_size r_centreX_158 r_centreY_158 r_diagonal_158 r_side_158 r_first_158 r_turn_158 r_size_158 ar_158)) (p_way := p_way) (p_done := p_done) (p_left := p_left) (p_motion := p_motion) (s_size := s_size) (r_centreX := r_centreX) (r_centreY := r_centreY) (r_diagonal := r_diagonal) (r_side := r_side) (r_first := r_first) (r_turn := r_turn) (r_size := r_size) (ar := ar) (wz := wz) (wn := wn) x1 x2 y1 y2 bi.1 bi.2 bj.1 bj.2 gX.1 gX.2 gY.1 gY.2 (fun Q hQ => by rw [e4]; rw [iI_of] at hQ; exact W_num_k hK 4 (by omega) (by omega) hQ) (fun Q hQ => by rw [e5]; rw [iI_of] at hQ; exact W_num_k hK 5 (by omega) (by omega) hQ) ht (fun q => ?_) (fun q1 q2 q3 => ?_) (fun q1 q2 q3 N pth cX cY di si fi tu sz ar hA hC => ?_)
      · rw [iI_of, iI_of, iI_of, iI_of] at this
        exact this
      · rw [if_pos q] at hN
        exact hN 106 rfl
      · rw [if_neg (fun q => q.elim q1 (fun q => q q2)), cif_neg q3] at hN
        exact hN 107 rfl
      · rw [if_neg (fun q => q.elim q1 (fun q => q q2)), cif_pos q3] at hS
        exact hS 0 N pth (by rw [arcO_eq ht' hA]) _ _ _ _ _ _ _ _ _ _ _ _ _ _ (fun _ => hC _ _ _ _ _)
  have K77 : ∀ rd : Bool, (rd = true ↔ (p_motion = 2 ∨ p_motion = 3)) → wq_P_startMove_77 Q p_x p_y p_feedRate p_motion p_relative wz wn (bI (hasG s)) (bI (hasC s)) (bI rd) p_way p_done p_left s_startX s_startY s_dx s_dy s_size r_centreX r_centreY r_diagonal r_side r_first r_turn r_size ar := by
    intro rd hrd
    have K100 : ¬ (((p_motion = 2 ∨ p_motion = 3) ∧ hasG s = true ∧ hasC s = false) ∨ (¬ (p_motion = 2 ∨ p_motion = 3) ∧ hasC s = true)) → wq_P_startMove_100 Q p_x p_y p_feedRate p_motion p_relative wz wn (bI (hasG s)) (bI (hasC s)) (bI rd) p_way p_done p_left s_startX s_startY s_dx s_dy s_size r_centreX r_centreY r_diagonal r_side r_first r_turn r_size ar := by
      intro n104
      have K110 : ¬ (hasG s = false ∧ hasC s = false) → wq_P_startMove_110 Q p_x p_y p_feedRate p_motion p_relative wz wn (bI rd) p_way p_done p_left s_startX s_startY s_dx s_dy s_size r_centreX r_centreY r_diagonal r_side r_first r_turn r_size ar := by
        intro n0
        unfold wq_P_startMove_110
        have eq : ¬ (¬ p_motion = 0 ∧ p_feedRate = 0) → smv p_x p_y p_motion p_feedRate p_relative s = mvo p_x.toInt p_y.toInt p_motion.toInt (gl (s.1 2) p_relative p_x).toInt (gl (s.1 3) p_relative p_y).toInt ((s.1 4).getD 0).toInt ((s.1 5).getD 0).toInt := by
          intro n5
          unfold smv
          rw [if_neg n104, if_neg n0, if_neg n5]
        refine ⟨fun z => K127 rd hrd (eq (fun q => q.1 z)), fun z => ⟨fun y => K127 rd hrd (eq (fun q => y q.2)), fun y => hN 105 ?_⟩⟩
        unfold smv
        rw [if_neg n104, if_neg n0, if_pos ⟨z, y⟩]
      unfold wq_P_startMove_100
      refine ⟨fun z => K110 (fun q => z ((bI_0 _).mpr q.1)), fun z => ⟨fun y => K110 (fun q => y ((bI_0 _).mpr q.2)), fun y => hN 0 ?_⟩⟩
      unfold smv
      rw [if_neg n104, if_pos ⟨(bI_0 _).mp z, (bI_0 _).mp y⟩]
    have F104 : (((p_motion = 2 ∨ p_motion = 3) ∧ hasG s = true ∧ hasC s = false) ∨ (¬ (p_motion = 2 ∨ p_motion = 3) ∧ hasC s = true)) → Q 104 p_way p_done p_left s_startX s_startY s_dx s_dy s_size r_centreX r_centreY r_diagonal r_side r_first r_turn r_size ar := by
      intro z
      refine hN 104 ?_
      unfold smv
      rw [if_pos z]
    have nb : ∀ b : Bool, ¬ bI b = 0 → b = true := fun b z => by cases b with
      | true => rfl
      | false => exact absurd rfl z
    unfold wq_P_startMove_77
    refine ⟨fun z => ⟨fun y => K100 ?_, fun y => F104 ?_⟩, fun z => ⟨fun y => K100 ?_, fun y => ⟨fun w => K100 ?_, fun w => F104 ?_⟩⟩⟩
    · have hr : ¬ (p_motion = 2 ∨ p_motion = 3) := fun q => by rw [hrd.mpr q] at z; exact absurd z (by decide)
      have hy := (bI_0 _).mp y
      rintro (q | q)
      · exact hr q.1
      · rw [hy] at q; exact absurd q.2 (by decide)
    · have hr : ¬ (p_motion = 2 ∨ p_motion = 3) := fun q => by rw [hrd.mpr q] at z; exact absurd z (by decide)
      exact Or.inr ⟨hr, nb _ y⟩
    · have hr := hrd.mp (nb _ z)
      have hy := (bI_0 _).mp y
      rintro (q | q)
      · rw [hy] at q; exact absurd q.2.1 (by decide)
      · exact q.1 hr
    · have hr := hrd.mp (nb _ z)
      have hw := nb _ w
      rintro (q | q)
      · rw [hw] at q; exact absurd q.2.2 (by decide)
      · exact q.1 hr
    · exact Or.inl ⟨hrd.mp (nb _ z), nb _ y, (bI_0 _).mp w⟩
  have K55 : wq_P_startMove_55 Q p_x p_y p_feedRate p_motion p_relative wz wn (bI (hasG s)) (bI (hasC s)) p_way p_done p_left s_startX s_startY s_dx s_dy s_size r_centreX r_centreY r_diagonal r_side r_first r_turn r_size ar := by
    unfold wq_P_startMove_55 wq_P_startMove_72
    refine ⟨fun z => K77 true ⟨fun _ => Or.inl z, fun _ => rfl⟩, fun z => ⟨fun y => K77 false ⟨fun q => absurd q (by decide), fun q => absurd q (by rintro (q | q); exact z q; exact y q)⟩, fun y => K77 true ⟨fun _ => Or.inr y, fun _ => rfl⟩⟩⟩
  have K27 : wq_P_startMove_27 Q p_x p_y p_feedRate p_motion p_relative wz wn (bI (hasG s)) p_way p_done p_left s_startX s_startY s_dx s_dy s_size r_centreX r_centreY r_diagonal r_side r_first r_turn r_size ar := by
    unfold wq_P_startMove_27
    rw [e4, e5]
    have hc : hasC s = ((s.1 4).isSome || (s.1 5).isSome) := rfl
    refine W_has_k hK 4 (by omega) (by omega) ⟨fun z => ?_, fun z => W_has_k hK 5 (by omega) (by omega) ⟨fun y => ?_, fun y => ?_⟩⟩
    · unfold wq_P_startMove_50
      cases q : (s.1 4).isSome with
      | true => rw [hc, q] at K55; exact K55
      | false => rw [q] at z; exact absurd rfl z
    · rw [hc, (bI_0 _).mp z, (bI_0 _).mp y] at K55
      exact K55
    · unfold wq_P_startMove_50
      cases q : (s.1 5).isSome with
      | true => rw [hc, q, Bool.or_true] at K55; exact K55
      | false => rw [q] at y; exact absurd rfl y
  unfold wp_P_startMove
  rw [e2, e3]
  have hg : hasG s = ((s.1 2).isSome || (s.1 3).isSome) := rfl
  refine W_has_k hK 2 (by omega) (by omega) ⟨fun z => ?_, fun z => W_has_k hK 3 (by omega) (by omega) ⟨fun y => ?_, fun y => ?_⟩⟩
  · unfold wq_P_startMove_22
    cases q : (s.1 2).isSome with
    | true => rw [hg, q] at K27; exact K27
    | false => rw [q] at z; exact absurd rfl z
  · rw [hg, (bI_0 _).mp z, (bI_0 _).mp y] at K27
    exact K27
  · unfold wq_P_startMove_22
    cases q : (s.1 3).isSome with
    | true => rw [hg, q, Bool.or_true] at K27; exact K27
    | false => rw [q] at y; exact absurd rfl y
end SC
