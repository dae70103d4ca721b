/-! the class's run -/
theorem P_pau {Q : Int32 → Prop} {fe mo : Int32} (h0 : 0 ≤ fe.toInt) (h : mo = 0 ∨ 1 ≤ fe.toInt) (hQ : ∀ r : Int32, r.toInt64 = pau mo fe → Q r) : wp_P_pause fe mo Q := by
  have one : (1 : Int32).toInt = 1 := rfl
  unfold wp_P_pause
  refine ⟨fun z => hQ _ ?_, fun z => ⟨fun y => ⟨fun w => ?_, hQ _ ?_⟩, fun y => absurd ?_ y⟩⟩
  · unfold pau
    rw [if_pos z]
    decide
  · rw [w] at y
    exact absurd y (by decide)
  · unfold pau
    rw [if_neg z]
  · rw [ti_le, one]
    exact h.resolve_left z
theorem lst_c (a b : Int32 × Int32) : ((((3 : Int32) * ((b.1 - a.1) + (1 : Int32))) + (b.2 - a.2)) + (1 : Int32)) = lst a b := by
  unfold lst
  grind
theorem J_min {Q : Int32 → Prop} {a b : Int32} (h : ∀ r : Int32, r.toInt = min a.toInt b.toInt → Q r) : wp_Jm_min a b Q := by
  unfold wp_Jm_min
  refine ⟨fun z => h _ ?_, fun z => h _ ?_⟩
  · rw [ti_lt] at z; omega
  · rw [ti_lt] at z; omega
theorem P_mk {Q : Int32 → Int32 → Int32 → Int32 → Int32 → Int64 → Int32 → Int32 → Prop} {x1 : Int32} {p_way : Bool} {p_done p_left p_x p_y : Int32} {p_time : Int64} {p_pulses p_last p_feedRate p_motion s_startX s_startY s_dx s_dy s_size r_centreX r_centreY r_diagonal r_side r_first r_turn : Int32} {ar : Nat → Int32} {p_nextLineStart p_line p_state p_ending p_relative : Int32} {n : Nat} {S : AS} {c : Nat} (hI : Inv n S) (hc : c = min x1.toInt.toNat (aN S - aK S))
    (hR : RC S p_way p_done p_left p_nextLineStart p_line p_state p_ending p_x p_y p_time p_pulses p_last p_feedRate p_motion p_relative s_startX s_startY s_dx s_dy s_size r_centreX r_centreY r_diagonal r_side r_first r_turn ar)
    (hQ : ∀ (p_done p_left p_x p_y : Int32) (p_time : Int64) (p_pulses p_last : Int32), RC (itp c S) p_way p_done p_left p_nextLineStart p_line p_state p_ending p_x p_y p_time p_pulses p_last p_feedRate p_motion p_relative s_startX s_startY s_dx s_dy s_size r_centreX r_centreY r_diagonal r_side r_first r_turn ar → Q (nI c) p_done p_left p_x p_y p_time p_pulses p_last) : wp_P_makePulses x1 p_way p_done p_left p_x p_y p_time p_pulses p_last p_feedRate p_motion s_startX s_startY s_dx s_dy s_size r_centreX r_centreY r_diagonal r_side r_first r_turn ar Q := by
  obtain ⟨x, y, tm, pu, la, fe, mo, re, en, st, q, li, N, k, p⟩ := S
  obtain ⟨i1, i2, i3, i4, i5, i6, i7, i8, i9⟩ := hI
  have hR0 := hR
  obtain ⟨r1, r2, r3, r4, r5, r6, r7, r8, r9, r10, r11, r12, r13, r14⟩ := hR
  subst r1 r2 r3 r4 r5 r6 r7 r8 r10 r11 r12 r13
  dsimp only [aN, aK] at hc
  have one : (1 : Int32).toInt = 1 := rfl
  have hl : (nI (N - k)).toInt = (N - k : Nat) := nI_toInt (by omega)
  unfold wp_P_makePulses
  refine J_min (fun r hr => ?_)
  rw [hl] at hr
  refine ⟨fun z => ?_, fun z => ?_⟩
  · rw [ti_le, one] at z
    have ec : r = nI c := ti_eq (by rw [nI_toInt (by omega)]; omega)
    have c1 : 1 ≤ c := by omega
    have ck : k + c ≤ N := by omega
    obtain ⟨c', rfl⟩ : ∃ c', c = c' + 1 := ⟨c - 1, by omega⟩
    obtain ⟨d1, d2⟩ := r14 (by omega)
    obtain ⟨j1, j2, j3⟩ := i9 (by omega)
    subst d1
    rw [ec, nI_add k (c' + 1)]
    have e1 : nI (k + (c' + 1)) - (1 : Int32) = nI (k + c') := by
      rw [show (1 : Int32) = nI 1 from rfl, pk_sub (by omega)]
      congr 1
    rw [e1]
    have fin : ∀ r137 : Int32, r137.toInt64 = pau p_motion p_feedRate → Q (nI (c' + 1)) (nI (k + (c' + 1))) (nI (N - k) - nI (c' + 1)) (p (k + (c' + 1))).1 (p (k + (c' + 1))).2 (p_time + ((nI (c' + 1)).toInt64 * r137.toInt64)) (p_pulses + nI (c' + 1)) (((((3 : Int32) * (((p (k + (c' + 1))).1 - (p (k + c')).1) + (1 : Int32))) + ((p (k + (c' + 1))).2 - (p (k + c')).2)) + (1 : Int32))) := by
      intro r137 h137
      refine hQ _ _ _ _ _ _ _ ?_
      rw [itp_eq, lst_c, h137, nI_l (by omega), pk_sub (by omega)]
      refine ⟨rfl, rfl, rfl, rfl, rfl, rfl, rfl, rfl, r9, rfl, rfl, rfl, ?_, fun u => ⟨rfl, d2⟩⟩
      congr 1
      omega
    refine ⟨fun w => ?_, fun w => ?_⟩
    · have a1 := (d2 (k + (c' + 1)) (by omega)).1 w
      have a2 := (d2 (k + c') (by omega)).1 w
      exact a1.1 _ (a1.2 _ (a2.1 _ (a2.2 _ (P_pau i4.1 j2 fin))))
    · have a1 := (d2 (k + (c' + 1)) (by omega)).2 w
      have a2 := (d2 (k + c') (by omega)).2 w
      exact a1.1 _ (a1.2 _ (a2.1 _ (a2.2 _ (P_pau i4.1 j2 fin))))
  · rw [ti_le, one] at z
    have c0 : c = 0 := by omega
    subst c0
    exact hQ _ _ _ _ _ _ _ hR0
theorem P_loop {Q : Int32 → Bool → Int32 → Int32 → Int32 → Int32 → Int32 → Int32 → Int32 → Int32 → Int64 → Int32 → Int32 → Int32 → Int32 → Int32 → Int32 → Int32 → Int32 → Int32 → (Nat → Int32) → (Nat → Int32) → (Nat → Int32) → Int32 → Int32 → Int32 → Int32 → Int32 → Int32 → Int32 → Int32 → Int32 → Int32 → Int32 → Int32 → (Nat → Int32) → Prop} {x1 : Int32} {n : Nat} {tx : Nat → Nat} {tc : Nat → Int32} (hT : Txt n tx tc) {C : Nat × AS} (hQ : ∀ (p_way : Bool) (p_done p_left p_nextLineStart p_line p_state p_ending p_x p_y : Int32) (p_time : Int64) (p_pulses p_last p_feedRate p_motion p_relative w_rowSize w_at w_motion w_distances : Int32) (wr wz wn : Nat → Int32) (s_startX s_startY s_dx s_dy s_size r_centreX r_centreY r_diagonal r_side r_first r_turn r_size : Int32) (ar : Nat → Int32), Inv n C.2 → RC C.2 p_way p_done p_left p_nextLineStart p_line p_state p_ending p_x p_y p_time p_pulses p_last p_feedRate p_motion p_relative s_startX s_startY s_dx s_dy s_size r_centreX r_centreY r_diagonal r_side r_first r_turn ar → Q (nI C.1) p_way p_done p_left p_nextLineStart p_line p_state p_ending p_x p_y p_time p_pulses p_last p_feedRate p_motion p_relative w_rowSize w_at w_motion w_distances wr wz wn s_startX s_startY s_dx s_dy s_size r_centreX r_centreY r_diagonal r_side r_first r_turn r_size ar) :
    ∀ (F x3 J d : Nat) (S : AS) (p_way : Bool) (p_done p_left p_nextLineStart p_line p_state p_ending p_x p_y : Int32) (p_time : Int64) (p_pulses p_last p_feedRate p_motion p_relative w_rowSize w_at w_motion w_distances : Int32) (wr wz wn : Nat → Int32) (s_startX s_startY s_dx s_dy s_size r_centreX r_centreY r_diagonal r_side r_first r_turn r_size : Int32) (ar : Nat → Int32), F + x3 = 401 → it x1.toInt.toNat n tx J (d, S) = C → mu n S ≤ J → Inv n S → (aSt S = 0 → x3 ≤ 400 ∧ x3 ≤ aQ S) → (d < x1.toInt.toNat → aK S = aN S) → d ≤ x1.toInt.toNat →
      RC S p_way p_done p_left p_nextLineStart p_line p_state p_ending p_x p_y p_time p_pulses p_last p_feedRate p_motion p_relative s_startX s_startY s_dx s_dy s_size r_centreX r_centreY r_diagonal r_side r_first r_turn ar → wq_P_run_8 Q (nI n) tc (F + 1) x1 (nI d) (nI x3) p_way p_done p_left p_nextLineStart p_line p_state p_ending p_x p_y p_time p_pulses p_last p_feedRate p_motion p_relative w_rowSize w_at w_motion w_distances wr wz wn s_startX s_startY s_dx s_dy s_size r_centreX r_centreY r_diagonal r_side r_first r_turn r_size ar := by
  have hn := hT.1
  have l31 := Int32.toInt_lt x1
  intro F
  induction F with
  | zero =>
    intro x3 J d S p_way p_done p_left p_nextLineStart p_line p_state p_ending p_x p_y p_time p_pulses p_last p_feedRate p_motion p_relative w_rowSize w_at w_motion w_distances wr wz wn s_startX s_startY s_dx s_dy s_size r_centreX r_centreY r_diagonal r_side r_first r_turn r_size ar e1 hC hJ hI h3 h4 h5 hR
    unfold wq_P_run_8
    refine pk_lt 400 x3 (fun z => ?_) (fun z => absurd z (by omega)) (by decide) rfl (by omega) (by omega)
    rw [it_stop (fun u => by have := h3 u.2; omega)] at hC
    subst hC
    exact hQ _ _ _ _ _ _ _ _ _ _ _ _ _ _ _ _ _ _ _ _ _ _ _ _ _ _ _ _ _ _ _ _ _ _ _ hI hR
  | succ F ih =>
    intro x3 J d S p_way p_done p_left p_nextLineStart p_line p_state p_ending p_x p_y p_time p_pulses p_last p_feedRate p_motion p_relative w_rowSize w_at w_motion w_distances wr wz wn s_startX s_startY s_dx s_dy s_size r_centreX r_centreY r_diagonal r_side r_first r_turn r_size ar e1 hC hJ hI h3 h4 h5 hR
    have stop : ¬ (d < x1.toInt.toNat ∧ aSt S = 0) → Q (nI d) p_way p_done p_left p_nextLineStart p_line p_state p_ending p_x p_y p_time p_pulses p_last p_feedRate p_motion p_relative w_rowSize w_at w_motion w_distances wr wz wn s_startX s_startY s_dx s_dy s_size r_centreX r_centreY r_diagonal r_side r_first r_turn r_size ar := by
      intro u
      rw [it_stop u] at hC
      subst hC
      exact hQ _ _ _ _ _ _ _ _ _ _ _ _ _ _ _ _ _ _ _ _ _ _ _ _ _ _ _ _ _ _ _ _ _ _ _ hI hR
    have hdt : (nI d).toInt = d := nI_toInt (by omega)
    have hps : p_state = aSt S := by
      obtain ⟨x, y, tm, pu, la, fe, mo, re, en, st, q, li, N, k, p⟩ := S
      exact hR.2.2.2.2.2.2.2.2.2.1
    unfold wq_P_run_8
    refine pk_lt 400 x3 (fun z => stop (fun u => by have := h3 u.2; omega)) (fun z => ⟨fun w => stop (fun u => ?_), fun w => ⟨fun v => stop (fun u => v (by rw [hps]; exact u.2)), fun v => ?_⟩⟩) (by decide) rfl (by omega) (by omega)
    · rw [ti_le, hdt] at w
      omega
    · have hd : d < x1.toInt.toNat := by
        rw [ti_le, hdt] at w
        omega
      rw [hps] at v
      have hk := h4 hd
      obtain ⟨l1, l2, l3⟩ := lk_ok (tx := tx) hI v hk
      refine P_look hT hI v hk hR (fun p_way p_done p_left p_nextLineStart p_line p_state p_ending p_feedRate p_motion p_relative w_rowSize w_at w_motion w_distances wr wz wn s_startX s_startY s_dx s_dy s_size r_centreX r_centreY r_diagonal r_side r_first r_turn r_size ar hR1 => ?_)
      obtain ⟨J', rfl⟩ : ∃ J', J = J' + 1 := ⟨J - 1, by omega⟩
      rw [it_lk J' d S v hd hk] at hC
      generalize lk n tx S = S1 at *
      have ex : (x1 - nI d).toInt.toNat = x1.toInt.toNat - d := by
        rw [ti_sub (by rw [hdt]; omega) (by rw [hdt]; omega), hdt]
        omega
      refine P_mk l1 rfl hR1 (fun p_done p_left p_x p_y p_time p_pulses p_last hR2 => ?_)
      rw [ex] at hR2 ⊢
      rw [nI_add, nI_add1 x3]
      have h1 : ∃ c, c = min (x1.toInt.toNat - d) (aN S1 - aK S1) := ⟨_, rfl⟩
      obtain ⟨c, ec⟩ := h1
      rw [← ec] at hR2 ⊢
      have iv : aK S1 ≤ aN S1 := by
        obtain ⟨x, y, tm, pu, la, fe, mo, re, en, st, q, li, N, k, p⟩ := S1
        exact l1.2.2.2.2.1
      have ck : aK S1 + c ≤ aN S1 := by omega
      obtain ⟨s1, s2, s3, s4⟩ := itp_ks c S1
      have mc := mu_itp (n := n) ck
      have hst : ¬ aSt S1 = 0 → c = 0 := by
        intro u
        have : aK S1 = aN S1 := by
          obtain ⟨x, y, tm, pu, la, fe, mo, re, en, st, q, li, N, k, p⟩ := S1
          exact l1.2.2.2.2.2.2.2.1 u
        omega
      have hC2 : it x1.toInt.toNat n tx (J' - c) (d + c, itp c S1) = C := by
        by_cases u : aSt S1 = 0
        · rw [← it_pls c (J' - c) d S1 u (by omega) ck, show J' - c + c = J' by omega]
          exact hC
        · have c0 := hst u
          subst c0
          exact hC
      refine ih (x3 + 1) (J' - c) (d + c) (itp c S1) _ _ _ _ _ _ _ _ _ _ _ _ _ _ _ _ _ _ _ _ _ _ _ _ _ _ _ _ _ _ _ _ _ _ _ (by omega) hC2 (by omega) (l1.itp c ck) (fun u => ?_) (fun u => ?_) (by omega) hR2
      · rw [s1] at u
        have q1 := l2 u
        have q2 := h3 v
        rw [s2]
        omega
      · rw [s3, s4]
        omega
theorem P_runA {Q : Int32 → Bool → Int32 → Int32 → Int32 → Int32 → Int32 → Int32 → Int32 → Int32 → Int64 → Int32 → Int32 → Int32 → Int32 → Int32 → Int32 → Int32 → Int32 → Int32 → (Nat → Int32) → (Nat → Int32) → (Nat → Int32) → Int32 → Int32 → Int32 → Int32 → Int32 → Int32 → Int32 → Int32 → Int32 → Int32 → Int32 → Int32 → (Nat → Int32) → Prop} {x1 : Int32} {p_way : Bool} {p_done p_left p_nextLineStart p_line p_state p_ending p_x p_y : Int32} {p_time : Int64} {p_pulses p_last p_feedRate p_motion p_relative w_rowSize w_at w_motion w_distances : Int32} {wr wz wn : Nat → Int32} {s_startX s_startY s_dx s_dy s_size r_centreX r_centreY r_diagonal r_side r_first r_turn r_size : Int32} {ar : Nat → Int32} {n : Nat} {tx : Nat → Nat} {tc : Nat → Int32} {S : AS} (hT : Txt n tx tc) (hI : Inv n S) (hR : RC S p_way p_done p_left p_nextLineStart p_line p_state p_ending p_x p_y p_time p_pulses p_last p_feedRate p_motion p_relative s_startX s_startY s_dx s_dy s_size r_centreX r_centreY r_diagonal r_side r_first r_turn ar)
    {C : Nat × AS} {J : Nat} (hJ : mu n S ≤ J) (hC : it x1.toInt.toNat n tx J (0, S) = C) (hQ : ∀ (p_way : Bool) (p_done p_left p_nextLineStart p_line p_state p_ending p_x p_y : Int32) (p_time : Int64) (p_pulses p_last p_feedRate p_motion p_relative w_rowSize w_at w_motion w_distances : Int32) (wr wz wn : Nat → Int32) (s_startX s_startY s_dx s_dy s_size r_centreX r_centreY r_diagonal r_side r_first r_turn r_size : Int32) (ar : Nat → Int32), Inv n C.2 → RC C.2 p_way p_done p_left p_nextLineStart p_line p_state p_ending p_x p_y p_time p_pulses p_last p_feedRate p_motion p_relative s_startX s_startY s_dx s_dy s_size r_centreX r_centreY r_diagonal r_side r_first r_turn ar → Q (nI C.1) p_way p_done p_left p_nextLineStart p_line p_state p_ending p_x p_y p_time p_pulses p_last p_feedRate p_motion p_relative w_rowSize w_at w_motion w_distances wr wz wn s_startX s_startY s_dx s_dy s_size r_centreX r_centreY r_diagonal r_side r_first r_turn r_size ar) : wp_P_run x1 p_way p_done p_left p_nextLineStart p_line p_state p_ending p_x p_y p_time p_pulses p_last p_feedRate p_motion p_relative (nI n) tc w_rowSize w_at w_motion w_distances wr wz wn s_startX s_startY s_dx s_dy s_size r_centreX r_centreY r_diagonal r_side r_first r_turn r_size ar Q := by
  unfold wp_P_run
  refine P_mk hI rfl hR (fun p_done p_left p_x p_y p_time p_pulses p_last hR2 => ?_)
  have h1 : ∃ c, c = min x1.toInt.toNat (aN S - aK S) := ⟨_, rfl⟩
  obtain ⟨c, ec⟩ := h1
  rw [← ec] at hR2 ⊢
  have iv : aK S ≤ aN S := by
    obtain ⟨x, y, tm, pu, la, fe, mo, re, en, st, q, li, N, k, p⟩ := S
    exact hI.2.2.2.2.1
  have ck : aK S + c ≤ aN S := by omega
  obtain ⟨s1, s2, s3, s4⟩ := itp_ks c S
  have mc := mu_itp (n := n) ck
  have hC2 : it x1.toInt.toNat n tx (J - c) (0 + c, itp c S) = C := by
    by_cases u : aSt S = 0
    · rw [← it_pls c (J - c) 0 S u (by omega) ck, show J - c + c = J by omega]
      exact hC
    · have : aK S = aN S := by
        obtain ⟨x, y, tm, pu, la, fe, mo, re, en, st, q, li, N, k, p⟩ := S
        exact hI.2.2.2.2.2.2.2.1 u
      have c0 : c = 0 := by omega
      subst c0
      exact hC
  rw [Nat.zero_add] at hC2
  exact ⟨402, P_loop hT hQ 401 0 (J - c) c (itp c S) _ _ _ _ _ _ _ _ _ _ _ _ _ _ _ _ _ _ _ _ _ _ _ _ _ _ _ _ _ _ _ _ _ _ _ rfl hC2 (by omega) (hI.itp c ck) (fun _ => ⟨by omega, by omega⟩) (fun u => by rw [s3, s4]; omega) (by omega) hR2⟩
