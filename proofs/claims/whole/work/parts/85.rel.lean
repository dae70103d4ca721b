/-! the relation between the class and the reference, call after call -/
def Rel (p_way : Bool) (p_done p_left p_nextLineStart p_line p_state p_ending p_x p_y : Int32) (p_time : Int64) (p_pulses p_last p_feedRate p_motion p_relative t_size : Int32) (tc : Nat → Int32) (w_rowSize w_at w_motion w_distances : Int32) (wr wz wn : Nat → Int32) (s_startX s_startY s_dx s_dy s_size r_centreX r_centreY r_diagonal r_side r_first r_turn r_size : Int32) (ar : Nat → Int32) (m_length m_at m_lines m_x m_y m_mode m_feed m_state m_pulses m_last m_shown m_relative m_ending : Int32) (m_time m_pause : Int64) (m_kind m_made m_all m_fromX m_fromY m_wayX m_wayY m_points m_centreX m_centreY m_there m_newMode m_newWay m_newFeed m_ends : Int32) (mt mx my mn : Nat → Int32) : Prop := ∃ (n : Nat) (tx : Nat → Nat) (S : AS), Txt n tx tc ∧ Txt n tx mt ∧ t_size = nI n ∧ m_length = nI n ∧ Inv n S ∧ RC S p_way p_done p_left p_nextLineStart p_line p_state p_ending p_x p_y p_time p_pulses p_last p_feedRate p_motion p_relative s_startX s_startY s_dx s_dy s_size r_centreX r_centreY r_diagonal r_side r_first r_turn ar ∧ RM S m_at m_lines m_x m_y m_mode m_feed m_state m_pulses m_last m_relative m_ending m_time m_pause m_kind m_made m_all m_fromX m_fromY m_wayX m_wayY m_points m_centreX m_centreY mx my ∧ m_shown = m_lines
theorem rel_new {p_way : Bool} {tc : Nat → Int32} {w_rowSize w_at w_motion w_distances : Int32} {wr wz wn : Nat → Int32} {s_startX s_startY s_dx s_dy s_size r_centreX r_centreY r_diagonal r_side r_first r_turn r_size : Int32} {ar : Nat → Int32} {m_pause : Int64} {m_kind m_fromX m_fromY m_wayX m_wayY m_points m_centreX m_centreY m_there m_newMode m_newWay m_newFeed m_ends : Int32} {mt mx my mn : Nat → Int32} {n : Nat} {tx : Nat → Nat} (h1 : Txt n tx tc) (h2 : Txt n tx mt) :
    Rel p_way 0 0 0 0 0 0 0 0 0 0 4 0 0 0 (nI n) tc w_rowSize w_at w_motion w_distances wr wz wn s_startX s_startY s_dx s_dy s_size r_centreX r_centreY r_diagonal r_side r_first r_turn r_size ar (nI n) 0 0 0 0 0 0 0 0 4 0 0 0 0 m_pause m_kind 0 0 m_fromX m_fromY m_wayX m_wayY m_points m_centreX m_centreY m_there m_newMode m_newWay m_newFeed m_ends mt mx my mn := by
  refine ⟨n, tx, (0, 0, 0, 0, 4, 0, 0, 0, 0, 0, 0, 0, 0, 0, fun _ => (0, 0)), h1, h2, rfl, rfl, ?_, ?_, ?_, rfl⟩
  · exact ⟨by decide, by decide, Or.inl rfl, by decide, Nat.le_refl _, by omega, by omega, fun _ => rfl, fun z => absurd z (by omega)⟩
  · exact ⟨rfl, rfl, rfl, rfl, rfl, rfl, rfl, rfl, fun _ => rfl, rfl, rfl, rfl, rfl, fun z => absurd z (by omega)⟩
  · exact ⟨rfl, rfl, rfl, rfl, rfl, rfl, rfl, rfl, rfl, rfl, rfl, rfl, rfl, rfl, fun z => absurd z (by omega)⟩
def txf (n : Nat) (tx : Nat → Nat) (w : Int32) (i : Nat) : Nat := if i < n then tx i else (cw w (i - n)).toNatClampNeg
theorem Txt.fed {n : Nat} {tx : Nat → Nat} {w : Int32} {f g : Nat → Int32} (h : Txt n tx f) (hl : n + cnt w ≤ 400) (hf : fed n (cnt w) w f g) : Txt (n + cnt w) (txf n tx w) g := by
  refine ⟨hl, fun i hi => ?_⟩
  unfold txf
  by_cases q : i < n
  · rw [if_pos q, hf.1 i q]
    exact h.2 i q
  · rw [if_neg q]
    obtain ⟨c, c1, c2⟩ := cw_code w (i - n)
    have e := hf.2 (i - n) (by omega)
    rw [show n + (i - n) = i by omega] at e
    have ne := cnt_ne (w := w) (i := i - n) (by omega)
    rw [e, c2, nI_clamp (by omega)]
    refine ⟨rfl, ?_, c1⟩
    rcases (by omega : c = 0 ∨ 1 ≤ c) with z | z
    · rw [c2, z] at ne
      exact absurd rfl ne
    · exact z
theorem rel_ok : RelOK Rel := by
  refine ⟨?_, ?_, ?_, ?_, ?_, ?_, ?_, ?_, ?_, ?_, ?_, ?_, ?_, ?_⟩
  · intro w p_way p_done p_left p_nextLineStart p_line p_state p_ending p_x p_y p_time p_pulses p_last p_feedRate p_motion p_relative t_size tc w_rowSize w_at w_motion w_distances wr wz wn s_startX s_startY s_dx s_dy s_size r_centreX r_centreY r_diagonal r_side r_first r_turn r_size ar m_length m_at m_lines m_x m_y m_mode m_feed m_state m_pulses m_last m_shown m_relative m_ending m_time m_pause m_kind m_made m_all m_fromX m_fromY m_wayX m_wayY m_points m_centreX m_centreY m_there m_newMode m_newWay m_newFeed m_ends mt mx my mn
    rintro ⟨n, tx, S, t1, t2, e1, e2, hI, hC, hM, hs⟩
    subst e1
    subst e2
    have hn := t1.1
    unfold wp_P_feed
    refine T_app hn (fun z => ⟨fun _ => ?_, fun y => absurd (by decide) y⟩) (fun z g hg => ⟨fun y => absurd y (nI_pos (by have := cnt_le w; omega)), fun _ => ?_⟩)
    · exact M_feed hn (fun _ => ⟨rfl, n, tx, S, t1, t2, rfl, rfl, hI, hC, hM, hs⟩) (fun y => absurd z (by omega))
    · unfold wp_P_begin
      exact M_feed hn (fun y => absurd z (by omega)) (fun _ g' hg' => ⟨rfl, rel_new (t1.fed z hg) (t2.fed z hg')⟩)
  · intro p_way p_done p_left p_nextLineStart p_line p_state p_ending p_x p_y p_time p_pulses p_last p_feedRate p_motion p_relative t_size tc w_rowSize w_at w_motion w_distances wr wz wn s_startX s_startY s_dx s_dy s_size r_centreX r_centreY r_diagonal r_side r_first r_turn r_size ar m_length m_at m_lines m_x m_y m_mode m_feed m_state m_pulses m_last m_shown m_relative m_ending m_time m_pause m_kind m_made m_all m_fromX m_fromY m_wayX m_wayY m_points m_centreX m_centreY m_there m_newMode m_newWay m_newFeed m_ends mt mx my mn
    rintro ⟨n, tx, S, t1, t2, e1, e2, hI, hC, hM, hs⟩
    unfold wp_P_clear wp_T_empty wp_P_begin wp_M_clear wp_M_begin
    exact rel_new (n := 0) (tx := tx) ⟨by omega, fun i hi => absurd hi (by omega)⟩ ⟨by omega, fun i hi => absurd hi (by omega)⟩
  · intro p_way p_done p_left p_nextLineStart p_line p_state p_ending p_x p_y p_time p_pulses p_last p_feedRate p_motion p_relative t_size tc w_rowSize w_at w_motion w_distances wr wz wn s_startX s_startY s_dx s_dy s_size r_centreX r_centreY r_diagonal r_side r_first r_turn r_size ar m_length m_at m_lines m_x m_y m_mode m_feed m_state m_pulses m_last m_shown m_relative m_ending m_time m_pause m_kind m_made m_all m_fromX m_fromY m_wayX m_wayY m_points m_centreX m_centreY m_there m_newMode m_newWay m_newFeed m_ends mt mx my mn
    rintro ⟨n, tx, S, t1, t2, e1, e2, hI, hC, hM, hs⟩
    subst e1
    subst e2
    unfold wp_P_begin wp_M_begin
    exact rel_new t1 t2
  · intro w p_way p_done p_left p_nextLineStart p_line p_state p_ending p_x p_y p_time p_pulses p_last p_feedRate p_motion p_relative t_size tc w_rowSize w_at w_motion w_distances wr wz wn s_startX s_startY s_dx s_dy s_size r_centreX r_centreY r_diagonal r_side r_first r_turn r_size ar m_length m_at m_lines m_x m_y m_mode m_feed m_state m_pulses m_last m_shown m_relative m_ending m_time m_pause m_kind m_made m_all m_fromX m_fromY m_wayX m_wayY m_points m_centreX m_centreY m_there m_newMode m_newWay m_newFeed m_ends mt mx my mn
    rintro ⟨n, tx, S, t1, t2, e1, e2, hI, hC, hM, hs⟩
    subst e1
    subst e2
    have hn := t1.1
    have hmu : mu n S ≤ 1000000 := by
      obtain ⟨x, y, tm, pu, la, fe, mo, re, en, st, q, li, N, k, p⟩ := S
      have i6 := hI.2.2.2.2.2.1
      unfold mu
      dsimp only [aSt, aN, aK, aQ]
      split <;> omega
    have hit : ∃ C, it w.toInt.toNat n tx 1000000 (0, S) = C := ⟨_, rfl⟩
    obtain ⟨C, hit⟩ := hit
    refine P_runA t1 hI hC hmu hit ?_
    intro p_way p_done p_left p_nextLineStart p_line p_state p_ending p_x p_y p_time p_pulses p_last p_feedRate p_motion p_relative w_rowSize w_at w_motion w_distances wr wz wn s_startX s_startY s_dx s_dy s_size r_centreX r_centreY r_diagonal r_side r_first r_turn r_size ar hI' hC'
    refine M_runA t2 hI hM hs hmu (Nat.le_refl _) hit ?_
    intro m_at m_lines m_x m_y m_mode m_feed m_state m_pulses m_last m_shown m_relative m_ending m_time m_pause m_kind m_made m_all m_fromX m_fromY m_wayX m_wayY m_points m_centreX m_centreY m_there m_newMode m_newWay m_newFeed m_ends mx my mn _ hM' hs'
    exact ⟨rfl, n, tx, C.2, t1, t2, rfl, rfl, hI', hC', hM', hs'⟩
  all_goals
    intro p_way p_done p_left p_nextLineStart p_line p_state p_ending p_x p_y p_time p_pulses p_last p_feedRate p_motion p_relative t_size tc w_rowSize w_at w_motion w_distances wr wz wn s_startX s_startY s_dx s_dy s_size r_centreX r_centreY r_diagonal r_side r_first r_turn r_size ar m_length m_at m_lines m_x m_y m_mode m_feed m_state m_pulses m_last m_shown m_relative m_ending m_time m_pause m_kind m_made m_all m_fromX m_fromY m_wayX m_wayY m_points m_centreX m_centreY m_there m_newMode m_newWay m_newFeed m_ends mt mx my mn
    rintro ⟨n, tx, ⟨x, y, tm, pu, la, fe, mo, re, en, st, q, li, N, k, p⟩, t1, t2, e1, e2, hI, hC, hM, hs⟩
    obtain ⟨c1, c2, c3, c4, c5, c6, c7, c8, c9, c10, c11, c12, c13, c14⟩ := hC
    obtain ⟨r1, r2, r3, r4, r5, r6, r7, r8, r9, r10, r11, r12, r13, r14, r15⟩ := hM
  · exact c10.trans r10.symm
  · exact c1.trans r1.symm
  · exact c2.trans r2.symm
  · exact c3.trans r3.symm
  · exact c4.trans r4.symm
  · exact c5.trans r5.symm
  · exact c12.trans (hs.trans r12).symm
  · exact c6.trans r6.symm
  · unfold wp_P_mode wp_M_mode
    have e : p_relative = m_relative := c8.trans r8.symm
    have e' : p_motion = m_mode := c7.trans r7.symm
    subst e
    subst e'
    refine ⟨fun z => ⟨fun _ => ?_, fun v => absurd z v⟩, fun z => ⟨fun v => absurd v z, fun _ => rfl⟩⟩
    exact (Int32.add_zero p_motion).symm
  · unfold wp_P_left wp_M_left
    have i5 := hI.2.2.2.2.1
    rw [c13, r13, r14, pk_sub i5]
