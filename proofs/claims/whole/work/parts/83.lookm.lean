/-! the reference's look -/
abbrev aE (S : AS) : Int32 := S.2.2.2.2.2.2.2.2.1
def RM : AS → Int32 → Int32 → Int32 → Int32 → Int32 → Int32 → Int32 → Int32 → Int32 → Int32 → Int32 → Int64 → Int64 → Int32 → Int32 → Int32 → Int32 → Int32 → Int32 → Int32 → Int32 → Int32 → Int32 → (Nat → Int32) → (Nat → Int32) → Prop := fun (x, y, tm, pu, la, fe, mo, re, en, st, q, li, N, k, p) m_at m_lines m_x m_y m_mode m_feed m_state m_pulses m_last m_relative m_ending m_time m_pause m_kind m_made m_all m_fromX m_fromY m_wayX m_wayY m_points m_centreX m_centreY mx my =>
  m_x = x ∧ m_y = y ∧ m_time = tm ∧ m_pulses = pu ∧ m_last = la ∧ m_feed = fe ∧ m_mode = mo ∧ m_relative = re ∧ m_ending = en ∧ m_state = st ∧ m_at = nI q ∧ m_lines = li ∧ m_made = nI k ∧ m_all = nI N ∧ (k < N → m_pause = pau mo fe ∧ MMv N p m_kind m_fromX m_fromY m_wayX m_wayY m_points m_centreX m_centreY mx my)
theorem smv_f {x y mo fe re : Int32} {s : WS} {f : Int32} {o : Option (Nat × PT)} (h : smv x y mo fe re s = (f, o)) : f = 0 ∨ 0 < f := by
  have g : ∀ z : MO, (z.1 = 0 ∨ 0 < z.1) → z = (f, o) → f = 0 ∨ 0 < f := by
    intro z hz e
    rw [e] at hz
    exact hz
  refine g _ ?_ h
  unfold smv mvo cif
  split
  · right; decide
  · split
    · left; rfl
    · split
      · right; decide
      · split
        · split
          · left; rfl
          · right; decide
        · split
          · right; decide
          · split
            · left; rfl
            · right; decide
theorem M_138 {Q : Int32 → Int32 → Int32 → Int32 → Int32 → Int32 → Int32 → Int32 → Int64 → Int32 → Int32 → Int32 → Int32 → Int32 → Int32 → Int32 → Int32 → Int32 → Int32 → Int32 → Int32 → Int32 → Int32 → Int32 → (Nat → Int32) → (Nat → Int32) → (Nat → Int32) → Prop} {K2 : _} {m_length m_x m_y : Int32} {mt : Nat → Int32} {x1 x3 m_at m_lines m_mode m_feed m_shown m_relative m_ending : Int32} {m_pause : Int64} {m_kind m_made m_all m_fromX m_fromY m_wayX m_wayY m_points m_centreX m_centreY m_there m_newMode m_newWay m_newFeed m_ends : Int32} {mx my mn : Nat → Int32} (hf : x3 = 0 ∨ 0 < x3)
    (h : ∀ sh en : Int32, (x3 = 0 ∧ ¬ m_ends ≤ 0 → en = 1) → (¬ (x3 = 0 ∧ ¬ m_ends ≤ 0) → en = 0) → (0 < x3 ∨ ¬ m_there = 0 ∨ ¬ en = 0 → sh = m_lines) → K2 (x1 + 1) m_at m_lines m_mode m_feed x3 sh m_relative en m_pause m_kind m_made m_all m_fromX m_fromY m_wayX m_wayY m_points m_centreX m_centreY m_there m_newMode m_newWay m_newFeed m_ends mx my mn) : wq_M_look_138 Q K2 m_length m_x m_y mt x1 x3 m_at m_lines m_mode m_feed 0 m_shown m_relative m_ending m_pause m_kind m_made m_all m_fromX m_fromY m_wayX m_wayY m_points m_centreX m_centreY m_there m_newMode m_newWay m_newFeed m_ends mx my mn := by
  have K164 : ∀ s1 : Int32, bZ s1 → (x3 = 0 ∧ ¬ m_ends ≤ 0 → s1 = 1) → (¬ (x3 = 0 ∧ ¬ m_ends ≤ 0) → s1 = 0) → wq_M_look_164 Q K2 m_length m_x m_y mt x1 x3 s1 m_at m_lines m_mode m_feed x3 m_shown m_relative m_ending m_pause m_kind m_made m_all m_fromX m_fromY m_wayX m_wayY m_points m_centreX m_centreY m_there m_newMode m_newWay m_newFeed m_ends mx my mn := by
    intro s1 hb a b
    unfold wq_M_look_164 wq_M_look_185 wq_M_look_193
    refine ⟨hb, fun z => h _ _ a b (fun _ => rfl), fun z => ⟨fun y => h _ _ a b (fun _ => rfl), fun y => ⟨fun w => h _ _ a b (fun u => ?_), fun w => h _ _ a b (fun _ => rfl)⟩⟩⟩
    rcases u with u | u | u
    · exact absurd u z
    · exact absurd y u
    · exact absurd w u
  have K147 : wq_M_look_147 Q K2 m_length m_x m_y mt x1 x3 m_at m_lines m_mode m_feed x3 m_shown m_relative m_ending m_pause m_kind m_made m_all m_fromX m_fromY m_wayX m_wayY m_points m_centreX m_centreY m_there m_newMode m_newWay m_newFeed m_ends mx my mn := by
    unfold wq_M_look_147 wq_M_look_163
    refine ⟨fun z => K164 0 (Or.inl rfl) (fun u => absurd u.1 z) (fun _ => rfl), fun z => ⟨fun y => K164 0 (Or.inl rfl) (fun u => absurd y u.2) (fun _ => rfl), fun y => K164 1 (Or.inr rfl) (fun _ => rfl) (fun u => absurd ⟨z, y⟩ u)⟩⟩
  unfold wq_M_look_138
  refine ⟨fun z => ?_, fun _ => K147⟩
  rcases hf with q | q
  · rw [q] at K147 ⊢
    exact K147
  · exact absurd z (by rw [Int32.not_le]; exact q)
theorem M_76 {Q : Int32 → Int32 → Int32 → Int32 → Int32 → Int32 → Int32 → Int32 → Int64 → Int32 → Int32 → Int32 → Int32 → Int32 → Int32 → Int32 → Int32 → Int32 → Int32 → Int32 → Int32 → Int32 → Int32 → Int32 → (Nat → Int32) → (Nat → Int32) → (Nat → Int32) → Prop} {K2 : _} {m_x m_y x1 m_at m_lines m_mode m_feed m_state m_shown m_relative m_ending : Int32} {m_pause : Int64} {m_kind m_made m_all m_fromX m_fromY m_wayX m_wayY m_points m_centreX m_centreY m_there m_newMode m_newWay m_newFeed m_ends : Int32} {mx my mn : Nat → Int32} {n : Nat} {tx : Nat → Nat} {mt : Nat → Int32} (hT : Txt n tx mt) : ∀ d i : Nat, i + d = n → wq_M_look_102 Q K2 (nI n) m_x m_y mt x1 (nI (leF tx d i)) m_at m_lines m_mode m_feed m_state m_shown m_relative m_ending m_pause m_kind m_made m_all m_fromX m_fromY m_wayX m_wayY m_points m_centreX m_centreY m_there m_newMode m_newWay m_newFeed m_ends mx my mn → wq_M_look_76 Q K2 (nI n) m_x m_y mt (d + 1) x1 (nI i) m_at m_lines m_mode m_feed m_state m_shown m_relative m_ending m_pause m_kind m_made m_all m_fromX m_fromY m_wayX m_wayY m_points m_centreX m_centreY m_there m_newMode m_newWay m_newFeed m_ends mx my mn := by
  have hn := hT.1
  intro d
  induction d with
  | zero =>
    intro i e h
    unfold wq_M_look_76
    exact pk_le n i (fun _ => h) (fun z => absurd z (by omega)) rfl rfl (by omega) (by omega)
  | succ d ih =>
    intro i e h
    obtain ⟨t1, t2, t3⟩ := hT.2 i (by omega)
    unfold wq_M_look_76
    rw [nI_add1 i]
    refine pk_le n i (fun z => absurd z (by omega)) (fun _ => ⟨vp_in_nI (by omega) (by omega), ?_⟩) rfl rfl (by omega) (by omega)
    rw [nI_clamp (by omega), t1]
    unfold leF at h
    refine pk_eq (tx i) 10 (fun z => ?_) (fun z => ?_) rfl (by decide) (by omega) (by omega)
    · rw [if_pos z] at h; exact h
    · rw [if_neg z] at h; exact ih (i + 1) (by omega) h
theorem M_look1 {Q : Int32 → Int32 → Int32 → Int32 → Int32 → Int32 → Int32 → Int32 → Int64 → Int32 → Int32 → Int32 → Int32 → Int32 → Int32 → Int32 → Int32 → Int32 → Int32 → Int32 → Int32 → Int32 → Int32 → Int32 → (Nat → Int32) → (Nat → Int32) → (Nat → Int32) → Prop} {K2 : _} {m_x m_y x1 m_at m_lines m_mode m_feed m_state m_shown m_relative m_ending : Int32} {m_pause : Int64} {m_kind m_made m_all m_fromX m_fromY m_wayX m_wayY m_points m_centreX m_centreY m_there m_newMode m_newWay m_newFeed m_ends : Int32} {mx my mn : Nat → Int32} {n : Nat} {tx : Nat → Nat} {mt : Nat → Int32} {S : AS} {m_time : Int64} {m_pulses m_last : Int32} (hT : Txt n tx mt) (hI : Inv n S) (hst : aSt S = 0) (hkN : aK S = aN S) (hE : aE S = 0) (hq : aQ S < n)
    (hR : RM S m_at m_lines m_x m_y m_mode m_feed m_state m_pulses m_last m_relative m_ending m_time m_pause m_kind m_made m_all m_fromX m_fromY m_wayX m_wayY m_points m_centreX m_centreY mx my)
    (hQ : ∀ (m_at m_lines m_mode m_feed m_state m_shown m_relative m_ending : Int32) (m_pause : Int64) (m_kind m_made m_all m_fromX m_fromY m_wayX m_wayY m_points m_centreX m_centreY m_there m_newMode m_newWay m_newFeed m_ends : Int32) (mx my mn : Nat → Int32), RM (lk n tx S) m_at m_lines m_x m_y m_mode m_feed m_state m_pulses m_last m_relative m_ending m_time m_pause m_kind m_made m_all m_fromX m_fromY m_wayX m_wayY m_points m_centreX m_centreY mx my → (m_shown = m_lines ∨ (aSt (lk n tx S) = 0 ∧ aK (lk n tx S) = aN (lk n tx S) ∧ aE (lk n tx S) = 0)) → K2 (x1 + 1) m_at m_lines m_mode m_feed m_state m_shown m_relative m_ending m_pause m_kind m_made m_all m_fromX m_fromY m_wayX m_wayY m_points m_centreX m_centreY m_there m_newMode m_newWay m_newFeed m_ends mx my mn) : ∃ n76 : Nat, wq_M_look_76 Q K2 (nI n) m_x m_y mt n76 x1 m_at m_at m_lines m_mode m_feed m_state m_shown m_relative m_ending m_pause m_kind m_made m_all m_fromX m_fromY m_wayX m_wayY m_points m_centreX m_centreY m_there m_newMode m_newWay m_newFeed m_ends mx my mn := by
  obtain ⟨x, y, tm, pu, la, fe, mo, re, en, st, q, li, N, k, p⟩ := S
  obtain ⟨i1, i2, i3, i4, i5, i6, i7, i8, i9⟩ := hI
  obtain ⟨r1, r2, r3, r4, r5, r6, r7, r8, r9, r10, r11, r12, r13, r14, r15⟩ := hR
  dsimp only [aSt, aK, aN, aE, aQ] at hst hkN hE hq
  subst hst
  subst hkN
  subst hE
  subst r1 r2 r3 r4 r5 r6 r7 r8 r9 r10 r11 r12 r13 r14
  have hn := hT.1
  have hle := le_in (tx := tx) (n := n) (q := q) (by omega)
  refine ⟨n - q + 1, M_76 hT (n - q) q (by omega) ?_⟩
  show wq_M_look_102 Q K2 (nI n) m_x m_y mt x1 (nI (le tx n q)) (nI q) m_lines m_mode m_feed 0 m_shown m_relative 0 m_pause m_kind (nI k) (nI k) m_fromX m_fromY m_wayX m_wayY m_points m_centreX m_centreY m_there m_newMode m_newWay m_newFeed m_ends mx my mn
  unfold wq_M_look_102
  generalize hL : lk n tx (m_x, m_y, m_time, m_pulses, m_last, m_feed, m_mode, m_relative, 0, 0, q, m_lines, k, k, p) = T at hQ
  unfold lk at hL
  dsimp only at hL
  rw [if_neg (fun v => v.elim (fun v => v rfl) (fun v => by omega))] at hL
  refine M_read hT hle.1 hle.2 (fun th mo wa fe en mn hMW => ?_)
  have hok := ln_ok tx q (le tx n q)
  generalize ln tx q (le tx n q) = r at *
  rw [nI_add1 (le tx n q)]
  refine ⟨fun v => ?_, fun v => ?_⟩
  · rw [if_pos v] at hL
    subst hL
    have hp := Fl_ne hok.2 v
    refine M_138 (Or.inr hp) (fun sh e a b c => hQ _ _ _ _ _ _ _ _ _ _ _ _ _ _ _ _ _ _ _ _ _ _ _ _ _ _ _ ⟨rfl, rfl, rfl, rfl, rfl, rfl, rfl, rfl, b (fun u => v u.1), rfl, rfl, rfl, rfl, rfl, r15⟩ (Or.inl (c (Or.inl hp))))
  · rw [if_neg (fun u => u v)] at hL
    have hw := hMW v
    have w5 := hw.2.2.2.2.1
    have enq : ∀ f e : Int32, (f = 0 ∧ ¬ en ≤ 0 → e = 1) → (¬ (f = 0 ∧ ¬ en ≤ 0) → e = 0) → e = if f = 0 then enA r.2 else 0 := by
      intro f e a b
      by_cases z : f = 0
      · rw [if_pos z]
        unfold enA
        rcases w5 with ⟨u1, u2⟩ | ⟨u1, u2⟩
        · rw [u1]
          exact b (fun w => w.2 (by rw [u2]; decide))
        · rw [u1]
          exact a ⟨z, by rw [u2]; decide⟩
      · rw [if_neg z]
        exact b (fun w => z w.1)
    refine M_actA hw hok.1 i1.1 i1.2 i2.1 i2.2 i3 (fun f e pa po cX cY mx my => ?_) (fun f N' pth e ki fX fY wX wY po cX cY mx my hth hM => ?_)
    · rw [e] at hL
      have hf := smv_f e
      unfold lkO at hL
      dsimp only at hL
      subst hL
      refine M_138 hf (fun sh e' a b c => hQ _ _ _ _ _ _ _ _ _ _ _ _ _ _ _ _ _ _ _ _ _ _ _ _ _ _ _ ⟨rfl, rfl, rfl, rfl, rfl, rfl, rfl, rfl, enq f e' a b, rfl, rfl, rfl, rfl, rfl, fun u => absurd u (by omega)⟩ ?_)
      dsimp only [aSt, aK, aN, aE]
      rw [← enq f e' a b]
      rcases hf with q1 | q1
      · by_cases q2 : e' = 0
        · exact Or.inr ⟨q1, rfl, q2⟩
        · exact Or.inl (c (Or.inr (Or.inr q2)))
      · exact Or.inl (c (Or.inl q1))
    · rw [e] at hL
      have hf := smv_f e
      unfold lkO at hL
      dsimp only at hL
      subst hL
      exact M_138 hf (fun sh e' a b c => hQ _ _ _ _ _ _ _ _ _ _ _ _ _ _ _ _ _ _ _ _ _ _ _ _ _ _ _ ⟨rfl, rfl, rfl, rfl, rfl, rfl, rfl, rfl, enq f e' a b, rfl, rfl, rfl, rfl, rfl, fun u => ⟨rfl, hM⟩⟩ (Or.inl (c (Or.inr (Or.inl hth)))))
