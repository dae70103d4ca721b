/-! the reference's run -/
theorem M_lookL {Q : Int32 → Int32 → Int32 → Int32 → Int32 → Int32 → Int32 → Int32 → Int64 → Int32 → Int32 → Int32 → Int32 → Int32 → Int32 → Int32 → Int32 → Int32 → Int32 → Int32 → Int32 → Int32 → Int32 → Int32 → (Nat → Int32) → (Nat → Int32) → (Nat → Int32) → Prop} {m_x m_y : Int32} {n M d : Nat} {tx : Nat → Nat} {mt : Nat → Int32} {m_time : Int64} {m_pulses m_last : Int32} {C : Nat × AS} {J0 : Nat} (hT : Txt n tx mt) (hd : d < M)
    (hQ : ∀ (S : AS) (J : Nat) (m_at m_lines m_mode m_feed m_state m_shown m_relative m_ending : Int32) (m_pause : Int64) (m_kind m_made m_all m_fromX m_fromY m_wayX m_wayY m_points m_centreX m_centreY m_there m_newMode m_newWay m_newFeed m_ends : Int32) (mx my mn : Nat → Int32), it M n tx J (d, S) = C → mu n S ≤ J → J ≤ J0 → Inv n S → ¬ (aSt S = 0 ∧ aK S = aN S) → RM S m_at m_lines m_x m_y m_mode m_feed m_state m_pulses m_last m_relative m_ending m_time m_pause m_kind m_made m_all m_fromX m_fromY m_wayX m_wayY m_points m_centreX m_centreY mx my → m_shown = m_lines → Q m_at m_lines m_mode m_feed m_state m_shown m_relative m_ending m_pause m_kind m_made m_all m_fromX m_fromY m_wayX m_wayY m_points m_centreX m_centreY m_there m_newMode m_newWay m_newFeed m_ends mx my mn) :
    ∀ (F x1 J : Nat) (S : AS) (m_at m_lines m_mode m_feed m_state m_shown m_relative m_ending : Int32) (m_pause : Int64) (m_kind m_made m_all m_fromX m_fromY m_wayX m_wayY m_points m_centreX m_centreY m_there m_newMode m_newWay m_newFeed m_ends : Int32) (mx my mn : Nat → Int32), F + x1 = 500 → it M n tx J (d, S) = C → mu n S ≤ J → J ≤ J0 → Inv n S → (aSt S = 0 → x1 ≤ aQ S) → RM S m_at m_lines m_x m_y m_mode m_feed m_state m_pulses m_last m_relative m_ending m_time m_pause m_kind m_made m_all m_fromX m_fromY m_wayX m_wayY m_points m_centreX m_centreY mx my → (m_shown = m_lines ∨ (aSt S = 0 ∧ aK S = aN S ∧ aE S = 0)) → wq_M_look_2 Q (nI n) m_x m_y mt (F + 1) (nI x1) m_at m_lines m_mode m_feed m_state m_shown m_relative m_ending m_pause m_kind m_made m_all m_fromX m_fromY m_wayX m_wayY m_points m_centreX m_centreY m_there m_newMode m_newWay m_newFeed m_ends mx my mn := by
  have hn := hT.1
  intro F
  induction F with
  | zero =>
    intro x1 J S m_at m_lines m_mode m_feed m_state m_shown m_relative m_ending m_pause m_kind m_made m_all m_fromX m_fromY m_wayX m_wayY m_points m_centreX m_centreY m_there m_newMode m_newWay m_newFeed m_ends mx my mn e1 hC hJ hJ0 hI hx hR hs
    have q401 : aQ S ≤ n + 1 := by
      obtain ⟨x, y, tm, pu, la, fe, mo, re, en, st, q, li, N, k, p⟩ := S
      exact hI.2.2.2.2.2.2.1
    have ns : ¬ (aSt S = 0 ∧ aK S = aN S) := fun u => by have := hx u.1; omega
    unfold wq_M_look_2
    exact pk_le 500 x1 (fun _ => hQ S J _ _ _ _ _ _ _ _ _ _ _ _ _ _ _ _ _ _ _ _ _ _ _ _ _ _ _ hC hJ hJ0 hI ns hR (hs.resolve_right (fun u => ns ⟨u.1, u.2.1⟩))) (fun z => absurd z (by omega)) (by decide) rfl (by omega) (by omega)
  | succ F ih =>
    intro x1 J S m_at m_lines m_mode m_feed m_state m_shown m_relative m_ending m_pause m_kind m_made m_all m_fromX m_fromY m_wayX m_wayY m_points m_centreX m_centreY m_there m_newMode m_newWay m_newFeed m_ends mx my mn e1 hC hJ hJ0 hI hx hR hs
    have q401 : aQ S ≤ n + 1 := by
      obtain ⟨x, y, tm, pu, la, fe, mo, re, en, st, q, li, N, k, p⟩ := S
      exact hI.2.2.2.2.2.2.1
    have stop : ¬ (aSt S = 0 ∧ aK S = aN S) → Q m_at m_lines m_mode m_feed m_state m_shown m_relative m_ending m_pause m_kind m_made m_all m_fromX m_fromY m_wayX m_wayY m_points m_centreX m_centreY m_there m_newMode m_newWay m_newFeed m_ends mx my mn := fun ns => hQ S J _ _ _ _ _ _ _ _ _ _ _ _ _ _ _ _ _ _ _ _ _ _ _ _ _ _ _ hC hJ hJ0 hI ns hR (hs.resolve_right (fun u => ns ⟨u.1, u.2.1⟩))
    have f1 : m_state = aSt S ∧ m_made = nI (aK S) ∧ m_all = nI (aN S) ∧ m_ending = aE S ∧ m_at = nI (aQ S) ∧ aK S ≤ aN S ∧ aN S ≤ 2400 := by
      obtain ⟨x, y, tm, pu, la, fe, mo, re, en, st, q, li, N, k, p⟩ := S
      obtain ⟨r1, r2, r3, r4, r5, r6, r7, r8, r9, r10, r11, r12, r13, r14, r15⟩ := hR
      exact ⟨r10, r13, r14, r9, r11, hI.2.2.2.2.1, hI.2.2.2.2.2.1⟩
    obtain ⟨f1, f2, f3, f4, f5, f6, f7⟩ := f1
    unfold wq_M_look_2
    refine pk_le 500 x1 (fun z => stop (fun u => by have := hx u.1; omega)) (fun z => ⟨fun w => stop (fun u => w (by rw [f1]; exact u.1)), fun w => ?_⟩) (by decide) rfl (by omega) (by omega)
    rw [f1] at w
    refine pk_eq (aK S) (aN S) (fun v => ?_) (fun v => stop (fun u => v u.2)) f2 f3 (by omega) (by omega) |>.symm
    obtain ⟨l1, l2, l3⟩ := lk_ok (tx := tx) hI w v
    obtain ⟨J', rfl⟩ : ∃ J', J = J' + 1 := ⟨J - 1, by omega⟩
    rw [it_lk J' d S w hd v] at hC
    have h100 : (¬ aE S = 0 ∨ n ≤ aQ S) → ∀ sh : Int32, sh = m_lines → wq_M_look_193 Q (fun x1 m_at m_lines m_mode m_feed m_state m_shown m_relative m_ending m_pause m_kind m_made m_all m_fromX m_fromY m_wayX m_wayY m_points m_centreX m_centreY m_there m_newMode m_newWay m_newFeed m_ends mx my mn => wq_M_look_2 Q (nI n) m_x m_y mt (F + 1) x1 m_at m_lines m_mode m_feed m_state m_shown m_relative m_ending m_pause m_kind m_made m_all m_fromX m_fromY m_wayX m_wayY m_points m_centreX m_centreY m_there m_newMode m_newWay m_newFeed m_ends mx my mn) (nI n) m_x m_y mt (nI x1) m_at m_lines m_mode m_feed 100 sh m_relative m_ending m_pause m_kind m_made m_all m_fromX m_fromY m_wayX m_wayY m_points m_centreX m_centreY m_there m_newMode m_newWay m_newFeed m_ends mx my mn := by
      intro hc sh hsh
      unfold wq_M_look_193
      rw [nI_add1 x1]
      have hlk : aSt (lk n tx S) = 100 ∧ RM (lk n tx S) m_at m_lines m_x m_y m_mode m_feed 100 m_pulses m_last m_relative m_ending m_time m_pause m_kind m_made m_all m_fromX m_fromY m_wayX m_wayY m_points m_centreX m_centreY mx my := by
        obtain ⟨x, y, tm, pu, la, fe, mo, re, en, st, q, li, N, k, p⟩ := S
        obtain ⟨r1, r2, r3, r4, r5, r6, r7, r8, r9, r10, r11, r12, r13, r14, r15⟩ := hR
        have hc' : ¬ en = 0 ∨ n ≤ q := hc
        have e : lk n tx (x, y, tm, pu, la, fe, mo, re, en, st, q, li, N, k, p) = (x, y, tm, pu, la, fe, mo, re, en, 100, q, li, N, k, p) := by
          unfold lk
          dsimp only
          rw [if_pos hc']
        rw [e]
        exact ⟨rfl, r1, r2, r3, r4, r5, r6, r7, r8, r9, rfl, r11, r12, r13, r14, r15⟩
      refine ih (x1 + 1) J' (lk n tx S) _ _ _ _ _ _ _ _ _ _ _ _ _ _ _ _ _ _ _ _ _ _ _ _ _ _ _ (by omega) hC (by omega) (by omega) l1 (fun u => ?_) hlk.2 (Or.inl hsh)
      rw [hlk.1] at u
      exact absurd u (by decide)
    rw [f4, f5]
    refine ⟨fun u => pk_lt (aQ S) n (fun t => ?_) (fun t => ?_) rfl rfl (by omega) (by omega), fun u => ?_⟩
    · rw [← f5, ← f4]
      refine M_look1 hT hI w v u t hR (fun m_at m_lines m_mode m_feed m_state m_shown m_relative m_ending m_pause m_kind m_made m_all m_fromX m_fromY m_wayX m_wayY m_points m_centreX m_centreY m_there m_newMode m_newWay m_newFeed m_ends mx my mn hR1 hs1 => ?_)
      rw [nI_add1 x1]
      refine ih (x1 + 1) J' (lk n tx S) _ _ _ _ _ _ _ _ _ _ _ _ _ _ _ _ _ _ _ _ _ _ _ _ _ _ _ (by omega) hC (by omega) (by omega) l1 (fun o => ?_) hR1 hs1
      have := (l2 o).2
      have := hx w
      omega
    · have := h100 (Or.inr t) m_lines rfl
      rw [f4, f5] at this
      exact this
    · have := h100 (Or.inl u) m_shown (hs.resolve_right (fun o => u o.2.2))
      rw [f4, f5] at this
      exact this
theorem M_runL {Q : Int32 → Int32 → Int32 → Int32 → Int32 → Int32 → Int32 → Int32 → Int32 → Int32 → Int32 → Int32 → Int32 → Int64 → Int64 → Int32 → Int32 → Int32 → Int32 → Int32 → Int32 → Int32 → Int32 → Int32 → Int32 → Int32 → Int32 → Int32 → Int32 → Int32 → (Nat → Int32) → (Nat → Int32) → (Nat → Int32) → Prop} {x1 : Int32} {n : Nat} {tx : Nat → Nat} {mt : Nat → Int32} {C : Nat × AS} (hT : Txt n tx mt)
    (hQ : ∀ (m_at m_lines m_x m_y m_mode m_feed m_state m_pulses m_last m_shown m_relative m_ending : Int32) (m_time m_pause : Int64) (m_kind m_made m_all m_fromX m_fromY m_wayX m_wayY m_points m_centreX m_centreY m_there m_newMode m_newWay m_newFeed m_ends : Int32) (mx my mn : Nat → Int32), Inv n C.2 → RM C.2 m_at m_lines m_x m_y m_mode m_feed m_state m_pulses m_last m_relative m_ending m_time m_pause m_kind m_made m_all m_fromX m_fromY m_wayX m_wayY m_points m_centreX m_centreY mx my → m_shown = m_lines → Q (nI C.1) m_at m_lines m_x m_y m_mode m_feed m_state m_pulses m_last m_shown m_relative m_ending m_time m_pause m_kind m_made m_all m_fromX m_fromY m_wayX m_wayY m_points m_centreX m_centreY m_there m_newMode m_newWay m_newFeed m_ends mx my mn) :
    ∀ (F x3 J d : Nat) (S : AS) (m_at m_lines m_x m_y m_mode m_feed m_state m_pulses m_last m_shown m_relative m_ending : Int32) (m_time m_pause : Int64) (m_kind m_made m_all m_fromX m_fromY m_wayX m_wayY m_points m_centreX m_centreY m_there m_newMode m_newWay m_newFeed m_ends : Int32) (mx my mn : Nat → Int32), F + x3 = 1000000 → it x1.toInt.toNat n tx J (d, S) = C → mu n S ≤ J → (aSt S = 0 → x3 + J ≤ 1000000) → Inv n S → d ≤ x1.toInt.toNat → RM S m_at m_lines m_x m_y m_mode m_feed m_state m_pulses m_last m_relative m_ending m_time m_pause m_kind m_made m_all m_fromX m_fromY m_wayX m_wayY m_points m_centreX m_centreY mx my → m_shown = m_lines → wq_M_run_4 Q (nI n) mt (F + 1) x1 (nI d) (nI x3) m_at m_lines m_x m_y m_mode m_feed m_state m_pulses m_last m_shown m_relative m_ending m_time m_pause m_kind m_made m_all m_fromX m_fromY m_wayX m_wayY m_points m_centreX m_centreY m_there m_newMode m_newWay m_newFeed m_ends mx my mn := by
  have hn := hT.1
  have l31 := Int32.toInt_lt x1
  have mu1 : ∀ S : AS, aSt S = 0 → 1 ≤ mu n S := by
    intro S h
    unfold mu
    rw [if_pos h]
    omega
  intro F
  induction F with
  | zero =>
    intro x3 J d S m_at m_lines m_x m_y m_mode m_feed m_state m_pulses m_last m_shown m_relative m_ending m_time m_pause m_kind m_made m_all m_fromX m_fromY m_wayX m_wayY m_points m_centreX m_centreY m_there m_newMode m_newWay m_newFeed m_ends mx my mn e1 hC hJ hx hI hd hR hs
    unfold wq_M_run_4
    refine pk_le 1000000 x3 (fun z => ?_) (fun z => absurd z (by omega)) (by decide) rfl (by omega) (by omega)
    rw [it_stop (fun u => by have := hx u.2; have := mu1 S u.2; omega)] at hC
    subst hC
    exact hQ _ _ _ _ _ _ _ _ _ _ _ _ _ _ _ _ _ _ _ _ _ _ _ _ _ _ _ _ _ _ _ _ hI hR hs
  | succ F ih =>
    intro x3 J d S m_at m_lines m_x m_y m_mode m_feed m_state m_pulses m_last m_shown m_relative m_ending m_time m_pause m_kind m_made m_all m_fromX m_fromY m_wayX m_wayY m_points m_centreX m_centreY m_there m_newMode m_newWay m_newFeed m_ends mx my mn e1 hC hJ hx hI hd hR hs
    have stop : ¬ (d < x1.toInt.toNat ∧ aSt S = 0) → Q (nI d) m_at m_lines m_x m_y m_mode m_feed m_state m_pulses m_last m_shown m_relative m_ending m_time m_pause m_kind m_made m_all m_fromX m_fromY m_wayX m_wayY m_points m_centreX m_centreY m_there m_newMode m_newWay m_newFeed m_ends mx my mn := by
      intro u
      rw [it_stop u] at hC
      subst hC
      exact hQ _ _ _ _ _ _ _ _ _ _ _ _ _ _ _ _ _ _ _ _ _ _ _ _ _ _ _ _ _ _ _ _ hI hR hs
    have hdt : (nI d).toInt = d := nI_toInt (by omega)
    have hps : m_state = aSt S := by
      obtain ⟨x, y, tm, pu, la, fe, mo, re, en, st, q, li, N, k, p⟩ := S
      exact hR.2.2.2.2.2.2.2.2.2.1
    unfold wq_M_run_4
    refine pk_le 1000000 x3 (fun z => stop (fun u => by have := hx u.2; have := mu1 S u.2; omega)) (fun z => ⟨fun w => stop (fun u => ?_), fun w => ⟨fun v => stop (fun u => v (by rw [hps]; exact u.2)), fun v => ?_⟩⟩) (by decide) rfl (by omega) (by omega)
    · rw [ti_le, hdt] at w
      omega
    · have hd' : d < x1.toInt.toNat := by
        rw [ti_le, hdt] at w
        omega
      rw [hps] at v
      unfold wp_M_look
      refine ⟨501, M_lookL (m_time := m_time) (m_pulses := m_pulses) (m_last := m_last) (J0 := J) hT hd' (fun S' J' m_at m_lines m_mode m_feed m_state m_shown m_relative m_ending m_pause m_kind m_made m_all m_fromX m_fromY m_wayX m_wayY m_points m_centreX m_centreY m_there m_newMode m_newWay m_newFeed m_ends mx my mn hC' hJ' hJJ hI' ns hR' hs' => ?_) 500 0 J S _ _ _ _ _ _ _ _ _ _ _ _ _ _ _ _ _ _ _ _ _ _ _ _ _ _ _ rfl hC hJ (Nat.le_refl _) hI (fun _ => Nat.zero_le _) hR (Or.inl hs)⟩
      have hps' : m_state = aSt S' := by
        obtain ⟨x, y, tm, pu, la, fe, mo, re, en, st, q, li, N, k, p⟩ := S'
        exact hR'.2.2.2.2.2.2.2.2.2.1
      unfold wq_M_run_41
      rw [nI_add1 x3, nI_add1 d]
      refine ⟨fun u => ?_, fun u => ?_⟩
      · rw [hps'] at u
        exact ih (x3 + 1) J' d S' _ _ _ _ _ _ _ _ _ _ _ _ _ _ _ _ _ _ _ _ _ _ _ _ _ _ _ _ _ _ _ _ (by omega) hC' hJ' (fun o => absurd o u) hI' hd hR' hs'
      · rw [hps'] at u
        have hle : aK S' ≤ aN S' := by
          obtain ⟨x, y, tm, pu, la, fe, mo, re, en, st, q, li, N, k, p⟩ := S'
          exact hI'.2.2.2.2.1
        have hkN : aK S' < aN S' := by
          rcases Nat.lt_or_ge (aK S') (aN S') with o | o
          · exact o
          · exact absurd ⟨u, by omega⟩ ns
        have m1 := mu1 S' u
        have m2 := mu_itp (n := n) (c := 1) (S := S') (by omega)
        obtain ⟨J2, rfl⟩ : ∃ J2, J' = J2 + 1 := ⟨J' - 1, by omega⟩
        rw [it_pls 1 J2 d S' u (by omega) (by omega)] at hC'
        have hI2 := hI'.pl hkN
        have hx3 := hx v
        obtain ⟨x, y, tm, pu, la, fe, mo, re, en, st, q, li, N, k, p⟩ := S'
        obtain ⟨r1, r2, r3, r4, r5, r6, r7, r8, r9, r10, r11, r12, r13, r14, r15⟩ := hR'
        obtain ⟨pa, mm⟩ := r15 hkN
        obtain ⟨j1, j2, j3⟩ := hI'.2.2.2.2.2.2.2.2 hkN
        have jx : x = (p k).1 := congrArg Prod.fst j1
        have jy : y = (p k).2 := congrArg Prod.snd j1
        rw [r1, r2, r13, r14, jx, jy]
        refine mm k hkN _ _ _ _ _ ?_
        refine ih (x3 + 1) J2 (d + 1) (pl (x, y, tm, pu, la, fe, mo, re, en, st, q, li, N, k, p)) _ _ _ _ _ _ _ _ _ _ _ _ _ _ _ _ _ _ _ _ _ _ _ _ _ _ _ _ _ _ _ _ (by omega) hC' ?_ (fun o => by omega) hI2 (by omega) ?_ hs'
        · have m2' : mu n (pl (x, y, tm, pu, la, fe, mo, re, en, st, q, li, N, k, p)) + 1 = mu n (x, y, tm, pu, la, fe, mo, re, en, st, q, li, N, k, p) := m2
          omega
        · refine ⟨rfl, rfl, ?_, ?_, rfl, r6, r7, r8, r9, r10, r11, r12, rfl, rfl, fun _ => ⟨pa, mm⟩⟩
          · rw [r3, pa]
          · rw [r4]
theorem M_runA {Q : Int32 → Int32 → Int32 → Int32 → Int32 → Int32 → Int32 → Int32 → Int32 → Int32 → Int32 → Int32 → Int32 → Int64 → Int64 → Int32 → Int32 → Int32 → Int32 → Int32 → Int32 → Int32 → Int32 → Int32 → Int32 → Int32 → Int32 → Int32 → Int32 → Int32 → (Nat → Int32) → (Nat → Int32) → (Nat → Int32) → Prop} {x1 m_at m_lines m_x m_y m_mode m_feed m_state m_pulses m_last m_shown m_relative m_ending : Int32} {m_time m_pause : Int64} {m_kind m_made m_all m_fromX m_fromY m_wayX m_wayY m_points m_centreX m_centreY m_there m_newMode m_newWay m_newFeed m_ends : Int32} {mx my mn : Nat → Int32} {n : Nat} {tx : Nat → Nat} {mt : Nat → Int32} {S : AS} (hT : Txt n tx mt) (hI : Inv n S) (hR : RM S m_at m_lines m_x m_y m_mode m_feed m_state m_pulses m_last m_relative m_ending m_time m_pause m_kind m_made m_all m_fromX m_fromY m_wayX m_wayY m_points m_centreX m_centreY mx my) (hs : m_shown = m_lines) {C : Nat × AS} {J : Nat} (hJ : mu n S ≤ J) (hJ2 : J ≤ 1000000) (hC : it x1.toInt.toNat n tx J (0, S) = C)
    (hQ : ∀ (m_at m_lines m_x m_y m_mode m_feed m_state m_pulses m_last m_shown m_relative m_ending : Int32) (m_time m_pause : Int64) (m_kind m_made m_all m_fromX m_fromY m_wayX m_wayY m_points m_centreX m_centreY m_there m_newMode m_newWay m_newFeed m_ends : Int32) (mx my mn : Nat → Int32), Inv n C.2 → RM C.2 m_at m_lines m_x m_y m_mode m_feed m_state m_pulses m_last m_relative m_ending m_time m_pause m_kind m_made m_all m_fromX m_fromY m_wayX m_wayY m_points m_centreX m_centreY mx my → m_shown = m_lines → Q (nI C.1) m_at m_lines m_x m_y m_mode m_feed m_state m_pulses m_last m_shown m_relative m_ending m_time m_pause m_kind m_made m_all m_fromX m_fromY m_wayX m_wayY m_points m_centreX m_centreY m_there m_newMode m_newWay m_newFeed m_ends mx my mn) : wp_M_run x1 (nI n) m_at m_lines m_x m_y m_mode m_feed m_state m_pulses m_last m_shown m_relative m_ending m_time m_pause m_kind m_made m_all m_fromX m_fromY m_wayX m_wayY m_points m_centreX m_centreY m_there m_newMode m_newWay m_newFeed m_ends mt mx my mn Q := by
  unfold wp_M_run
  exact ⟨1000001, M_runL hT hQ 1000000 0 J 0 S _ _ _ _ _ _ _ _ _ _ _ _ _ _ _ _ _ _ _ _ _ _ _ _ _ _ _ _ _ _ _ _ rfl hC hJ (fun _ => by omega) hI (Nat.zero_le _) hR hs⟩
