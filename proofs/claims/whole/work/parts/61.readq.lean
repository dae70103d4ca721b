theorem sgn_len (L : Nat) (l : List Nat) : (sgn L l).2.length ≤ l.length := by
  unfold sgn
  split
  · cases l with
    | nil => exact Nat.le_refl _
    | cons c l =>
      dsimp only
      split
      · simp
      · split <;> simp
  · exact Nat.le_refl _
theorem word_len (L : Nat) (l : List Nat) (s : WS) : (word L l s).2.2.length ≤ l.length := by
  have h1 := sgn_len L l
  have h2 := dgv_len (sgn L l).2 0 0
  have e : (word L l s).2.2 = (dgv (sgn L l).2 0 0).2.2 := by
    unfold word
    split <;> rfl
  rw [e]
  omega
section MQ0
variable {Q : Int32 → Int32 → Int32 → Int32 → Int32 → Int32 → (Nat → Int32) → Prop} {n e : Nat} {tx : Nat → Nat} {mt : Nat → Int32}
theorem M_rl (hT : Txt n tx mt) (he : e ≤ n) : ∀ (m : Nat) (l : List Nat) (q j : Nat) (s : WS) (m_there m_newMode m_newWay m_newFeed m_ends : Int32) (mn : Nat → Int32), l.length ≤ m → At tx e q l → j ≤ q → MW s m_there m_newMode m_newWay m_newFeed m_ends mn →
    (∀ th mo wa fe en mn', ((rd m l s).1 = 0 → MW (rd m l s).2 th mo wa fe en mn') → Q (rd m l s).1 th mo wa fe en mn') → wq_M_read_35 Q mt (m + 1) (nI e) (nI q) (nI j) m_there m_newMode m_newWay m_newFeed m_ends mn := by
  intro m
  have hn := hT.1
  have nil : ∀ (m q j : Nat) (s : WS) (m_there m_newMode m_newWay m_newFeed m_ends : Int32) (mn : Nat → Int32), At tx e q [] → (Q 0 m_there m_newMode m_newWay m_newFeed m_ends mn) → wq_M_read_35 Q mt (m + 1) (nI e) (nI q) (nI j) m_there m_newMode m_newWay m_newFeed m_ends mn := by
    intro m q j s th mo wa fe en mn hA h
    have := hA.2.2.1 rfl
    unfold wq_M_read_35
    exact ⟨fun _ => h, fun _ => pk_le e q (fun _ => h) (fun z => absurd z (by omega)) rfl rfl (by omega) (by omega)⟩
  induction m with
  | zero =>
    intro l q j s th mo wa fe en mn h1 hA hj hM h
    have e0 : l = [] := List.length_eq_zero_iff.mp (by omega)
    subst e0
    exact nil 0 q j s th mo wa fe en mn hA (h _ _ _ _ _ _ (fun _ => hM))
  | succ m ih =>
    intro l q j s th mo wa fe en mn h1 hA hj hM h
    cases l with
    | nil => exact nil (m + 1) q j s th mo wa fe en mn hA (h _ _ _ _ _ _ (fun _ => hM))
    | cons c l =>
      obtain ⟨a1, a2, a3⟩ := hA.2.2.2 c l rfl
      obtain ⟨t1, t2, t3⟩ := hT.2 q (by omega)
      rw [a2] at t1 t3
      have hl2 : (c :: l).length = l.length + 1 := rfl
      unfold wq_M_read_35
      refine pk_le 400 j (fun z => absurd z (by omega)) (fun _ => pk_le e q (fun z => absurd z (by omega)) (fun _ => ⟨vp_in_nI (by omega) (by omega), ?_⟩) rfl rfl (by omega) (by omega)) (by decide) rfl (by omega) (by omega)
      rw [nI_clamp (by omega), t1]
      refine M_letter t3 ?_
      rw [rd_cons] at h
      unfold wd at h
      cases hL : ltr c with
      | none =>
        rw [hL] at h
        rw [if_neg (show ¬ (101 : Int32) = 0 from by decide)] at h
        exact ⟨fun z => absurd z (by decide), fun _ => h _ _ _ _ _ _ (fun z => absurd (show (101 : Int32) = 0 from z) (by decide))⟩
      | some L =>
        rw [hL] at h
        have hL7 := ltr_lt hL
        have hw7 := wh_lt L hL7
        refine ⟨fun _ => M_skip1 hT he hA (fun q' b1 b2 => ?_), fun z => absurd (nI_pos' (by omega)) z⟩
        have hw : ∀ L, L < 7 → (wh L < 4 ↔ 2 ≤ L ∧ L ≤ 5) := by decide
        have hwL := hw L hL7
        have hlen := word_len L l s
        have go := fun (s0 : Int32) (es : s0 = if (2 ≤ L ∧ L ≤ 5) ∧ l.headD 0 = 45 then 1 else 0) => M_word (Q := Q) (K35 := fun x2 x3 x4 m_there m_newMode m_newWay m_newFeed m_ends mn => wq_M_read_35 Q mt (m + 1) x2 x3 x4 m_there m_newMode m_newWay m_newFeed m_ends mn) (x4 := nI j) (L := L) (q := q') (l := l) hT he hM hL7 b2
          (fun q'' th mo wa fe en mn' c1 c2 c3 c4 => by
            rw [if_pos c3] at h
            show wq_M_read_35 Q mt (m + 1) (nI e) (nI q'') (nI j + 1) th mo wa fe en mn'
            rw [nI_add1]
            exact ih _ q'' (j + 1) _ th mo wa fe en mn' (by omega) c2 (by omega) c4 h)
          (fun f th mo wa fe en mn' c1 c2 => by
            rw [c1] at c2 ⊢
            rw [if_neg c2] at h
            exact h th mo wa fe en mn' (fun z => absurd z c2)) s0 es
        have g0 : ¬ ((2 ≤ L ∧ L ≤ 5) ∧ l.headD 0 = 45) → wq_M_read_102 Q (fun x2 x3 x4 m_there m_newMode m_newWay m_newFeed m_ends mn => wq_M_read_35 Q mt (m + 1) x2 x3 x4 m_there m_newMode m_newWay m_newFeed m_ends mn) mt (nI e) (nI q') (nI j) (nI (wh L)) th mo wa fe en mn := by
          intro w
          unfold wq_M_read_102
          exact go 0 (by rw [if_neg w])
        cases l with
        | nil =>
          have e1 := b2.2.2.1 rfl
          exact pk_le e q' (fun _ => g0 (fun w => absurd w.2 (by decide))) (fun z => absurd z (by omega)) rfl rfl (by omega) (by omega)
        | cons b l =>
          obtain ⟨p1, p2, p3⟩ := b2.2.2.2 b l rfl
          obtain ⟨u1, u2, u3⟩ := hT.2 q' (by omega)
          rw [p2] at u1 u3
          have eh : (b :: l).headD 0 = b := rfl
          rw [eh] at g0 go
          refine pk_le e q' (fun z => absurd z (by omega)) (fun _ => ⟨vp_in_nI (by omega) (by omega), ?_⟩) rfl rfl (by omega) (by omega)
          rw [nI_clamp (by omega), u1]
          refine ⟨fun z => g0 (fun w => z (by rw [w.2]; decide)), fun z => pk_le 4 (wh L) (fun y => g0 (fun w => by have := hwL.mpr w.1; omega)) (fun y => go 1 ?_) (by decide) rfl (by omega) (by omega)⟩
          rw [if_pos ⟨hwL.mp y, (nI_eq (b := 45) (by omega) (by omega)).mp z⟩]
theorem M_read {i : Nat} {m_there m_newMode m_newWay m_newFeed m_ends : Int32} {mn : Nat → Int32} (hT : Txt n tx mt) (hi : i ≤ e) (he : e ≤ n)
    (h : ∀ th mo wa fe en mn', ((ln tx i e).1 = 0 → MW (ln tx i e).2 th mo wa fe en mn') → Q (ln tx i e).1 th mo wa fe en mn') : wp_M_read (nI i) (nI e) m_there m_newMode m_newWay m_newFeed m_ends mt mn Q := by
  unfold wp_M_read
  refine M_skip hT he hi (fun q h1 h2 => ⟨_, M_rl hT he _ _ q 0 ws0 0 (-1) (-1) (-1) (-1) mn (Nat.le_refl _) h2 (Nat.zero_le _) MW_0 h⟩)
end MQ0
