theorem cnt_at {w : Int32} (h : cnt w < 4) : cw w (cnt w) = 0 := by
  unfold cnt at h ⊢
  split
  · assumption
  · rename_i h0
    rw [if_neg h0] at h
    split
    · assumption
    · rename_i h1
      rw [if_neg h1] at h
      split
      · assumption
      · rename_i h2
        rw [if_neg h2] at h
        split
        · assumption
        · rename_i h3
          rw [if_neg h3] at h
          omega
section MF
variable {Q : Int32 → Int32 → Int32 → Int32 → Int32 → Int32 → Int32 → Int32 → Int32 → Int32 → Int32 → Int32 → Int32 → Int32 → Int64 → Int32 → Int32 → (Nat → Int32) → Prop} {w : Int32} {n : Nat} {m_length m_at m_lines m_x m_y m_mode m_feed m_state m_pulses m_last m_shown m_relative m_ending : Int32} {m_time : Int64} {m_made m_all : Int32} {mt : Nat → Int32}
theorem M_l2 (k : Nat) (hk : n + k ≤ 400) (h : ∀ g, fed n k w mt g → Q (nI k) (nI (n + k)) 0 0 0 0 0 0 0 0 4 0 0 0 0 0 0 g) : ∀ (d j : Nat) (g : Nat → Int32), j + d = k → fed n j w mt g → wq_M_feed_53 Q (d + 1) w (nI k) (nI j) (nI n) m_at m_lines m_x m_y m_mode m_feed m_state m_pulses m_last m_shown m_relative m_ending m_time m_made m_all g := by
  intro d
  induction d with
  | zero =>
    intro j g e hg
    unfold wq_M_feed_53
    refine pk_le k j (fun _ => ?_) (fun z => absurd z (by omega))
    unfold wp_M_begin
    rw [nI_add]
    rcases (by omega : j = k) with rfl
    exact h g hg
  | succ d ih =>
    intro j g e hg
    unfold wq_M_feed_53
    refine pk_le k j (fun z => absurd z (by omega)) (fun _ => ?_)
    have e2 : nI n + nI j = nI (n + j) := nI_add n j
    refine ⟨by rw [e2]; exact vp_in_nI (by omega) (by omega), ?_⟩
    rw [e2, nI_clamp (by omega), nI_add1]
    exact ih (j + 1) _ (by omega) (fed_s rfl rfl hg)
theorem M_feed (hn : n ≤ 400) (h1 : 400 < n + cnt w → Q (-1) (nI n) m_at m_lines m_x m_y m_mode m_feed m_state m_pulses m_last m_shown m_relative m_ending m_time m_made m_all mt) (h2 : n + cnt w ≤ 400 → ∀ g, fed n (cnt w) w mt g → Q (nI (cnt w)) (nI (n + cnt w)) 0 0 0 0 0 0 0 0 4 0 0 0 0 0 0 g) : wp_M_feed w (nI n) m_at m_lines m_x m_y m_mode m_feed m_state m_pulses m_last m_shown m_relative m_ending m_time m_made m_all mt Q := by
  have hc := cnt_le w
  have L : ∀ (d j : Nat), j + d = 4 → wq_M_feed_4 Q (d + 1) w (nI (min j (cnt w))) (nI j) (nI n) m_at m_lines m_x m_y m_mode m_feed m_state m_pulses m_last m_shown m_relative m_ending m_time m_made m_all mt := by
    intro d
    induction d with
    | zero =>
      intro j e
      unfold wq_M_feed_4
      refine pk_le 4 j (fun _ => ?_) (fun z => absurd z (by omega)) (by decide)
      rw [(by omega : min j (cnt w) = cnt w), nI_add]
      refine pk_le (n + cnt w) 400 (fun z => ?_) (fun z => h1 z) rfl (by decide)
      exact ⟨cnt w + 1, M_l2 (cnt w) z (h2 z) (cnt w) 0 mt (by omega) fed_0⟩
    | succ d ih =>
      intro j e
      unfold wq_M_feed_4
      refine pk_le 4 j (fun z => absurd z (by omega)) (fun _ => ?_) (by decide)
      have nx := ih (j + 1) (by omega)
      unfold wq_M_feed_31
      rw [nI_add1]
      refine ⟨fun z => ?_, fun z => ⟨fun y => ?_, fun y => ?_⟩⟩
      · have q : ¬ min j (cnt w) = j := fun q => z (by rw [q])
        rw [(by omega : min j (cnt w) = min (j + 1) (cnt w))]
        exact nx
      · have q : min j (cnt w) = j := (nI_eq (by omega) (by omega)).mp z
        have q2 : ¬ j < cnt w := fun q2 => cnt_ne q2 y
        rw [(by omega : min j (cnt w) = min (j + 1) (cnt w))]
        exact nx
      · have q : min j (cnt w) = j := (nI_eq (by omega) (by omega)).mp z
        have q2 : j < cnt w := by
          rcases Nat.lt_or_ge j (cnt w) with q2 | q2
          · exact q2
          · exfalso
            have q3 : cnt w = j := by omega
            have q4 := cnt_at (w := w) (by omega)
            rw [q3] at q4
            exact y q4
        rw [nI_add1, (by omega : min j (cnt w) + 1 = min (j + 1) (cnt w))]
        exact nx
  refine ⟨5, ?_⟩
  exact L 4 0 rfl
end MF
