/-! the reference's next point; how many it counts -/
section AN
variable {L : List (Int × Int)} {mx my : Nat → Int32} {R m : Int} {g : Int → Int} {t : Int}
def bst (m : Int) (g : Int → Int) (t F : Int) (L : List (Int × Int)) (k : Nat) (z : Int32) : Prop :=
  (z = -1 ∧ ∀ j, j < k → L.getD j (0, 0) = cP m g F) ∨ (∃ b d, b < k ∧ z = nI b ∧ 0 < d ∧ d < 4 * cs_s m g ∧ L.getD b (0, 0) = cP m g (F + t * d) ∧ ∀ j, j < k → ∀ d', 0 < d' → d' < 4 * cs_s m g → L.getD j (0, 0) = cP m g (F + t * d') → d ≤ d')
theorem M_next {Q : Int32 → Int32 → Int32 → Int32 → Int64 → Int32 → Prop} {m_pause : Int64} {m_centreX m_centreY x1 x2 m_x m_y m_pulses m_last : Int32} {m_time : Int64} {m_made : Int32} (h : Circ R m g) (ht : t = 1 ∨ t = -1) (hP : Pts L mx my) (hM : ∀ p, p ∈ L ↔ InC m g p) (F : Int)
    (hQ : wq_M_pulse_254 Q m_pause x1 x2 (m_centreX + iI (cP m g (F + t)).1) (m_centreY + iI (cP m g (F + t)).2) m_pulses m_last m_time m_made) : ∀ (d k : Nat) (z : Int32), k + d = L.length → bst m g t F L k z → wq_M_pulse_125 Q m_pause (iI t) (nI L.length) m_centreX m_centreY mx my (d + 1) x1 x2 (iI (cP m g F).1) (iI (cP m g F).2) z (nI k) m_x m_y m_pulses m_last m_time m_made := by
  have hl := hP.1
  have sp := h.s_pos
  have fr := h.from ht F
  have c5 : in5 (cP m g F) := by
    refine hP.2.1 _ ((hM _).mpr ((fr _).mpr ⟨0, by omega, by omega, ?_⟩))
    congr 1; omega
  have c5' : -500 ≤ (cP m g F).1 ∧ (cP m g F).1 ≤ 500 ∧ -500 ≤ (cP m g F).2 ∧ (cP m g F).2 ≤ 500 := c5
  have e0 : cP m g (F + t * 0) = cP m g F := by congr 1; omega
  have e1' : cP m g (F + t * 1) = cP m g (F + t) := by congr 1; omega
  intro d
  induction d with
  | zero =>
    intro k z e1 hb
    have ek : k = L.length := by omega
    unfold wq_M_pulse_125
    refine pk_le L.length k (fun _ => ?_) (fun z => absurd z (by omega)) rfl rfl (by omega) (by omega)
    obtain ⟨j, j1, j2⟩ := mem_getD ((hM _).mpr ((fr _).mpr ⟨1, by omega, by omega, rfl⟩))
    rcases hb with ⟨_, b2⟩ | ⟨b, db, b1, b2, b3, b4, b5, b6⟩
    · have := b2 j (by omega)
      rw [j2, ← e0] at this
      have := h.eqF ht F (by omega) (by omega) (by omega) (by omega) this
      omega
    · have d1 := b6 j (by omega) 1 (by omega) (by omega) j2
      have e2 : db = 1 := by omega
      rw [e2, e1'] at b5
      obtain ⟨c1, c2⟩ := hP.2.2 b (by omega)
      rw [b2]
      refine ⟨vp_in_nI (by omega) (by omega), vp_in_nI (by omega) (by omega), ?_⟩
      rw [nI_clamp (by omega), c1, c2, b5]
      exact hQ
  | succ d ih =>
    intro k z e1 hb
    have b5 := hP.in5 (k := k) (by omega)
    have b5' : -500 ≤ (L.getD k (0, 0)).1 ∧ (L.getD k (0, 0)).1 ≤ 500 ∧ -500 ≤ (L.getD k (0, 0)).2 ∧ (L.getD k (0, 0)).2 ≤ 500 := b5
    obtain ⟨c1, c2⟩ := hP.2.2 k (by omega)
    obtain ⟨dk, k0, k1, k2⟩ := (fr _).mp ((hM _).mp (getD_mem (L := L) (k := k) (by omega)))
    have uq : ∀ d', 0 < d' → d' < 4 * cs_s m g → L.getD k (0, 0) = cP m g (F + t * d') → d' = dk := by
      intro d' a1 a2 a3
      rw [← k2] at a3
      exact (h.eqF ht F (by omega) (by omega) (by omega) (by omega) a3).symm
    -- here: the point itself
    have keep : L.getD k (0, 0) = cP m g F → bst m g t F L (k + 1) z := by
      intro y
      have dk0 : dk = 0 := by
        rw [← k2, ← e0] at y
        exact h.eqF ht F k0 k1 (by omega) (by omega) y
      rcases hb with ⟨b1, b2⟩ | ⟨b, db, b1, b2, b3, b4, b5, b6⟩
      · refine Or.inl ⟨b1, fun j hj => ?_⟩
        by_cases q : j = k
        · rw [q]; exact y
        · exact b2 j (by omega)
      · refine Or.inr ⟨b, db, by omega, b2, b3, b4, b5, fun j hj d' a1 a2 a3 => ?_⟩
        by_cases q : j = k
        · subst q
          have := uq d' a1 a2 a3
          omega
        · exact b6 j (by omega) d' a1 a2 a3
    unfold wq_M_pulse_125
    refine pk_le L.length k (fun z => absurd z (by omega)) (fun _ => ⟨vp_in_nI (by omega) (by omega), ?_⟩) rfl rfl (by omega) (by omega)
    rw [nI_clamp (by omega), c1, c2]
    have go : ¬ L.getD k (0, 0) = cP m g F → wq_M_pulse_161 Q (fun x1 x2 x3 x4 x5 x6 m_x m_y m_pulses m_last m_time m_made => wq_M_pulse_125 Q m_pause (iI t) (nI L.length) m_centreX m_centreY mx my (d + 1) x1 x2 x3 x4 x5 x6 m_x m_y m_pulses m_last m_time m_made) m_pause (iI t) (nI L.length) m_centreX m_centreY mx my x1 x2 (iI (cP m g F).1) (iI (cP m g F).2) z (nI k) m_x m_y m_pulses m_last m_time m_made := by
      intro hn
      have dk0 : 0 < dk := by
        rcases (by omega : dk = 0 ∨ 0 < dk) with q | q
        · rw [q, e0] at k2
          exact absurd k2.symm hn
        · exact q
      unfold wq_M_pulse_161 wq_M_pulse_162
      refine ⟨fun w => absurd rfl w, fun _ => ?_⟩
      unfold wq_M_pulse_212 wq_M_pulse_216
      rw [nI_add1 k]
      rcases hb with ⟨b1, b2⟩ | ⟨b, db, b1, b2, b3, b4, b5, b6⟩
      · rw [b1]
        refine ⟨fun _ => ih (k + 1) _ (by omega) (Or.inr ⟨k, dk, by omega, rfl, dk0, k1, k2.symm, fun j hj d' a1 a2 a3 => ?_⟩), fun w => absurd (by decide) w⟩
        by_cases q : j = k
        · subst q
          have := uq d' a1 a2 a3
          omega
        · have := b2 j (by omega)
          rw [a3, ← e0] at this
          have := h.eqF ht F (by omega) (by omega) (by omega) (by omega) this
          omega
      · have b9 := hP.in5 (k := b) (by omega)
        obtain ⟨f1, f2⟩ := hP.2.2 b (by omega)
        rw [b2]
        refine ⟨fun w => absurd w (nI_pos (by omega)), fun _ => ⟨vp_in_nI (by omega) (by omega), vp_in_nI (by omega) (by omega), vp_in_nI (by omega) (by omega), vp_in_nI (by omega) (by omega), ?_⟩⟩
        rw [nI_clamp (by omega), nI_clamp (by omega), c1, c2, f1, f2]
        have bi : bf t (cP m g F) (L.getD k (0, 0)) (L.getD b (0, 0)) ↔ dk < db := by
          rw [← k2, b5]
          exact h.bf_iff ht F dk0 k1 b3 b4
        refine M_before ht c5 b5' b9 (fun w => ⟨fun y => absurd y (by decide), fun _ => ih (k + 1) _ (by omega) (Or.inr ⟨k, dk, by omega, rfl, dk0, k1, k2.symm, fun j hj d' a1 a2 a3 => ?_⟩)⟩) (fun w => ⟨fun _ => ih (k + 1) _ (by omega) (Or.inr ⟨b, db, by omega, rfl, b3, b4, b5, fun j hj d' a1 a2 a3 => ?_⟩), fun y => absurd rfl y⟩)
        · have := bi.mp w
          by_cases q : j = k
          · subst q
            have := uq d' a1 a2 a3
            omega
          · have := b6 j (by omega) d' a1 a2 a3
            omega
        · have : ¬ dk < db := fun y => w (bi.mpr y)
          by_cases q : j = k
          · subst q
            have := uq d' a1 a2 a3
            omega
          · exact b6 j (by omega) d' a1 a2 a3
    refine ⟨fun w => go (fun y => w (by rw [y])), fun w => ⟨vp_in_nI (by omega) (by omega), fun y => go (fun u => y (by rw [u])), fun y => ?_⟩⟩
    have e3 : L.getD k (0, 0) = cP m g F := Prod.ext ((iI_inj (by omega) (by omega) (by omega) (by omega)).mp w) ((iI_inj (by omega) (by omega) (by omega) (by omega)).mp y)
    unfold wq_M_pulse_162
    refine ⟨fun _ => ?_, fun w => absurd w (by decide)⟩
    unfold wq_M_pulse_216
    rw [nI_add1 k]
    exact ih (k + 1) z (by omega) (keep e3)
theorem cnt_all (p : Nat → Bool) : ∀ n, (∀ k, k < n → p k = true) → (List.range n).countP p = n := by
  intro n
  induction n with
  | zero => intro _; rfl
  | succ n ih =>
    intro h
    rw [List.range_succ, List.countP_append, ih (fun k hk => h k (by omega)), List.countP_cons, if_pos (h n (by omega))]
    rfl
theorem cnt_to (p : Nat → Bool) (N : Nat) : ∀ n, (∀ k, k < n → (p k = true ↔ 1 ≤ k ∧ k ≤ N)) → (List.range n).countP p = min (n - 1) N := by
  intro n
  induction n with
  | zero => intro _; simp
  | succ n ih =>
    intro h
    rw [List.range_succ, List.countP_append, ih (fun k hk => h k (by omega)), List.countP_cons, List.countP_nil]
    by_cases q : p n = true
    · rw [if_pos q]
      have := (h n (by omega)).mp q
      omega
    · rw [if_neg q]
      have : ¬ (1 ≤ n ∧ n ≤ N) := fun w => q ((h n (by omega)).mpr w)
      omega
theorem cnt_N (h : Circ R m g) (ht : t = 1 ∨ t = -1) (hnd : L.Nodup) (hM : ∀ p, p ∈ L ↔ InC m g p) (F : Int) {N : Nat} (h1 : 1 ≤ N) (hN : (N : Int) ≤ 4 * cs_s m g) : L.countP (cnb t (cP m g F) (cP m g (F + t * N))) = N := by
  have sp := h.s_pos
  obtain ⟨s4, hs4⟩ := Int.eq_ofNat_of_zero_le (a := 4 * cs_s m g) (by omega)
  have pm : L.Perm ((List.range s4).map (fun k : Nat => cP m g (F + t * (k : Int)))) := by
    refine (List.perm_ext_iff_of_nodup hnd ?_).mpr (fun p => ?_)
    · refine List.pairwise_map.mpr (List.Pairwise.imp_of_mem (R := fun a b => a < b) (fun {a b} ha hb hab e => ?_) List.pairwise_lt_range)
      rw [List.mem_range] at ha hb
      have := h.eqF ht F (a := (a : Int)) (b := (b : Int)) (by omega) (by omega) (by omega) (by omega) e
      omega
    · rw [hM p, h.from ht F p, List.mem_map]
      constructor
      · rintro ⟨d, d0, d1, e⟩
        obtain ⟨n, rfl⟩ := Int.eq_ofNat_of_zero_le d0
        exact ⟨n, List.mem_range.mpr (by omega), e⟩
      · rintro ⟨n, hn, e⟩
        rw [List.mem_range] at hn
        exact ⟨n, by omega, by omega, e⟩
  rw [pm.countP_eq, List.countP_map]
  have e0 : cP m g (F + t * ((0 : Nat) : Int)) = cP m g F := by congr 1; omega
  have tr : ∀ k : Nat, (cnb t (cP m g F) (cP m g (F + t * N)) ∘ fun k : Nat => cP m g (F + t * (k : Int))) k = true ↔ cnP t (cP m g F) (cP m g (F + t * N)) (cP m g (F + t * (k : Int))) := by
    intro k
    exact ⟨fun z => @of_decide_eq_true _ (Classical.propDecidable _) z, fun z => @decide_eq_true _ (Classical.propDecidable _) z⟩
  rcases (by omega : N = s4 ∨ N < s4) with q | q
  · rw [q]
    refine cnt_all _ s4 (fun k hk => ?_)
    rw [q] at tr
    refine (tr k).mpr (Or.inl ?_)
    have e : F + t * (s4 : Int) = F + 4 * cs_s m g * t := by rw [hs4, Int.mul_comm]
    rw [e, h.perZ]
  · rw [cnt_to _ N s4 (fun k hk => ?_)]
    · omega
    · rw [tr k]
      constructor
      · rintro (w | ⟨w1, w2⟩)
        · rw [← e0] at w
          have := h.eqF ht F (a := (N : Int)) (b := ((0 : Nat) : Int)) (by omega) (by omega) (by omega) (by omega) w
          omega
        · have k1 : 1 ≤ k := by
            rcases (by omega : k = 0 ∨ 1 ≤ k) with y | y
            · rw [y] at w1
              exact absurd e0 w1
            · exact y
          have := h.bf_iff ht F (d := (N : Int)) (d' := (k : Int)) (by omega) (by omega) (by omega) (by omega)
          refine ⟨k1, ?_⟩
          rcases Nat.lt_or_ge N k with y | y
          · exact absurd (this.mpr (by omega)) w2
          · exact y
      · rintro ⟨w1, w2⟩
        right
        constructor
        · intro y
          rw [← e0] at y
          have := h.eqF ht F (a := (k : Int)) (b := ((0 : Nat) : Int)) (by omega) (by omega) (by omega) (by omega) y
          omega
        · intro y
          have := (h.bf_iff ht F (d := (N : Int)) (d' := (k : Int)) (by omega) (by omega) (by omega) (by omega)).mp y
          omega
end AN
