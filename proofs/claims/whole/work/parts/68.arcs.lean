section ML
variable {R m : Nat} {g : Int → Int} {Q : Int32 → (Nat → Int32) → (Nat → Int32) → Prop}
/-- a circle with its roots as naturals -/
def CircN (R m : Nat) (g : Int → Int) : Prop := Circ R m g ∧ R ≤ 160801 ∧ m ≤ 283 ∧ (∀ u : Nat, u ≤ m → ∃ w : Nat, w ≤ 402 ∧ g u = w ∧ IsWn (R - u * u) w)
theorem CircN.mk {R : Nat} (hR : 1 ≤ R) (hR2 : R ≤ 160801) : ∃ (m : Nat) (g : Int → Int), CircN R m g := by
  obtain ⟨m, g, h1, h2⟩ := circ_ex hR
  refine ⟨m, g, h1, hR2, ?_, fun u hu => ?_⟩
  · have := h1.2.2.1
    rcases Nat.lt_or_ge 283 m with q | q
    · have := sq_mono (a := 284) (b := (m : Int)) (by omega) (by omega)
      omega
    · exact q
  · obtain ⟨w, w1, w2⟩ := h2 u hu
    refine ⟨w, ?_, w1, w2⟩
    rcases Nat.lt_or_ge 402 w with q | q
    · rcases w2.2 with z | z
      · omega
      · have : 805 * 805 ≤ (2 * w - 1) * (2 * w - 1) := Nat.mul_le_mul (by omega) (by omega)
        omega
    · exact q
theorem CircN.at (h : CircN R m g) {u : Int} (h1 : -(m : Int) ≤ u) (h2 : u ≤ m) : 0 ≤ g u ∧ g u ≤ 402 ∧ u * u ≤ R ∧ ∀ w : Nat, IsWn (R - (u * u).toNat) w → (w : Int) = g u := by
  obtain ⟨c, r, m1, n⟩ := h
  have ea : (u * u).toNat = u.natAbs * u.natAbs := by
    have : u * u = (u.natAbs * u.natAbs : Nat) := (Int.natAbs_mul_self).symm
    rw [this]
    exact Int.toNat_natCast _
  have hu : g u = g (u.natAbs : Int) := by
    rcases Int.lt_or_le u 0 with q | q
    · have : (u.natAbs : Int) = -u := by omega
      rw [this, c.2.2.2.2.2.1]
    · have : (u.natAbs : Int) = u := by omega
      rw [this]
  obtain ⟨w, w0, w1, w2⟩ := n u.natAbs (by omega)
  refine ⟨by rw [hu, w1]; omega, by rw [hu, w1]; omega, ?_, fun w' h' => ?_⟩
  · have s1 := Nat.mul_le_mul (show u.natAbs ≤ m by omega) (show u.natAbs ≤ m by omega)
    have s2 := c.2.2.1
    have s3 : ((m * m : Nat) : Int) = (m : Int) * m := by push_cast; rfl
    have : u * u = (u.natAbs * u.natAbs : Nat) := (Int.natAbs_mul_self).symm
    omega
  · rw [ea] at h'
    rw [h'.uniq w2, hu, w1]
def four (g : Int → Int) (u : Int) (p : Int × Int) : Prop := p = (u, g u) ∨ p = (u, -g u) ∨ p = (g u, u) ∨ p = (-g u, u)
theorem nI_iI {w : Nat} {z : Int} (h : (w : Int) = z) : nI w = iI z := by rw [iI_nI, h]
theorem iI_neg {z : Int} (h1 : -100000 ≤ z) (h2 : z ≤ 100000) : -iI z = iI (-z) := by
  rw [← iI_of (-iI z), ti_neg (by rw [iI_t (by omega) (by omega)]; omega), iI_t (by omega) (by omega)]
theorem iI_add1 {z : Int} (h1 : -100000 ≤ z) (h2 : z ≤ 100000) : iI z + 1 = iI (z + 1) := by
  have one : (1 : Int32).toInt = 1 := rfl
  rw [← iI_of (iI z + 1), ti_add (by rw [iI_t (by omega) (by omega), one]; omega) (by rw [iI_t (by omega) (by omega), one]; omega), iI_t (by omega) (by omega), one]
theorem iI_sub1 {z : Int} (h1 : -100000 ≤ z) (h2 : z ≤ 100000) : iI z - 1 = iI (z - 1) := by
  have one : (1 : Int32).toInt = 1 := rfl
  rw [← iI_of (iI z - 1), ti_sub (by rw [iI_t (by omega) (by omega), one]; omega) (by rw [iI_t (by omega) (by omega), one]; omega), iI_t (by omega) (by omega), one]
/-- the rows for u from -m on -/
theorem M_lay36 (hC : CircN R m g) (h : ∀ L mx' my', Pts L mx' my' → L.Nodup → (∀ p, p ∈ L ↔ InC m g p) → Q (nI L.length) mx' my') : ∀ (d : Nat) (u : Int) (L : List (Int × Int)) (mx my : Nat → Int32), u + d = (m : Int) + 1 → -(m : Int) ≤ u → Pts L mx my → L.Nodup → (L.length : Int) ≤ 4 * (u + m) → (∀ p, p ∈ L ↔ ∃ v, -(m : Int) ≤ v ∧ v < u ∧ four g v p) → wq_M_lay_36 Q (d + 1) (nI R) (nI m) (iI u) (nI L.length) mx my := by
  have hm := hC.2.2.1
  intro d
  induction d with
  | zero =>
    intro u L mx my e1 e2 hP hN hl hM
    have eu : u = (m : Int) + 1 := by omega
    obtain ⟨b1, b2, b3, b4⟩ := hC.at (u := m) (by omega) (by omega)
    unfold wq_M_lay_36
    have hin : ∀ p, (∃ v, -(m : Int) ≤ v ∧ v < u ∧ four g v p) ↔ (∃ v, -(m : Int) ≤ v ∧ v ≤ m ∧ four g v p) := fun p => ⟨fun ⟨v, a, b, c⟩ => ⟨v, a, by omega, c⟩, fun ⟨v, a, b, c⟩ => ⟨v, a, by omega, c⟩⟩
    refine ⟨fun _ => ?_, fun z => absurd (by rw [ti_lt, nI_toInt (by omega), iI_t (by omega) (by omega)]; omega) z⟩
    have em : nI m = iI (m : Int) := iI_nI m
    rw [em]
    refine M_over hC.2.1 (by omega) (by omega) b3 (fun w w1 w2 => ?_)
    have ew := b4 w w2
    have two : (2 : Int32).toInt = 2 := rfl
    have e2' : iI (m : Int) + 2 = iI ((m : Int) + 2) := by
      rw [← iI_of (iI (m : Int) + 2), ti_add (by rw [iI_t (by omega) (by omega), two]; omega) (by rw [iI_t (by omega) (by omega), two]; omega), iI_t (by omega) (by omega), two]
    rw [e2', nI_iI ew, iI_add1 (by omega) (by omega), iI_neg (by omega) (by omega), iI_sub1 (by omega) (by omega)]
    have heq : iI (g m) = iI ((m : Int) + 2) ↔ g m = (m : Int) + 2 := iI_inj (by omega) (by omega) (by omega) (by omega)
    refine ⟨fun z => h L mx my hP hN (fun p => ?_), fun z => ?_⟩
    · rw [hM p, hin p]
      exact ⟨fun w => Or.inl w, fun w => w.elim id (fun w => absurd (heq.mpr w.1) z)⟩
    · have hg := heq.mp z
      have l1 := addP_len L ((m : Int) + 1, (m : Int) + 1)
      have l2 := addP_len (addP L ((m : Int) + 1, (m : Int) + 1)) ((m : Int) + 1, -(m : Int) - 1)
      have l3 := addP_len (addP (addP L ((m : Int) + 1, (m : Int) + 1)) ((m : Int) + 1, -(m : Int) - 1)) (-(m : Int) - 1, (m : Int) + 1)
      refine M_point hP (by omega) (by omega) (by omega) (by omega) (by omega) (fun mx my hP => ?_)
      refine M_point hP (by omega) (by omega) (by omega) (by omega) (by omega) (fun mx my hP => ?_)
      refine M_point hP (by omega) (by omega) (by omega) (by omega) (by omega) (fun mx my hP => ?_)
      refine M_point hP (by omega) (by omega) (by omega) (by omega) (by omega) (fun mx my hP => ?_)
      refine h _ mx my hP (addP_nd (addP_nd (addP_nd (addP_nd hN)))) (fun p => ?_)
      rw [addP_mem, addP_mem, addP_mem, addP_mem, hM p, hin p]
      constructor
      · rintro ((((w | w) | w) | w) | w)
        · exact Or.inl w
        · exact Or.inr ⟨hg, Or.inl w⟩
        · exact Or.inr ⟨hg, Or.inr (Or.inl w)⟩
        · exact Or.inr ⟨hg, Or.inr (Or.inr (Or.inl w))⟩
        · exact Or.inr ⟨hg, Or.inr (Or.inr (Or.inr w))⟩
      · rintro (w | ⟨_, w | w | w | w⟩)
        · exact Or.inl (Or.inl (Or.inl (Or.inl w)))
        · exact Or.inl (Or.inl (Or.inl (Or.inr w)))
        · exact Or.inl (Or.inl (Or.inr w))
        · exact Or.inl (Or.inr w)
        · exact Or.inr w
  | succ d ih =>
    intro u L mx my e1 e2 hP hN hl hM
    obtain ⟨b1, b2, b3, b4⟩ := hC.at (u := u) (by omega) (by omega)
    unfold wq_M_lay_36
    refine ⟨fun z => absurd z (by rw [ti_lt, nI_toInt (by omega), iI_t (by omega) (by omega)]; omega), fun _ => ?_⟩
    refine M_over hC.2.1 (by omega) (by omega) b3 (fun w w1 w2 => ?_)
    have ew := b4 w w2
    rw [nI_iI ew, iI_neg (by omega) (by omega)]
    have l1 := addP_len L (u, g u)
    have l2 := addP_len (addP L (u, g u)) (u, -g u)
    have l3 := addP_len (addP (addP L (u, g u)) (u, -g u)) (g u, u)
    have l4 := addP_len (addP (addP (addP L (u, g u)) (u, -g u)) (g u, u)) (-g u, u)
    refine M_point hP (by omega) (by omega) (by omega) (by omega) (by omega) (fun mx my hP => ?_)
    refine M_point hP (by omega) (by omega) (by omega) (by omega) (by omega) (fun mx my hP => ?_)
    refine M_point hP (by omega) (by omega) (by omega) (by omega) (by omega) (fun mx my hP => ?_)
    refine M_point hP (by omega) (by omega) (by omega) (by omega) (by omega) (fun mx my hP => ?_)
    rw [iI_add1 (by omega) (by omega)]
    refine ih (u + 1) _ mx my (by omega) (by omega) hP (addP_nd (addP_nd (addP_nd (addP_nd hN)))) (by omega) (fun p => ?_)
    rw [addP_mem, addP_mem, addP_mem, addP_mem, hM p]
    constructor
    · rintro ((((⟨v, v1, v2, v3⟩ | w) | w) | w) | w)
      · exact ⟨v, v1, by omega, v3⟩
      · exact ⟨u, e2, by omega, Or.inl w⟩
      · exact ⟨u, e2, by omega, Or.inr (Or.inl w)⟩
      · exact ⟨u, e2, by omega, Or.inr (Or.inr (Or.inl w))⟩
      · exact ⟨u, e2, by omega, Or.inr (Or.inr (Or.inr w))⟩
    · rintro ⟨v, v1, v2, v3⟩
      by_cases q : v = u
      · subst q
        rcases v3 with w | w | w | w
        · exact Or.inl (Or.inl (Or.inl (Or.inr w)))
        · exact Or.inl (Or.inl (Or.inr w))
        · exact Or.inl (Or.inr w)
        · exact Or.inr w
      · exact Or.inl (Or.inl (Or.inl (Or.inl ⟨v, v1, by omega, v3⟩)))
theorem M_lay {m_points : Int32} {mx my : Nat → Int32} (hC : CircN R m g) (h : ∀ L mx' my', Pts L mx' my' → L.Nodup → (∀ p, p ∈ L ↔ InC m g p) → Q (nI L.length) mx' my') : wp_M_lay (nI R) m_points mx my Q := by
  have hm := hC.2.2.1
  have hR := hC.2.1
  have c1 : 2 * (m * m) ≤ R := by
    have := hC.1.2.2.1
    have s3 : ((m * m : Nat) : Int) = (m : Int) * m := by push_cast; rfl
    omega
  have c2 : R < 2 * ((m + 1) * (m + 1)) := by
    have := hC.1.2.2.2.1
    have s3 : (((m + 1) * (m + 1) : Nat) : Int) = ((m : Int) + 1) * ((m : Int) + 1) := by push_cast; rfl
    omega
  have G : ∀ (d u k : Nat), u + d = 300 → k ≤ u → 2 * (k * k) ≤ R → (∀ v, v < u → 2 * (v * v) ≤ R → v ≤ k) → wq_M_lay_9 Q (d + 1) (nI R) (nI k) (nI u) 0 mx my := by
    intro d
    induction d with
    | zero =>
      intro u k e1 e2 e3 e4
      unfold wq_M_lay_9
      refine pk_le 300 u (fun _ => ?_) (fun z => absurd z (by omega)) (by decide) rfl (by omega) (by omega)
      have a1 := e4 m (by omega) c1
      have a2 : k ≤ m := by
        rcases Nat.lt_or_ge m k with q | q
        · have : (m + 1) * (m + 1) ≤ k * k := Nat.mul_le_mul q q
          omega
        · exact q
      have ek : k = m := by omega
      subst ek
      have en : -nI k = iI (-(k : Int)) := by rw [iI_nI, iI_neg (by omega) (by omega)]
      rw [en]
      refine ⟨2 * k + 1 + 1, M_lay36 hC h (2 * k + 1) (-(k : Int)) [] mx my (by omega) (by omega) ⟨by simp, fun p hp => by simp at hp, fun j hj => by simp at hj⟩ (by simp) (by simp; omega) (fun p => ⟨fun w => by simp at w, fun ⟨v, v1, v2, _⟩ => by omega⟩)⟩
    | succ d ih =>
      intro u k e1 e2 e3 e4
      unfold wq_M_lay_9 wq_M_lay_27
      have e7 : ((2 : Int32) * nI u) * nI u = nI (2 * (u * u)) := by
        rw [show (2 : Int32) = nI 2 from rfl, pk_mul, pk_mul, Nat.mul_assoc]
      have b : u * u ≤ 300 * 300 := Nat.mul_le_mul (by omega) (by omega)
      rw [e7, nI_add1]
      refine pk_le 300 u (fun z => absurd z (by omega)) (fun _ => pk_lt R (2 * (u * u)) (fun y => ih (u + 1) k (by omega) (by omega) e3 (fun v hv hv2 => ?_)) (fun y => ih (u + 1) u (by omega) (by omega) y (fun v hv _ => by omega)) rfl rfl (by omega) (by omega)) (by decide) rfl (by omega) (by omega)
      by_cases q : v = u
      · subst q; omega
      · exact e4 v (by omega) hv2
  exact ⟨301, G 300 0 0 rfl (Nat.le_refl _) (by omega) (fun v hv => absurd hv (by omega))⟩
end ML
