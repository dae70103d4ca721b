/-! the reference's arc -/
theorem iI_eqv {a b : Int} (a1 : -2147483648 ≤ a) (a2 : a < 2147483648) (b1 : -2147483648 ≤ b) (b2 : b < 2147483648) : iI a = iI b ↔ a = b :=
  ⟨fun z => by have := congrArg Int32.toInt z; rwa [iI_t a1 a2, iI_t b1 b2] at this, fun z => by rw [z]⟩
theorem iI_mulI {a b : Int} (a1 : -30000 ≤ a) (a2 : a ≤ 30000) (b1 : -30000 ≤ b) (b2 : b ≤ 30000) : iI a * iI b = iI (a * b) ∧ -900000000 ≤ a * b ∧ a * b ≤ 900000000 := by
  have h : ∀ c d : Int, -30000 ≤ c → c ≤ 30000 → -30000 ≤ d → d ≤ 30000 → c * d ≤ 900000000 := by
    intro c d c1 c2 d1 d2
    rcases Int.le_total 0 c with q | q
    · have k1 : c * d ≤ c * 30000 := Int.mul_le_mul_of_nonneg_left d2 q
      omega
    · have k1 : (-c) * (-d) ≤ (-c) * 30000 := Int.mul_le_mul_of_nonneg_left (by omega) (by omega)
      have e : -c * -d = c * d := Int.neg_mul_neg c d
      omega
  have h1 := h a b a1 a2 b1 b2
  have h2 := h (-a) b (by omega) (by omega) b1 b2
  have e : -a * b = -(a * b) := Int.neg_mul a b
  refine ⟨?_, by omega, by omega⟩
  rw [← iI_of (iI a * iI b), ti_mul (by rw [iI_t (by omega) (by omega), iI_t (by omega) (by omega)]; omega) (by rw [iI_t (by omega) (by omega), iI_t (by omega) (by omega)]; omega), iI_t (by omega) (by omega), iI_t (by omega) (by omega)]
theorem sq_0 (a : Int) : 0 ≤ a * a := by
  rcases Int.le_total 0 a with q | q
  · exact Int.mul_nonneg q q
  · have := Int.mul_nonneg (a := -a) (b := -a) (by omega) (by omega)
    have e : -a * -a = a * a := Int.neg_mul_neg a a
    omega
theorem sqs {a b : Int} (a1 : -30000 ≤ a) (a2 : a ≤ 30000) (b1 : -30000 ≤ b) (b2 : b ≤ 30000) : iI a * iI a + iI b * iI b = iI (a * a + b * b) ∧ 0 ≤ a * a + b * b ∧ a * a + b * b ≤ 1800000000 := by
  obtain ⟨e1, l1, u1⟩ := iI_mulI a1 a2 a1 a2
  obtain ⟨e2, l2, u2⟩ := iI_mulI b1 b2 b1 b2
  have z1 := sq_0 a
  have z2 := sq_0 b
  refine ⟨?_, by omega, by omega⟩
  rw [e1, e2, ← iI_of (iI (a * a) + iI (b * b)), ti_add (by rw [iI_t (by omega) (by omega), iI_t (by omega) (by omega)]; omega) (by rw [iI_t (by omega) (by omega), iI_t (by omega) (by omega)]; omega), iI_t (by omega) (by omega), iI_t (by omega) (by omega)]
theorem iI_subI {a b : Int} (a1 : -50000 ≤ a) (a2 : a ≤ 50000) (b1 : -50000 ≤ b) (b2 : b ≤ 50000) : iI a - iI b = iI (a - b) := by
  rw [← iI_of (iI a - iI b), ti_sub (by rw [iI_t (by omega) (by omega), iI_t (by omega) (by omega)]; omega) (by rw [iI_t (by omega) (by omega), iI_t (by omega) (by omega)]; omega), iI_t (by omega) (by omega), iI_t (by omega) (by omega)]
/-- the number that last() tells -/
def lst (a b : Int32 × Int32) : Int32 := ((((3 : Int32) * ((b.1 - a.1) + (1 : Int32))) + b.2) - a.2) + (1 : Int32)
/-- the reference's pulses go along pth -/
def MMv (N : Nat) (pth : Nat → Int32 × Int32) (m_kind m_fromX m_fromY m_wayX m_wayY m_points m_centreX m_centreY : Int32) (mx my : Nat → Int32) : Prop :=
  ∀ k, k < N → ∀ (Q : Int32 → Int32 → Int32 → Int32 → Int64 → Int32 → Prop) (m_pulses m_last : Int32) (m_time m_pause : Int64), Q (pth (k + 1)).1 (pth (k + 1)).2 (m_pulses + 1) (lst (pth k) (pth (k + 1))) (m_time + m_pause) (nI (k + 1)) → wp_M_pulse ((pth k).1) ((pth k).2) m_pulses m_last m_time m_pause m_kind (nI k) (nI N) m_fromX m_fromY m_wayX m_wayY m_points m_centreX m_centreY mx my Q
theorem sq_401 {a b : Int} (h : a * a + b * b ≤ 160801) : -401 ≤ a ∧ a ≤ 401 := by
  have z2 := sq_0 b
  constructor
  · rcases Int.lt_or_le a (-401) with q | q
    · have := sq_mono (a := 402) (b := -a) (by omega) (by omega)
      have e : -a * -a = a * a := Int.neg_mul_neg a a
      omega
    · exact q
  · rcases Int.lt_or_le 401 a with q | q
    · have := sq_mono (a := 402) (b := a) (by omega) (by omega)
      omega
    · exact q
theorem IsArc.in {R : Nat} {t a b c d cx cy : Int} {N : Nat} {pth : Nat → Int32 × Int32} (ht : t = 1 ∨ t = -1) (h : IsArc R t a b c d cx cy N pth) (hl : inL R cx cy) (k : Nat) : ∃ X Y : Int, pth k = (iI X, iI Y) ∧ -200 ≤ X ∧ X ≤ 200 ∧ -200 ≤ Y ∧ Y ≤ 200 := by
  obtain ⟨m, g, hc, F, ha, hp⟩ := h
  have sp := hc.s_pos
  have := (hc.lim cx cy).mp hl (cP m g (F + t * k)) ((hc.from ht (F + t * k) _).mpr ⟨0, by omega, by omega, by congr 1; omega⟩)
  exact ⟨_, _, hp k, this⟩
theorem M_arc {Q : Int32 → Int32 → Int32 → Int32 → Int32 → Int32 → Int32 → (Nat → Int32) → (Nat → Int32) → Prop} {m_mode m_kind m_made m_all m_points m_centreX m_centreY : Int32} {mx my : Nat → Int32} {x y i j gX gY t : Int} (x1 : -200 ≤ x) (x2 : x ≤ 200) (y1 : -200 ≤ y) (y2 : y ≤ 200) (i1 : -9999 ≤ i) (i2 : i ≤ 9999) (j1 : -9999 ≤ j) (j2 : j ≤ 9999) (gx1 : -10199 ≤ gX) (gx2 : gX ≤ 10199) (gy1 : -10199 ≤ gY) (gy2 : gY ≤ 10199)
    (ht : (m_mode = 2 ∧ t = -1) ∨ (¬ m_mode = 2 ∧ t = 1))
    (h6 : (i * i + j * j = 0 ∨ ¬ (gX - (x + i)) * (gX - (x + i)) + (gY - (y + j)) * (gY - (y + j)) = i * i + j * j) → ∀ po cX cY mx my, Q 106 m_kind m_made m_all po cX cY mx my)
    (h7 : ¬ i * i + j * j = 0 → (gX - (x + i)) * (gX - (x + i)) + (gY - (y + j)) * (gY - (y + j)) = i * i + j * j → ¬ inL (i * i + j * j).toNat (x + i) (y + j) → ∀ po cX cY mx my, Q 107 m_kind m_made m_all po cX cY mx my)
    (h0 : ¬ i * i + j * j = 0 → (gX - (x + i)) * (gX - (x + i)) + (gY - (y + j)) * (gY - (y + j)) = i * i + j * j → inL (i * i + j * j).toNat (x + i) (y + j) → ∀ (N : Nat) (pth : Nat → Int32 × Int32) po cX cY mx my, N ≤ 2400 → IsArc (i * i + j * j) t (-i) (-j) (gX - (x + i)) (gY - (y + j)) (x + i) (y + j) N pth → (∀ fX fY wX wY, MMv N pth (iI t) fX fY wX wY po cX cY mx my) → Q 0 (iI t) 0 (nI N) po cX cY mx my) :
    wp_M_arc (iI i) (iI j) (iI gX) (iI gY) (iI x) (iI y) m_mode m_kind m_made m_all m_points m_centreX m_centreY mx my Q := by
  have ht' : t = 1 ∨ t = -1 := by rcases ht with z | z <;> omega
  obtain ⟨e1, l1, u1⟩ := sqs (a := i) (b := j) (by omega) (by omega) (by omega) (by omega)
  obtain ⟨e2, l2, u2⟩ := sqs (a := gX - (x + i)) (b := gY - (y + j)) (by omega) (by omega) (by omega) (by omega)
  have e3 : iI x + iI i = iI (x + i) := iI_addI (by omega) (by omega) (by omega) (by omega)
  have e4 : iI y + iI j = iI (y + j) := iI_addI (by omega) (by omega) (by omega) (by omega)
  have e5 : iI gX - iI (x + i) = iI (gX - (x + i)) := iI_subI (by omega) (by omega) (by omega) (by omega)
  have e6 : iI gY - iI (y + j) = iI (gY - (y + j)) := iI_subI (by omega) (by omega) (by omega) (by omega)
  unfold wp_M_arc
  rw [e3, e4, e5, e6, e1, e2]
  have z0 : (0 : Int32) = iI 0 := rfl
  have zq : iI (i * i + j * j) = 0 ↔ i * i + j * j = 0 := by rw [z0]; exact iI_eqv (by omega) (by omega) (by omega) (by omega)
  refine ⟨fun z => h6 (Or.inl (zq.mp z)) _ _ _ _ _, fun z => ⟨fun hv => ⟨fun w => ?_, fun w => ?_⟩, fun hv => h6 (Or.inr (fun u => hv (by rw [u]))) _ _ _ _ _⟩⟩
  · have hz : ¬ i * i + j * j = 0 := fun u => z (zq.mpr u)
    have hy := (iI_eqv (by omega) (by omega) (by omega) (by omega)).mp hv
    have hw : i * i + j * j ≤ 160801 := by
      rw [ti_le, iI_t (by omega) (by omega), show (160801 : Int32).toInt = 160801 from by decide] at w
      exact w
    obtain ⟨R, hR⟩ := Int.eq_ofNat_of_zero_le l1
    obtain ⟨m, g, hC⟩ := CircN.mk (R := R) (by omega) (by omega)
    have hc := hC.1
    have eR : iI (i * i + j * j) = nI R := by rw [hR, iI_nI]
    rw [eR]
    have b1 := sq_401 (a := i) (b := j) hw
    have b2 := sq_401 (a := j) (b := i) (by omega)
    have b3 := sq_401 (a := gX - (x + i)) (b := gY - (y + j)) (by omega)
    have b4 := sq_401 (a := gY - (y + j)) (b := gX - (x + i)) (by omega)
    have eN : (i * i + j * j).toNat = R := by omega
    rw [eN] at h7 h0
    have neg_sq : -i * -i + -j * -j = (R : Int) := by
      rw [Int.neg_mul_neg, Int.neg_mul_neg]; exact hR
    obtain ⟨F, N, ha⟩ := hc.arc ht' neg_sq (hy.trans hR)
    obtain ⟨a1, a2, a3, a4, a5, a6⟩ := ha
    refine M_lay hC (fun L mx my hP hN hM => ?_)
    have hlim := hc.lim (x + i) (y + j)
    refine ⟨L.length + 1, M_lim hP (by omega) (by omega) (by omega) (by omega) (fun v => ?_) (fun v => h7 hz hy (fun u => v (fun p hp => hlim.mp u p ((hM p).mp hp))) _ _ _ _ _) L.length 0 (by omega) (fun j hj => absurd hj (by omega))⟩
    have hin : inL R (x + i) (y + j) := hlim.mpr (fun p hp => v p ((hM p).mpr hp))
    have cN : L.countP (cnb t (-i, -j) (gX - (x + i), gY - (y + j))) = N := by
      rw [← a3, ← a6]
      exact cnt_N hc ht' hN hM F (by omega) a5
    have NL : N ≤ L.length := by
      rw [← cN]; exact List.countP_le_length
    have hl := hP.1
    have done : Q 0 (iI t) 0 (nI N) (nI L.length) (iI (x + i)) (iI (y + j)) mx my := by
      refine h0 hz hy hin N (fun k => (iI (x + i + (cP m g (F + t * k)).1), iI (y + j + (cP m g (F + t * k)).2))) _ _ _ _ _ (by omega) ⟨m, g, by rw [hR]; exact hc, F, ⟨a1, a2, a3, a4, a5, a6⟩, fun k => rfl⟩ (fun fX fY wX wY k hk Q' m_pulses m_last m_time m_pause hQ => ?_)
      have sp := hc.s_pos
      have p5 : in5 (cP m g (F + t * k)) := hP.2.1 _ ((hM _).mpr ((hc.from ht' (F + t * k) _).mpr ⟨0, by omega, by omega, by congr 1; omega⟩))
      have p5' : in5 (cP m g (F + t * k + t)) := hP.2.1 _ ((hM _).mpr ((hc.from ht' (F + t * k + t) _).mpr ⟨0, by omega, by omega, by congr 1; omega⟩))
      unfold in5 at p5 p5'
      unfold wp_M_pulse
      have tk : ¬ iI t = 0 := by
        rw [z0, iI_eqv (by omega) (by omega) (by omega) (by omega)]
        omega
      refine ⟨fun _ => ⟨L.length + 1, ?_⟩, fun u => absurd u tk⟩
      dsimp only
      rw [iI_subI (by omega) (by omega) (by omega) (by omega), iI_subI (by omega) (by omega) (by omega) (by omega)]
      rw [show x + i + (cP m g (F + t * ↑k)).1 - (x + i) = (cP m g (F + t * ↑k)).1 by omega, show y + j + (cP m g (F + t * ↑k)).2 - (y + j) = (cP m g (F + t * ↑k)).2 by omega]
      refine M_next hc ht' hP hM (F + t * k) ?_ L.length 0 (-1) (by omega) (Or.inl ⟨rfl, fun j hj => absurd hj (by omega)⟩)
      unfold wq_M_pulse_254
      rw [nI_add1 k, iI_addI (by omega) (by omega) (by omega) (by omega), iI_addI (by omega) (by omega) (by omega) (by omega)]
      have ek : F + t * ((k + 1 : Nat) : Int) = F + t * k + t := by push_cast; grind
      dsimp only at hQ
      rw [ek] at hQ
      exact hQ
    have fin : wq_M_arc_157 Q (iI i) (iI j) (iI (gX - (x + i))) (iI (gY - (y + j))) (iI t) m_kind m_made m_all (nI L.length) (iI (x + i)) (iI (y + j)) mx my := by
      unfold wq_M_arc_157
      refine ⟨L.length + 1, M_cnt ht' hP ⟨by dsimp only; omega, by dsimp only; omega, by dsimp only; omega, by dsimp only; omega⟩ ⟨by dsimp only; omega, by dsimp only; omega, by dsimp only; omega, by dsimp only; omega⟩ L.length 0 0 (by omega) ?_⟩
      rw [List.drop_zero, cN, Nat.zero_add]
      exact done
    rcases ht with ⟨t1, t2⟩ | ⟨t1, t2⟩
    · refine ⟨fun u => absurd t1 u, fun _ => ?_⟩
      rw [t2] at fin
      exact fin
    · refine ⟨fun _ => ?_, fun u => absurd u t1⟩
      rw [t2] at fin
      exact fin
  · have hz : ¬ i * i + j * j = 0 := fun u => z (zq.mpr u)
    have hy := (iI_eqv (by omega) (by omega) (by omega) (by omega)).mp hv
    refine h7 hz hy (fun u => w ?_) _ _ _ _ _
    have := inL_le u
    rw [ti_le, iI_t (by omega) (by omega), show (160801 : Int32).toInt = 160801 from by decide]
    omega
