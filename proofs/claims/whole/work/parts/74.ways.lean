/-! the class's ways: what it walks after a start -/
def CMv (N : Nat) (pth : Nat → Int32 × Int32) (p_way : Bool) (s_startX s_startY s_dx s_dy s_size r_centreX r_centreY r_diagonal r_side r_first r_turn : Int32) (ar : Nat → Int32) : Prop :=
  ∀ k, k ≤ N → (p_way = true → (∀ Q : Int32 → Prop, Q (pth k).1 → wp_A_xAfter (nI k) r_centreX r_diagonal r_side r_first r_turn ar Q) ∧ (∀ Q : Int32 → Prop, Q (pth k).2 → wp_A_yAfter (nI k) r_centreY r_diagonal r_side r_first r_turn ar Q)) ∧ (p_way = false → (∀ Q : Int32 → Prop, Q (pth k).1 → wp_S_xAfter (nI k) s_startX s_dx s_size Q) ∧ (∀ Q : Int32 → Prop, Q (pth k).2 → wp_S_yAfter (nI k) s_startY s_dy s_size Q))
theorem P_out {Q : Int32 → Prop} {v : Int} (h1 : -100000 ≤ v) (h2 : v ≤ 100000) (hi : (-200 ≤ v ∧ v ≤ 200) → Q 0) (ho : ¬ (-200 ≤ v ∧ v ≤ 200) → Q 1) : wp_P_isOutside (iI v) Q := by
  have e1 : (-200 : Int32).toInt = -200 := by decide
  have e2 : (200 : Int32).toInt = 200 := by decide
  unfold wp_P_isOutside wq_P_isOutside_14
  refine ⟨fun y => ?_, fun y => ⟨fun w => ?_, fun w => ?_⟩⟩
  · rw [ti_lt, iI_t (by omega) (by omega), e1] at y
    exact ho (by omega)
  · rw [ti_lt, iI_t (by omega) (by omega), e1] at y
    rw [ti_le, iI_t (by omega) (by omega), e2] at w
    exact hi (by omega)
  · rw [ti_le, iI_t (by omega) (by omega), e2] at w
    exact ho (by omega)
theorem rad_in {R w : Nat} {cx cy : Int} (w1 : w ≤ 201) (w2 : ∀ v, v < w → (2 * v + 1) * (2 * v + 1) ≤ 4 * R) (w3 : w ≤ 200 → 4 * R < (2 * w + 1) * (2 * w + 1)) : inL R cx cy ↔ ((-200 ≤ cx - w ∧ cx - w ≤ 200) ∧ (-200 ≤ cx + w ∧ cx + w ≤ 200) ∧ (-200 ≤ cy - w ∧ cy - w ≤ 200) ∧ (-200 ≤ cy + w ∧ cy + w ≤ 200)) := by
  have wn : w ≤ 200 → IsWn R w := by
    intro z
    refine ⟨w3 z, ?_⟩
    rcases Nat.eq_zero_or_pos w with q | q
    · exact Or.inl q
    · right
      have := w2 (w - 1) (by omega)
      rw [show 2 * w - 1 = 2 * (w - 1) + 1 by omega]
      exact this
  constructor
  · rintro h
    have hR := inL_le h
    obtain ⟨w', a1, a2, a3, a4, a5⟩ := h
    have w200 : w ≤ 200 := by
      rcases Nat.lt_or_ge 200 w with q | q
      · have := w2 200 q
        omega
      · exact q
    have e := (wn w200).uniq a1
    subst e
    omega
  · rintro ⟨a, b, c, d⟩
    exact ⟨w, wn (by omega), by omega, by omega, by omega, by omega⟩
theorem P_arc {Q : Int32 → Bool → Int32 → Int32 → Int32 → Int32 → Int32 → Int32 → Int32 → Int32 → Int32 → (Nat → Int32) → Prop} {p_way : Bool} {p_done p_left p_motion s_size r_centreX r_centreY r_diagonal r_side r_first r_turn r_size : Int32} {wz wn ar : Nat → Int32} {x y i j gX gY t : Int} (x1 : -200 ≤ x) (x2 : x ≤ 200) (y1 : -200 ≤ y) (y2 : y ≤ 200) (i1 : -9999 ≤ i) (i2 : i ≤ 9999) (j1 : -9999 ≤ j) (j2 : j ≤ 9999) (gx1 : -10199 ≤ gX) (gx2 : gX ≤ 10199) (gy1 : -10199 ≤ gY) (gy2 : gY ≤ 10199)
    (hI : ∀ Q : Int32 → Prop, Q (iI i) → wp_W_number 4 wz wn Q) (hJ : ∀ Q : Int32 → Prop, Q (iI j) → wp_W_number 5 wz wn Q)
    (ht : (p_motion = 3 ∧ t = 1) ∨ (¬ p_motion = 3 ∧ t = -1))
    (h6 : (i * i + j * j = 0 ∨ ¬ (gX - (x + i)) * (gX - (x + i)) + (gY - (y + j)) * (gY - (y + j)) = i * i + j * j) → Q 106 p_way p_done p_left r_centreX r_centreY r_diagonal r_side r_first r_turn r_size ar)
    (h7 : ¬ i * i + j * j = 0 → (gX - (x + i)) * (gX - (x + i)) + (gY - (y + j)) * (gY - (y + j)) = i * i + j * j → ¬ inL (i * i + j * j).toNat (x + i) (y + j) → Q 107 p_way p_done p_left r_centreX r_centreY r_diagonal r_side r_first r_turn r_size ar)
    (h0 : ¬ i * i + j * j = 0 → (gX - (x + i)) * (gX - (x + i)) + (gY - (y + j)) * (gY - (y + j)) = i * i + j * j → inL (i * i + j * j).toNat (x + i) (y + j) → ∀ (N : Nat) (pth : Nat → Int32 × Int32) cX cY di si fi tu sz ar, IsArc (i * i + j * j) t (-i) (-j) (gX - (x + i)) (gY - (y + j)) (x + i) (y + j) N pth → (∀ sX sY dx dy ss, CMv N pth true sX sY dx dy ss cX cY di si fi tu ar) → Q 0 true 0 (nI N) cX cY di si fi tu sz ar) :
    wp_P_startArc (iI gX) (iI gY) p_way p_done p_left (iI x) (iI y) p_motion wz wn s_size r_centreX r_centreY r_diagonal r_side r_first r_turn r_size ar Q := by
  have ht' : t = 1 ∨ t = -1 := by rcases ht with z | z <;> omega
  obtain ⟨e1, l1, u1⟩ := sqs (a := i) (b := j) (by omega) (by omega) (by omega) (by omega)
  obtain ⟨e2, l2, u2⟩ := sqs (a := gX - (x + i)) (b := gY - (y + j)) (by omega) (by omega) (by omega) (by omega)
  have e3 : iI x + iI i = iI (x + i) := iI_addI (by omega) (by omega) (by omega) (by omega)
  have e4 : iI y + iI j = iI (y + j) := iI_addI (by omega) (by omega) (by omega) (by omega)
  have e5 : iI gX - iI (x + i) = iI (gX - (x + i)) := iI_subI (by omega) (by omega) (by omega) (by omega)
  have e6 : iI gY - iI (y + j) = iI (gY - (y + j)) := iI_subI (by omega) (by omega) (by omega) (by omega)
  have u9 : i * i + j * j ≤ 200000000 := by
    have k1 := sq_mono (a := (i.natAbs : Int)) (b := 9999) (by omega) (by omega)
    have k2 := sq_mono (a := (j.natAbs : Int)) (b := 9999) (by omega) (by omega)
    have e1 : (i.natAbs : Int) * (i.natAbs : Int) = i * i := by
      have := Int.natAbs_mul_self (a := i); push_cast at this; exact this
    have e2 : (j.natAbs : Int) * (j.natAbs : Int) = j * j := by
      have := Int.natAbs_mul_self (a := j); push_cast at this; exact this
    omega
  unfold wp_P_startArc
  refine hI _ (hJ _ ?_)
  rw [e3, e4, e5, e6, e1, e2]
  have z0 : (0 : Int32) = iI 0 := rfl
  have zq : iI (i * i + j * j) = 0 ↔ i * i + j * j = 0 := by rw [z0]; exact iI_eqv (by omega) (by omega) (by omega) (by omega)
  refine ⟨fun z => h6 (Or.inl (zq.mp z)), fun z => ⟨fun hv => ?_, fun hv => h6 (Or.inr (fun u => hv (by rw [u])))⟩⟩
  have hz : ¬ i * i + j * j = 0 := fun u => z (zq.mpr u)
  have hy := (iI_eqv (by omega) (by omega) (by omega) (by omega)).mp hv
  obtain ⟨R, hR⟩ := Int.eq_ofNat_of_zero_le l1
  have eR : iI (i * i + j * j) = nI R := by rw [hR, iI_nI]
  have eN : (i * i + j * j).toNat = R := by omega
  rw [eN] at h7 h0
  rw [eR]
  refine A_radius (by omega) (fun w w1 w2 w3 => ?_)
  have hin := rad_in (cx := x + i) (cy := y + j) w1 w2 w3
  have ew : nI w = iI (w : Int) := iI_nI w
  rw [ew, iI_subI (by omega) (by omega) (by omega) (by omega), iI_addI (by omega) (by omega) (by omega) (by omega), iI_subI (by omega) (by omega) (by omega) (by omega), iI_addI (by omega) (by omega) (by omega) (by omega)]
  have no : ¬ inL R (x + i) (y + j) → Q 107 p_way p_done p_left r_centreX r_centreY r_diagonal r_side r_first r_turn r_size ar := h7 hz hy
  refine P_out (by omega) (by omega) (fun q1 => ⟨fun v => absurd rfl v, fun _ => ?_⟩) (fun q1 => ⟨fun _ => no (fun v => q1 (hin.mp v).1), fun v => absurd v (by decide)⟩)
  refine P_out (by omega) (by omega) (fun q2 => ⟨fun v => absurd rfl v, fun _ => ?_⟩) (fun q2 => ⟨fun _ => no (fun v => q2 (hin.mp v).2.1), fun v => absurd v (by decide)⟩)
  refine P_out (by omega) (by omega) (fun q3 => ⟨fun v => absurd rfl v, fun _ => ?_⟩) (fun q3 => ⟨fun _ => no (fun v => q3 (hin.mp v).2.2.1), fun v => absurd v (by decide)⟩)
  refine P_out (by omega) (by omega) (fun q4 => ⟨fun _ => ?_, fun v => absurd rfl v⟩) (fun q4 => ⟨fun v => absurd v (by decide), fun _ => no (fun v => q4 (hin.mp v).2.2.2)⟩)
  have hl : inL R (x + i) (y + j) := hin.mpr ⟨q1, q2, q3, q4⟩
  have hR2 := inL_le hl
  refine A_lay (by omega) hR2 (fun m wm f hC => ?_)
  obtain ⟨hc, hs, hw⟩ := hC.circ (by omega)
  have hm := hC.2.2.2.2.2.2.1
  have hwm := hC.2.2.2.2.2.2.2
  have b1 := sq_401 (a := i) (b := j) (by omega)
  have b2 := sq_401 (a := j) (b := i) (by omega)
  have b3 := sq_401 (a := gX - (x + i)) (b := gY - (y + j)) (by omega)
  have b4 := sq_401 (a := gY - (y + j)) (b := gX - (x + i)) (by omega)
  have neg_sq : -i * -i + -j * -j = (R : Int) := by
    rw [Int.neg_mul_neg, Int.neg_mul_neg]; exact hR
  obtain ⟨K1, k10, k11, k12⟩ := (hc.all _).mp (hc.onC neg_sq)
  obtain ⟨K2, k20, k21, k22⟩ := (hc.all _).mp (hc.onC (hy.trans hR))
  have es : ((m + wm : Nat) : Int) = (m : Int) + wm := by push_cast; rfl
  rw [hs] at k11 k21
  have n1 : -iI i = iI (-i) := iI_neg (by omega) (by omega)
  have n2 : -iI j = iI (-j) := iI_neg (by omega) (by omega)
  rw [n1, n2]
  have fin : ∀ s5 : Int32, (if s5 = 0 then (-1 : Int) else 1) = t → (if s5 = 0 then (-1 : Int32) else 1) = iI t → wq_P_startArc_176 Q s_size (iI (-i)) (iI (-j)) (iI (gX - (x + i))) (iI (gY - (y + j))) s5 p_way p_done p_left (iI (x + i)) (iI (y + j)) (nI m) (nI (m + wm)) r_first r_turn r_size f := by
    intro s5 hs5 hs5'
    unfold wq_P_startArc_176
    refine A_join (K1 := K1) (K2 := K2) (by omega) hC k10 (by omega) (by rw [k12, iI_t (by omega) (by omega), iI_t (by omega) (by omega)]) k20 (by omega) (by rw [k22, iI_t (by omega) (by omega), iI_t (by omega) (by omega)]) (fun N hA => ?_)
    rw [iI_t (by omega) (by omega), iI_t (by omega) (by omega), iI_t (by omega) (by omega), iI_t (by omega) (by omega), hs5] at hA
    unfold wp_P_follow wp_A_size
    refine ⟨fun _ => ?_, fun v => absurd v (by decide)⟩
    rw [hs5']
    have hA' : ArcOK m (gA f) (cs_s m (gA f)) t K1 N (-i) (-j) (gX - (x + i)) (gY - (y + j)) := by
      rw [hs, ← es]; exact hA
    have aN := hA.2.2.2.2.1
    refine h0 hz hy hl N (fun k => (iI (x + i + (cP m (gA f) (K1 + t * k)).1), iI (y + j + (cP m (gA f) (K1 + t * k)).2))) _ _ _ _ _ _ _ _ ⟨m, gA f, by rw [hR]; exact hc, K1, hA', fun k => rfl⟩ (fun sX sY dx dy ss k hk => ⟨fun _ => ⟨fun Q' hQ => ?_, fun Q' hQ => ?_⟩, fun v => absurd v (by decide)⟩)
    all_goals
      have sp := hc.s_pos
      have inl := (hc.lim (x + i) (y + j)).mp hl (cP m (gA f) (K1 + t * k)) ((hc.from ht' (K1 + t * k) _).mpr ⟨0, by omega, by omega, by congr 1; omega⟩)
      unfold okP at inl
      have tk : -2000 ≤ t * (k : Int) ∧ t * (k : Int) ≤ 2000 := by rcases ht' with rfl | rfl <;> omega
      have ek : iI K1 + iI t * nI k = iI (K1 + t * k) := by
        rw [iI_nI, (iI_mulI (a := t) (b := (k : Int)) (by omega) (by omega) (by omega) (by omega)).1, iI_addI (by omega) (by omega) (by omega) (by omega)]
    · unfold wp_A_xAfter
      rw [ek]
      refine A_xOf (by omega) hC (by omega) (by omega) ?_
      rw [iI_addI (by omega) (by omega) (by omega) (by omega)]
      exact hQ
    · unfold wp_A_yAfter
      rw [ek, iI_nI (m + wm), iI_subI (by omega) (by omega) (by omega) (by omega), ← iI_nI (m + wm)]
      refine A_xOf (by omega) hC (by omega) (by omega) ?_
      have bk := (hc.back (K1 + t * k)).1
      rw [hs, ← es] at bk
      rw [bk]
      rw [iI_addI (by omega) (by omega) (by omega) (by omega)]
      exact hQ
  rcases ht with ⟨t1, t2⟩ | ⟨t1, t2⟩
  · refine ⟨fun u => absurd t1 u, fun _ => fin 1 (by rw [if_neg (by decide), t2]) (by rw [if_neg (by decide), t2]; rfl)⟩
  · refine ⟨fun _ => fin 0 (by rw [if_pos rfl, t2]) (by rw [if_pos rfl, t2]; rfl), fun u => absurd u t1⟩
