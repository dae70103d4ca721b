/-! the class's circle -/
/-- w is the rounded root of t -/
def IsWn (t w : Nat) : Prop := 4 * t < (2 * w + 1) * (2 * w + 1) ∧ (w = 0 ∨ (2 * w - 1) * (2 * w - 1) ≤ 4 * t)
theorem IsWn.int {t w : Nat} (h : IsWn t w) : IsW t w := by
  refine ⟨by omega, ?_, ?_⟩
  · have := h.1
    have e : ((4 * t : Nat) : Int) < (((2 * w + 1) * (2 * w + 1) : Nat) : Int) := Int.ofNat_lt.mpr this
    push_cast at e
    exact e
  · rcases h.2 with q | q
    · exact Or.inl (by omega)
    · rcases Nat.eq_zero_or_pos w with z | z
      · exact Or.inl (by omega)
      · right
        have e : (((2 * w - 1) * (2 * w - 1) : Nat) : Int) ≤ ((4 * t : Nat) : Int) := Int.ofNat_le.mpr q
        have e2 : ((2 * w - 1 : Nat) : Int) = 2 * (w : Int) - 1 := by omega
        rw [Int.natCast_mul, e2] at e
        push_cast at e
        exact e
theorem n2w1 (w : Nat) : (2 : Int32) * nI w + 1 = nI (2 * w + 1) := by
  rw [show (2 : Int32) = nI 2 from rfl, pk_mul, nI_add1]
theorem A_radius {Q : Int32 → Prop} {R : Nat} (hR : R ≤ 500000000) (h : ∀ w : Nat, w ≤ 201 → (∀ v, v < w → (2 * v + 1) * (2 * v + 1) ≤ 4 * R) → (w ≤ 200 → 4 * R < (2 * w + 1) * (2 * w + 1)) → Q (nI w)) : wp_A_radius (nI R) Q := by
  have L : ∀ (d w : Nat), w + d = 201 → (∀ v, v < w → (2 * v + 1) * (2 * v + 1) ≤ 4 * R) → wq_A_radius_2 Q (d + 1) (nI R) (nI w) := by
    intro d
    induction d with
    | zero =>
      intro w e hw
      unfold wq_A_radius_2
      exact pk_lt 200 w (fun _ => h w (by omega) hw (fun z => by omega)) (fun z => absurd z (by omega)) (by decide) rfl (by omega) (by omega)
    | succ d ih =>
      intro w e hw
      unfold wq_A_radius_2
      have b : (2 * w + 1) * (2 * w + 1) ≤ 401 * 401 := Nat.mul_le_mul (by omega) (by omega)
      rw [n2w1, pk_mul, show (4 : Int32) = nI 4 from rfl, pk_mul]
      refine pk_lt 200 w (fun z => absurd z (by omega)) (fun _ => pk_lt (4 * R) ((2 * w + 1) * (2 * w + 1)) (fun y => h w (by omega) hw (fun _ => y)) (fun y => ?_) rfl rfl (by omega) (by omega)) (by decide) rfl (by omega) (by omega)
      rw [nI_add1]
      refine ih (w + 1) (by omega) (fun v hv => ?_)
      by_cases q : v = w
      · rw [q]; exact y
      · exact hw v (by omega)
  exact ⟨202, L 201 0 rfl (fun v hv => absurd hv (by omega))⟩
/-- the row of reaches that lay makes -/
def Rch (R m : Nat) (f : Nat → Int32) (wm : Nat) : Prop := 2 * (m * m) ≤ R ∧ R < 2 * ((m + 1) * (m + 1)) ∧ (∀ u, u ≤ m → ∃ w : Nat, w ≤ 200 ∧ f u = nI w ∧ IsWn (R - u * u) w) ∧ f (m + 1) = nI (m + 1) ∧ f m = nI wm ∧ IsWn (R - m * m) wm ∧ m ≤ 141 ∧ wm ≤ 200
theorem IsWn.zero {t : Nat} (h : IsWn t 0) : t = 0 := by
  have := h.1
  omega
section AL
variable {Q : Int32 → Int32 → Int32 → Int32 → (Nat → Int32) → Prop} {cx cy : Int32} {R : Nat}
theorem A_lay {r_centreX r_centreY r_diagonal r_side : Int32} {ar : Nat → Int32} (hR : 1 ≤ R) (hR2 : R ≤ 40200) (h : ∀ (m wm : Nat) (f : Nat → Int32), Rch R m f wm → Q cx cy (nI m) (nI (m + wm)) f) : wp_A_lay cx cy (nI R) r_centreX r_centreY r_diagonal r_side ar Q := by
  unfold wp_A_lay
  refine A_radius (by omega) (fun w0 w1 w2 w3 => ?_)
  have w4 : w0 ≤ 200 := by
    rcases Nat.lt_or_ge 200 w0 with z | z
    · have := w2 200 z
      omega
    · exact z
  have sq : ∀ a b : Nat, a ≤ b → a * a ≤ b * b := fun a b q => Nat.mul_le_mul q q
  -- the inner loop: down to the root
  have inner : ∀ (K24 : Int32 → Int32 → Int32 → Int32 → Int32 → Int32 → Int32 → (Nat → Int32) → Prop) (u : Nat) (dg : Int32) (ar : Nat → Int32), u * u ≤ R → u ≤ 200 → (∀ w : Nat, w ≤ 200 → IsWn (R - u * u) w → K24 (nI R) (nI w) (nI (u + 1)) cx cy (nI u) r_side (upd ar u (nI w))) → ∀ (w : Nat), w ≤ 200 → 4 * (R - u * u) < (2 * w + 1) * (2 * w + 1) → wq_A_lay_43 Q K24 (w + 1) (nI R) (nI w) (nI u) cx cy dg r_side ar := by
    intro K24 u dg ar hu hu2 hk w
    have hlay : ∀ w : Nat, w ≤ 200 → IsWn (R - u * u) w → wq_A_lay_79 Q K24 (nI R) (nI w) (nI u) cx cy dg r_side ar := by
      intro w hw1 hw2
      unfold wq_A_lay_79
      rw [nI_add1, nI_clamp (by omega)]
      exact ⟨vp_in_nI (by omega) (by omega), hk w hw1 hw2⟩
    induction w with
    | zero =>
      intro hw1 hw2
      unfold wq_A_lay_43
      exact ⟨fun _ => hlay 0 (by omega) ⟨hw2, Or.inl rfl⟩, fun z => absurd (by decide) z⟩
    | succ w ih =>
      intro hw1 hw2
      unfold wq_A_lay_43
      have e1 : (2 : Int32) * nI (w + 1) - 1 = nI (2 * w + 1) := by
        rw [show (2 : Int32) = nI 2 from rfl, pk_mul, show (1 : Int32) = nI 1 from rfl, pk_sub (by omega)]
        congr 1
      have e2 : (4 : Int32) * (nI R - nI u * nI u) = nI (4 * (R - u * u)) := by
        rw [pk_mul, pk_sub hu, show (4 : Int32) = nI 4 from rfl, pk_mul]
      have b : (2 * w + 1) * (2 * w + 1) ≤ 401 * 401 := Nat.mul_le_mul (by omega) (by omega)
      rw [e1, e2, pk_mul]
      refine ⟨fun z => absurd z (nI_nle (by omega) (by omega)), fun _ => pk_le ((2 * w + 1) * (2 * w + 1)) (4 * (R - u * u)) (fun y => hlay (w + 1) hw1 ⟨hw2, Or.inr (by rw [(by omega : 2 * (w + 1) - 1 = 2 * w + 1)]; exact y)⟩) (fun y => ?_) rfl rfl (by omega) (by omega)⟩
      rw [pk_m1]
      exact ih (by omega) y
  -- the outer loop
  have L : ∀ (d u w : Nat) (f : Nat → Int32), u + d = 143 → 2 * (u * u) ≤ R ∨ u ≥ 1 → w ≤ 200 → (u ≥ 1 → 2 * ((u - 1) * (u - 1)) ≤ R ∧ f (u - 1) = nI w ∧ IsWn (R - (u - 1) * (u - 1)) w) → (u = 0 → 4 * R < (2 * w + 1) * (2 * w + 1)) → (∀ v, v < u → ∃ z : Nat, z ≤ 200 ∧ f v = nI z ∧ IsWn (R - v * v) z) → wq_A_lay_24 Q (d + 1) (nI R) (nI w) (nI u) cx cy (nI (u - 1)) r_side f := by
    intro d
    induction d with
    | zero =>
      intro u w f e1 e2 e3 e4 e5 e6
      exfalso
      have := (e4 (by omega)).1
      have e : u - 1 = 142 := by omega
      rw [e] at this
      omega
    | succ d ih =>
      intro u w f e1 e2 e3 e4 e5 e6
      have e7 : ((2 : Int32) * nI u) * nI u = nI (2 * (u * u)) := by
        rw [show (2 : Int32) = nI 2 from rfl, pk_mul, pk_mul, Nat.mul_assoc]
      have b : u * u ≤ 142 * 142 := sq u 142 (by omega)
      unfold wq_A_lay_24
      rw [e7]
      refine pk_lt 200 u (fun z => absurd z (by omega)) (fun _ => pk_lt R (2 * (u * u)) (fun y => ?_) (fun y => ?_) rfl rfl (by omega) (by omega)) (by decide) rfl (by omega) (by omega)
      · have hu : u ≥ 1 := by
          rcases e2 with q | q
          · omega
          · exact q
        obtain ⟨a1, a2, a3⟩ := e4 hu
        unfold wq_A_lay_100
        have hum : u - 1 + 1 = u := by omega
        have hw1 : 1 ≤ u - 1 + w := by
          rcases Nat.eq_zero_or_pos (u - 1) with q | q
          · rcases Nat.eq_zero_or_pos w with q2 | q2
            · rw [q2] at a3
              have := a3.zero
              rw [q] at this
              omega
            · omega
          · omega
        refine ⟨vp_in_nI (by omega) (by omega), ?_⟩
        rw [nI_clamp (by omega), a2, nI_add, nI_add1, hum, nI_clamp (by omega)]
        unfold wp_Jm_max
        have fin : Q cx cy (nI (u - 1)) (nI (u - 1 + w)) (upd f u (nI u)) := by
          refine h (u - 1) w _ ⟨a1, by rw [hum]; exact y, fun v hv => ?_, by rw [hum, pk_us], by rw [pk_un (by omega)]; exact a2, a3, by omega, e3⟩
          rw [pk_un (by omega)]
          exact e6 v (by omega)
        have hin : vp_in (nI u) 202 := vp_in_nI (by omega) (by omega)
        refine pk_lt 1 (u - 1 + w) (fun z => ⟨hin, fin⟩) (fun z => ⟨hin, ?_⟩) (by decide) rfl (by omega) (by omega)
        rw [(by omega : u - 1 + w = 1)] at fin
        exact fin
      · refine ⟨w + 1, inner _ u (nI (u - 1)) f (by omega) (by omega) (fun w' c1 c2 => ?_) w e3 ?_⟩
        · have := ih (u + 1) w' (upd f u (nI w')) (by omega) (Or.inr (by omega)) c1 (fun _ => ⟨by rw [Nat.add_sub_cancel]; exact y, by rw [Nat.add_sub_cancel, pk_us], by rw [Nat.add_sub_cancel]; exact c2⟩) (fun z => by omega) (fun v hv => by
            by_cases q : v = u
            · rw [q, pk_us]; exact ⟨w', c1, rfl, c2⟩
            · rw [pk_un q]; exact e6 v (by omega))
          rw [Nat.add_sub_cancel] at this
          exact this
        · rcases Nat.eq_zero_or_pos u with q | q
          · have := e5 q
            rw [q]
            omega
          · obtain ⟨a1, a2, a3⟩ := e4 q
            have := a3.1
            have s2 := sq (u - 1) u (by omega)
            omega
  exact ⟨144, L 143 0 w0 ar rfl (Or.inl (by omega)) w4 (fun z => by omega) (fun _ => w3 w4) (fun v hv => absurd hv (by omega))⟩
end AL
/-! the points by their numbers -/
def gA (f : Nat → Int32) (v : Int) : Int := (f v.natAbs).toInt
theorem Rch.circ {R m wm : Nat} {f : Nat → Int32} (hR : 1 ≤ R) (h : Rch R m f wm) : Circ R m (gA f) ∧ cs_s m (gA f) = m + wm ∧ gA f m = wm := by
  obtain ⟨h1, h2, h3, h4, h5, h6, h7, h8⟩ := h
  have e5 : gA f m = wm := by
    show (f (m : Int).natAbs).toInt = wm
    rw [Int.natAbs_natCast, h5, nI_toInt (by omega)]
  refine ⟨⟨by omega, by omega, ?_, ?_, fun u hu hum => ?_, fun u => ?_, ?_⟩, ?_, e5⟩
  · have : ((2 * (m * m) : Nat) : Int) ≤ (R : Int) := Int.ofNat_le.mpr h1
    push_cast at this
    exact this
  · have : (R : Int) < ((2 * ((m + 1) * (m + 1)) : Nat) : Int) := Int.ofNat_lt.mpr h2
    push_cast at this
    exact this
  · obtain ⟨n, rfl⟩ := Int.eq_ofNat_of_zero_le hu
    have hn : n ≤ m := by omega
    obtain ⟨w, w1, w2, w3⟩ := h3 n hn
    have e : gA f n = w := by
      show (f (n : Int).natAbs).toInt = w
      rw [Int.natAbs_natCast, w2, nI_toInt (by omega)]
    have hs : n * n ≤ R := by
      have := Nat.mul_le_mul hn hn
      omega
    have := w3.int
    rw [Int.ofNat_sub hs] at this
    push_cast at this
    rw [e]
    exact this
  · show (f (-u).natAbs).toInt = (f u.natAbs).toInt
    rw [Int.natAbs_neg]
  · show (f ((m : Int) + 1).natAbs).toInt = (m : Int) + 1
    have : ((m : Int) + 1).natAbs = m + 1 := by omega
    rw [this, h4, nI_toInt (by omega)]
    omega
  · unfold cs_s
    rw [e5]
section AX
variable {R m wm : Nat} {f : Nat → Int32}
theorem A_reach {Q : Int32 → Prop} {v : Int} (hv1 : -201 ≤ v) (hv2 : v ≤ 201) (h : Q (f v.natAbs)) : wp_A_reachAt (iI v) f Q := by
  have ev := iI_t (x := v) (by omega) (by omega)
  have zero : (0 : Int32).toInt = 0 := rfl
  have core : wq_A_reachAt_10 Q f (nI v.natAbs) := by
    unfold wq_A_reachAt_10
    refine ⟨fun z => absurd z (nI_pos (by omega)), fun _ => pk_le 202 v.natAbs (fun z => absurd z (by omega)) (fun _ => ⟨vp_in_nI (by omega) (by omega), ?_⟩) (by decide) rfl (by omega) (by omega)⟩
    rw [nI_clamp (by omega)]
    exact h
  unfold wp_A_reachAt
  refine ⟨fun z => ?_, fun z => ?_⟩
  · rw [ti_le, zero, ev] at z
    have e : iI v = nI v.natAbs := by rw [iI_nI]; congr 1; omega
    rw [e]; exact core
  · rw [ti_le, zero, ev] at z
    have e : -iI v = nI v.natAbs := by
      rw [← iI_of (-iI v), ti_neg (by rw [ev]; omega), ev, iI_nI]; congr 1; omega
    rw [e]; exact core
theorem em4 {s K : Int} (hs : 1 ≤ s) : ∃ i j : Int, K = s * i + j ∧ 0 ≤ j ∧ j < s ∧ K % (4 * s) = s * (i % 4) + j := by
  obtain ⟨i, j, e, h0, h1⟩ := cs_ij hs K
  refine ⟨i, j, e, h0, h1, ?_⟩
  have hi := Int.emod_nonneg i (by decide : (4 : Int) ≠ 0)
  have hi4 := Int.emod_lt_of_pos i (by decide : (0 : Int) < 4)
  have hd := Int.mul_ediv_add_emod i 4
  have b0 : 0 ≤ s * (i % 4) := Int.mul_nonneg (by omega) hi
  have b1 : s * (i % 4) ≤ s * 3 := Int.mul_le_mul_of_nonneg_left (by omega) (by omega)
  refine ((Int.ediv_emod_unique (a := K) (b := 4 * s) (r := s * (i % 4) + j) (q := i / 4) (by omega)).mpr ⟨?_, by omega, by omega⟩).2
  rw [e]
  have : s * i = s * (4 * (i / 4) + i % 4) := by rw [hd]
  rw [this]
  grind
theorem A_xOf {Q : Int32 → Prop} {K : Int} (hR : 1 ≤ R) (hC : Rch R m f wm) (hK1 : -1000000 ≤ K) (hK2 : K ≤ 1000000) (h : Q (iI (cP m (gA f) K).1)) : wp_A_xOf (iI K) (nI m) (nI (m + wm)) f Q := by
  obtain ⟨hc, hs, hw⟩ := hC.circ hR
  have hm := hC.2.2.2.2.2.2.1
  have hwm := hC.2.2.2.2.2.2.2
  have sp := hc.s_pos
  rw [hs] at sp
  obtain ⟨i, j, e, j0, j1, em⟩ := em4 (s := ((m + wm : Nat) : Int)) (K := K) (by omega)
  have hi := Int.emod_nonneg i (by decide : (4 : Int) ≠ 0)
  have hi4 := Int.emod_lt_of_pos i (by decide : (0 : Int) < 4)
  have hcP : cP m (gA f) K = pt (gA f) (i % 4) (j - m) := by
    have := cP_at (m := (m : Int)) (g := gA f) (i := i) (j := j) j0 (by rw [hs]; omega)
    rw [hs] at this
    rw [← this, e]
    congr 1
  rw [hcP] at h
  have e4 : (4 : Int32) * nI (m + wm) = nI (4 * (m + wm)) := by rw [show (4 : Int32) = nI 4 from rfl, pk_mul]
  have t4 : (nI (4 * (m + wm))).toInt = 4 * ((m + wm : Nat) : Int) := by rw [nI_toInt (by omega)]; omega
  unfold wp_A_xOf
  rw [e4]
  refine Jm_fm (by rw [t4]; omega) ?_
  rw [t4, iI_t (by omega) (by omega), em]
  have b0 : 0 ≤ ((m + wm : Nat) : Int) * (i % 4) := Int.mul_nonneg (by omega) hi
  have b1 : ((m + wm : Nat) : Int) * (i % 4) ≤ ((m + wm : Nat) : Int) * 3 := Int.mul_le_mul_of_nonneg_left (by omega) (by omega)
  have ts : (nI (m + wm)).toInt = ((m + wm : Nat) : Int) := nI_toInt (by omega)
  have tr : (iI (((m + wm : Nat) : Int) * (i % 4) + j)).toInt = ((m + wm : Nat) : Int) * (i % 4) + j := iI_t (by omega) (by omega)
  have dm := cs_dm (s := ((m + wm : Nat) : Int)) (i := i % 4) (j := j) j0 j1
  have eq : iI (((m + wm : Nat) : Int) * (i % 4) + j) / nI (m + wm) = iI (i % 4) := by
    rw [← iI_of (_ / _), ti_div (by rw [ts]; omega), tr, ts, Int.tdiv_eq_ediv_of_nonneg (by omega), dm.1]
  have t3 : (iI (i % 4)).toInt = i % 4 := iI_t (by omega) (by omega)
  have ev : iI (((m + wm : Nat) : Int) * (i % 4) + j) - iI (i % 4) * nI (m + wm) - nI m = iI (j - m) := by
    have tm : (iI (i % 4) * nI (m + wm)).toInt = ((m + wm : Nat) : Int) * (i % 4) := by
      rw [ti_mul (by rw [t3, ts, Int.mul_comm]; omega) (by rw [t3, ts, Int.mul_comm]; omega), t3, ts, Int.mul_comm]
    have tj : (iI (((m + wm : Nat) : Int) * (i % 4) + j) - iI (i % 4) * nI (m + wm)).toInt = j := by
      rw [ti_sub (by rw [tr, tm]; omega) (by rw [tr, tm]; omega), tr, tm]; omega
    have tmm : (nI m).toInt = m := nI_toInt (by omega)
    rw [← iI_of (_ - nI m), ti_sub (by rw [tj, tmm]; omega) (by rw [tj, tmm]; omega), tj, tmm]
  rw [eq, ev]
  have ns : ¬ nI (m + wm) = 0 := nI_ne0 (by omega) (by omega)
  have ne : ∀ k : Int, 0 ≤ k → k < 4 → (iI (i % 4) = iI k ↔ i % 4 = k) := fun k k0 k4 => ⟨fun z => by have := congrArg Int32.toInt z; rw [t3, iI_t (by omega) (by omega)] at this; exact this, fun z => by rw [z]⟩
  have gr : gA f (j - m) = (f (j - m).natAbs).toInt := rfl
  have nv : -iI (j - m) = iI (-(j - m)) := by
    rw [← iI_of (-iI (j - m)), ti_neg (by rw [iI_t (by omega) (by omega)]; omega), iI_t (by omega) (by omega)]
  refine ⟨ns, ns, fun z => ?_, fun z0 => ⟨fun z => ?_, fun z1 => ⟨fun z => ?_, fun z2 => ?_⟩⟩⟩
  · have q := (ne 0 (by omega) (by omega)).mp z
    refine A_reach (by omega) (by omega) ?_
    rw [q] at h
    have e1 : (pt (gA f) 0 (j - m)).1 = gA f (j - m) := rfl
    rw [e1, gr, iI_of] at h
    exact h
  · have q := (ne 1 (by omega) (by omega)).mp z
    rw [q] at h
    have e1 : (pt (gA f) 1 (j - m)).1 = -(j - m) := rfl
    rw [e1, ← nv] at h
    exact h
  · have q := (ne 2 (by omega) (by omega)).mp z
    refine A_reach (by omega) (by omega) ?_
    rw [q] at h
    have e1 : (pt (gA f) 2 (j - m)).1 = -gA f (j - m) := rfl
    rw [e1, gr] at h
    have hg := hc.g_pos (v := j - m) (by omega) (by rw [hw]; omega)
    rw [gr] at hg
    have e2 : -f (j - m).natAbs = iI (-(f (j - m).natAbs).toInt) := by
      rw [← iI_of (-f (j - m).natAbs), ti_neg (by omega)]
    rw [e2]
    exact h
  · have q : i % 4 = 3 := by
      have q0 : ¬ i % 4 = 0 := fun w => z0 ((ne 0 (by omega) (by omega)).mpr w)
      have q1 : ¬ i % 4 = 1 := fun w => z1 ((ne 1 (by omega) (by omega)).mpr w)
      have q2 : ¬ i % 4 = 2 := fun w => z2 ((ne 2 (by omega) (by omega)).mpr w)
      omega
    rw [q] at h
    have e1 : (pt (gA f) 3 (j - m)).1 = j - m := rfl
    rw [e1] at h
    exact h
end AX
