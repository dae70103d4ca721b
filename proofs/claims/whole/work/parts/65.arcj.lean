section AY
variable {R m : Int} {g : Int → Int}
theorem pt_back (q q' v : Int) (hq : 0 ≤ q) (hq4 : q < 4) (h : q' = q - 1 ∨ q' = q + 3) (h0 : 0 ≤ q') (h4 : q' < 4) : (pt g q' v).1 = (pt g q v).2 ∧ (pt g q' v).2 = -(pt g q v).1 := by
  rcases (by omega : (q = 0 ∧ q' = 3) ∨ (q = 1 ∧ q' = 0) ∨ (q = 2 ∧ q' = 1) ∨ (q = 3 ∧ q' = 2)) with ⟨rfl, rfl⟩ | ⟨rfl, rfl⟩ | ⟨rfl, rfl⟩ | ⟨rfl, rfl⟩ <;> simp [pt]
/-- a quarter turn back -/
theorem Circ.back (h : Circ R m g) (k : Int) : (cP m g (k - cs_s m g)).1 = (cP m g k).2 ∧ (cP m g (k - cs_s m g)).2 = -(cP m g k).1 := by
  obtain ⟨i, j, rfl, h0, h1⟩ := cs_ij h.s_pos k
  have e : cs_s m g * i + j - cs_s m g = cs_s m g * (i - 1) + j := by grind
  rw [e, cP_at h0 h1, cP_at h0 h1]
  exact pt_back _ _ _ (by omega) (by omega) (by omega) (by omega) (by omega)
theorem Circ.perN (h : Circ R m g) (k : Int) (z : Nat) : cP m g (k + 4 * cs_s m g * z) = cP m g k := by
  induction z with
  | zero => simp
  | succ z ih =>
    have e : k + 4 * cs_s m g * ((z + 1 : Nat) : Int) = (k + 4 * cs_s m g * z) + 4 * cs_s m g := by
      push_cast
      grind
    rw [e, h.per, ih]
theorem Circ.perZ (h : Circ R m g) (k z : Int) : cP m g (k + 4 * cs_s m g * z) = cP m g k := by
  rcases Int.lt_or_le z 0 with q | q
  · obtain ⟨n, hn⟩ := Int.eq_ofNat_of_zero_le (a := -z) (by omega)
    have := h.perN (k + 4 * cs_s m g * z) n
    rw [← this]
    congr 1
    have : z = -(n : Int) := by omega
    rw [this]
    grind
  · obtain ⟨n, rfl⟩ := Int.eq_ofNat_of_zero_le q
    exact h.perN k n
theorem Circ.eqP (h : Circ R m g) {a b : Int} (ha0 : 0 ≤ a) (ha : a < 4 * cs_s m g) (hb0 : 0 ≤ b) (hb : b < 4 * cs_s m g) (e : cP m g a = cP m g b) : a = b := by
  rcases Int.lt_trichotomy a b with q | q | q
  · exact absurd e (h.ne q (by omega))
  · exact q
  · exact absurd e.symm (h.ne q (by omega))
end AY
theorem pt_val (g : Int → Int) (q v : Int) : (pt g q v).1 = g v ∨ (pt g q v).1 = -v ∨ (pt g q v).1 = -g v ∨ (pt g q v).1 = v := by
  unfold pt
  split
  · exact Or.inl rfl
  · split
    · exact Or.inr (Or.inl rfl)
    · split
      · exact Or.inr (Or.inr (Or.inl rfl))
      · exact Or.inr (Or.inr (Or.inr rfl))
theorem gA_le {R m wm : Nat} {f : Nat → Int32} (hC : Rch R m f wm) {v : Int} (h1 : -(m : Int) ≤ v) (h2 : v ≤ m + 1) : 0 ≤ gA f v ∧ gA f v ≤ 200 := by
  obtain ⟨c1, c2, c3, c4, c5, c6, c7, c8⟩ := hC
  show 0 ≤ (f v.natAbs).toInt ∧ (f v.natAbs).toInt ≤ 200
  rcases (by omega : v.natAbs ≤ m ∨ v.natAbs = m + 1) with q | q
  · obtain ⟨w, w1, w2, _⟩ := c3 _ q
    rw [w2, nI_toInt (by omega)]
    omega
  · rw [q, c4, nI_toInt (by omega)]
    omega
theorem A_reachY {Q : Int32 → Prop} {f : Nat → Int32} {y : Int32} (hv1 : -201 ≤ y.toInt) (hv2 : y.toInt ≤ 201) (h : Q (f y.toInt.natAbs)) : wp_A_reachAt y f Q := by
  have := A_reach (Q := Q) (f := f) (v := y.toInt) hv1 hv2 h
  rwa [iI_of] at this
section AZ
variable {R m wm : Nat} {f : Nat → Int32}
theorem A_numOf {Q : Int32 → Prop} {K : Int} {px py : Int32} (hR : 1 ≤ R) (hC : Rch R m f wm) (h0 : 0 ≤ K) (h1 : K < 4 * ((m + wm : Nat) : Int)) (hp : cP m (gA f) K = (px.toInt, py.toInt)) (h : Q (iI K)) : wp_A_numberOf px py (nI m) (nI (m + wm)) f Q := by
  obtain ⟨hc, hs, hw⟩ := hC.circ hR
  have hm := hC.2.2.2.2.2.2.1
  have hwm := hC.2.2.2.2.2.2.2
  have sp := hc.s_pos
  rw [hs] at sp
  have cs : cs_s m (gA f) = ((m + wm : Nat) : Int) := by rw [hs]; omega
  have tmm : (nI m).toInt = m := nI_toInt (by omega)
  have ts : (nI (m + wm)).toInt = ((m + wm : Nat) : Int) := nI_toInt (by omega)
  have tnm : (-nI m).toInt = -(m : Int) := by rw [ti_neg (by rw [tmm]; omega), tmm]
  have tsm : (nI (m + wm) - nI m).toInt = wm := by rw [ti_sub (by rw [tmm, ts]; omega) (by rw [tmm, ts]; omega), tmm, ts]; omega
  -- at quarter q the point is turned back q times
  have L : ∀ (d q : Nat) (x y : Int32), q + d = 4 → q * ((m + wm : Nat) : Int) ≤ K → cP m (gA f) (K - q * ((m + wm : Nat) : Int)) = (x.toInt, y.toInt) → wq_A_numberOf_8 Q (nI m) (nI (m + wm)) f (d + 1) x y (nI q) := by
    intro d
    induction d with
    | zero =>
      intro q x y e1 e2 e3
      exfalso
      have : q = 4 := by omega
      subst this
      push_cast at e2
      omega
    | succ d ih =>
      intro q x y e1 e2 e3
      obtain ⟨i, j, ek, j0, j1⟩ := cs_ij (s := ((m + wm : Nat) : Int)) (by omega) (K - q * ((m + wm : Nat) : Int))
      have hcP : cP m (gA f) (K - q * ((m + wm : Nat) : Int)) = pt (gA f) (i % 4) (j - m) := by
        have := cP_at (m := (m : Int)) (g := gA f) (i := i) (j := j) j0 (by rw [cs]; omega)
        rw [cs] at this
        rw [ek, this]
      have i0 : 0 ≤ i := by
        rcases Int.lt_or_le i 0 with z | z
        · have : ((m + wm : Nat) : Int) * i ≤ ((m + wm : Nat) : Int) * (-1) := Int.mul_le_mul_of_nonneg_left (by omega) (by omega)
          omega
        · exact z
      have i4 : i < 4 := by
        rcases Int.lt_or_le i 4 with z | z
        · exact z
        · have : ((m + wm : Nat) : Int) * 4 ≤ ((m + wm : Nat) : Int) * i := Int.mul_le_mul_of_nonneg_left z (by omega)
          have q0 : 0 ≤ (q : Int) * ((m + wm : Nat) : Int) := Int.mul_nonneg (by omega) (by omega)
          omega
      -- the next quarter
      have nxt : 1 ≤ i → wq_A_numberOf_76 Q (fun x3 x4 x5 => wq_A_numberOf_8 Q (nI m) (nI (m + wm)) f (d + 1) x3 x4 x5) (nI m) (nI (m + wm)) f x y (nI q) := by
        intro hi
        unfold wq_A_numberOf_76
        rw [nI_add1]
        have b : ((m + wm : Nat) : Int) * 1 ≤ ((m + wm : Nat) : Int) * i := Int.mul_le_mul_of_nonneg_left hi (by omega)
        have eq1 : ((q + 1 : Nat) : Int) * ((m + wm : Nat) : Int) = q * ((m + wm : Nat) : Int) + ((m + wm : Nat) : Int) := by
          push_cast
          rw [Int.add_mul, Int.one_mul]
        have bk := hc.back (K - q * ((m + wm : Nat) : Int))
        rw [cs, e3] at bk
        have xb := Int32.le_toInt x
        have hx : -1000000 < x.toInt := by
          have : x.toInt = (pt (gA f) (i % 4) (j - m)).1 := by rw [← hcP, e3]
          have hg := hc.mono (u := 0) (v := 0) (by omega) (by omega) (by omega)
          rcases pt_val (gA f) (i % 4) (j - m) with w | w | w | w
          · rw [w] at this; have := gA_le hC (v := j - m) (by omega) (by have := hc.gm; rw [hw] at this; omega); omega
          · rw [w] at this; omega
          · rw [w] at this; have := gA_le hC (v := j - m) (by omega) (by have := hc.gm; rw [hw] at this; omega); omega
          · rw [w] at this; omega
        refine ih (q + 1) y (-x) (by omega) (by rw [eq1]; omega) ?_
        rw [eq1, ← Int.sub_sub, ti_neg (by omega)]
        exact Prod.ext bk.1 bk.2
      unfold wq_A_numberOf_8
      refine pk_le 4 q (fun z => absurd z (by omega)) (fun _ => ?_) (by decide) rfl (by omega) (by omega)
      have exy : (x.toInt, y.toInt) = pt (gA f) (i % 4) (j - m) := by rw [← e3, hcP]
      -- on side 0 it is found
      have fnd : i = 0 → x.toInt = gA f (j - m) ∧ y.toInt = j - m := by
        intro hi
        rw [hi] at exy
        exact ⟨congrArg Prod.fst exy, congrArg Prod.snd exy⟩
      refine ⟨fun z => ?_, fun z => ⟨fun y1 => ?_, fun y1 => ?_⟩⟩
      · unfold wq_A_numberOf_42 wq_A_numberOf_43
        rw [ti_lt, tnm] at z
        refine ⟨fun _ => nxt ?_, fun w => absurd rfl w⟩
        rcases Int.lt_or_le i 1 with w | w
        · have := (fnd (by omega)).2; omega
        · exact w
      · unfold wq_A_numberOf_42 wq_A_numberOf_43
        rw [ti_le, tsm] at y1
        refine ⟨fun _ => nxt ?_, fun w => absurd rfl w⟩
        rcases Int.lt_or_le i 1 with w | w
        · have := (fnd (by omega)).2; omega
        · exact w
      · rw [ti_lt, tnm] at z
        rw [ti_le, tsm] at y1
        unfold wq_A_numberOf_43
        refine ⟨fun w => absurd w (by decide), fun _ => ?_⟩
        refine A_reachY (by omega) (by omega) ⟨fun w => nxt ?_, fun w => ?_⟩
        · rcases Int.lt_or_le i 1 with u | u
          · exfalso
            obtain ⟨a1, a2⟩ := fnd (by omega)
            rw [a2] at w
            exact w (ti_eq (by rw [a1]; rfl))
          · exact u
        · -- the point is on side 0: its number is along + m
          have hk : cP m (gA f) (y.toInt + m) = (x.toInt, y.toInt) := by
            have := cP_at (m := (m : Int)) (g := gA f) (i := 0) (j := y.toInt + m) (by omega) (by rw [cs]; omega)
            rw [Int.mul_zero, Int.zero_add] at this
            rw [this]
            have e5 : y.toInt + m - m = y.toInt := by omega
            rw [e5]
            have e6 : x.toInt = gA f y.toInt := by rw [w]; rfl
            rw [e6]
            rfl
          have q0 : 0 ≤ (q : Int) * ((m + wm : Nat) : Int) := Int.mul_nonneg (by omega) (by omega)
          have := hc.eqP (a := y.toInt + m) (b := K - q * ((m + wm : Nat) : Int)) (by omega) (by rw [cs]; omega) (by omega) (by rw [cs]; omega) (by rw [hk, e3])
          have tq : (nI q).toInt = q := nI_toInt (by omega)
          have q3 : (q : Int) * ((m + wm : Nat) : Int) ≤ K := e2
          have e7 : nI q * nI (m + wm) + y + nI m = iI K := by
            have t1 : (nI q * nI (m + wm)).toInt = q * ((m + wm : Nat) : Int) := by rw [ti_mul (by rw [tq, ts]; omega) (by rw [tq, ts]; omega), tq, ts]
            have t2 : (nI q * nI (m + wm) + y).toInt = q * ((m + wm : Nat) : Int) + y.toInt := by rw [ti_add (by rw [t1]; omega) (by rw [t1]; omega), t1]
            rw [← iI_of (_ + nI m), ti_add (by rw [t2, tmm]; omega) (by rw [t2, tmm]; omega), t2, tmm]
            congr 1
            omega
          rw [e7]
          exact h
  refine ⟨5, L 4 0 px py rfl (by simp; omega) ?_⟩
  simp
  exact hp
/-- how far the way goes: N pulses, from the point numbered F, turning by t -/
def ArcOK (m : Int) (g : Int → Int) (s t F N : Int) (a b c d : Int) : Prop := 0 ≤ F ∧ F < 4 * s ∧ cP m g F = (a, b) ∧ 1 ≤ N ∧ N ≤ 4 * s ∧ cP m g (F + t * N) = (c, d)
theorem A_join {Q : Int32 → Int32 → Int32 → Prop} {r_first r_turn r_size x1 x2 x3 x4 x5 : Int32} {K1 K2 : Int} (hR : 1 ≤ R) (hC : Rch R m f wm) (a0 : 0 ≤ K1) (a1 : K1 < 4 * ((m + wm : Nat) : Int)) (ap : cP m (gA f) K1 = (x1.toInt, x2.toInt)) (b0 : 0 ≤ K2) (b1 : K2 < 4 * ((m + wm : Nat) : Int)) (bp : cP m (gA f) K2 = (x3.toInt, x4.toInt))
    (h : ∀ (N : Nat), ArcOK m (gA f) ((m + wm : Nat) : Int) (if x5 = 0 then -1 else 1) K1 N x1.toInt x2.toInt x3.toInt x4.toInt → Q (iI K1) (if x5 = 0 then -1 else 1) (nI N)) : wp_A_join x1 x2 x3 x4 x5 (nI m) (nI (m + wm)) r_first r_turn r_size f Q := by
  obtain ⟨hc, hs, hw⟩ := hC.circ hR
  have hm := hC.2.2.2.2.2.2.1
  have hwm := hC.2.2.2.2.2.2.2
  have sp := hc.s_pos
  rw [hs] at sp
  have cs : cs_s m (gA f) = ((m + wm : Nat) : Int) := by rw [hs]; omega
  unfold wp_A_join
  refine A_numOf hR hC a0 a1 ap ?_
  have core : ∀ (t : Int32) (ti : Int), (ti = 1 ∨ ti = -1) → t.toInt = ti → (∀ N : Nat, ArcOK m (gA f) ((m + wm : Nat) : Int) ti K1 N x1.toInt x2.toInt x3.toInt x4.toInt → Q (iI K1) t (nI N)) → wq_A_join_21 Q (nI m) (nI (m + wm)) f x3 x4 t (iI K1) r_turn r_size := by
    intro t ti ht et hq
    unfold wq_A_join_21
    refine A_numOf hR hC b0 b1 bp ?_
    have e4 : (4 : Int32) * nI (m + wm) = nI (4 * (m + wm)) := by rw [show (4 : Int32) = nI 4 from rfl, pk_mul]
    have t4 : (nI (4 * (m + wm))).toInt = 4 * ((m + wm : Nat) : Int) := by rw [nI_toInt (by omega)]; omega
    have td : (iI K2 - iI K1).toInt = K2 - K1 := by rw [ti_sub (by rw [iI_t (by omega) (by omega), iI_t (by omega) (by omega)]; omega) (by rw [iI_t (by omega) (by omega), iI_t (by omega) (by omega)]; omega), iI_t (by omega) (by omega), iI_t (by omega) (by omega)]
    have bt : -4000 ≤ ti * (K2 - K1) ∧ ti * (K2 - K1) ≤ 4000 := by
      rcases ht with w | w <;> rw [w] <;> omega
    have tm : (t * (iI K2 - iI K1)).toInt = ti * (K2 - K1) := by rw [ti_mul (by rw [et, td]; omega) (by rw [et, td]; omega), et, td]
    rw [e4]
    refine Jm_fm (by rw [t4]; omega) ?_
    rw [tm, t4]
    have r0 := Int.emod_nonneg (ti * (K2 - K1)) (by omega : 4 * ((m + wm : Nat) : Int) ≠ 0)
    have r1 := Int.emod_lt_of_pos (ti * (K2 - K1)) (by omega : 0 < 4 * ((m + wm : Nat) : Int))
    have rd := Int.mul_ediv_add_emod (ti * (K2 - K1)) (4 * ((m + wm : Nat) : Int))
    generalize hr : (ti * (K2 - K1)) % (4 * ((m + wm : Nat) : Int)) = r at r0 r1 rd
    generalize hz : (ti * (K2 - K1)) / (4 * ((m + wm : Nat) : Int)) = z at rd
    have at_r : cP m (gA f) (K1 + ti * r) = (x3.toInt, x4.toInt) := by
      have e : K1 + ti * r = K2 + 4 * cs_s m (gA f) * (-(ti * z)) := by
        rw [cs]
        have e1 : ti * ti = 1 := by rcases ht with w | w <;> rw [w] <;> rfl
        have e2 : r = ti * (K2 - K1) - 4 * ((m + wm : Nat) : Int) * z := by omega
        rw [e2]
        have e3 : ti * (ti * (K2 - K1) - 4 * ((m + wm : Nat) : Int) * z) = (ti * ti) * (K2 - K1) - 4 * ((m + wm : Nat) : Int) * (ti * z) := by grind
        rw [e3, e1]
        grind
      rw [e, hc.perZ, bp]
    unfold wq_A_join_69
    have tr : (iI r).toInt = r := iI_t (by omega) (by omega)
    refine ⟨fun w => ?_, fun w => ?_⟩
    · have rn : ¬ r = 0 := fun u => w (by rw [u]; rfl)
      obtain ⟨n, rfl⟩ := Int.eq_ofNat_of_zero_le r0
      have := hq n ⟨a0, a1, ap, by omega, by omega, at_r⟩
      rw [iI_nI] at this
      exact this
    · have rz : r = 0 := by rw [← tr, w]; rfl
      refine hq (4 * (m + wm)) ⟨a0, a1, ap, by omega, by omega, ?_⟩
      rw [rz, Int.mul_zero, Int.add_zero] at at_r
      rw [← at_r]
      have e : K1 + ti * ((4 * (m + wm) : Nat) : Int) = K1 + 4 * cs_s m (gA f) * ti := by
        rw [cs]
        push_cast
        grind
      rw [e, hc.perZ]
  refine ⟨fun z => ?_, fun z => ?_⟩
  · simp only [if_pos z] at h
    exact core (-1) (-1) (Or.inr rfl) rfl (fun N hN => h N hN)
  · simp only [if_neg z] at h
    exact core 1 1 (Or.inl rfl) rfl (fun N hN => h N hN)
end AZ
