def pt (g : Int → Int) (q v : Int) : Int × Int := if q = 0 then (g v, v) else if q = 1 then (-v, g v) else if q = 2 then (-g v, -v) else (v, -g v)
def cr (a b : Int × Int) : Int := a.1 * b.2 - a.2 * b.1
/-- the points, numbered counterclockwise -/
def cP (m : Int) (g : Int → Int) (k : Int) : Int × Int := pt g (k / cs_s m g % 4) (k % cs_s m g - m)
section CP
variable {R m : Int} {g : Int → Int}
theorem Circ.s_pos (h : Circ R m g) : 1 ≤ cs_s m g := by
  have := h.pos (u := m) h.2.1 (Int.le_refl m)
  have := h.2.1
  unfold cs_s
  omega
theorem cs_dm {s i j : Int} (h0 : 0 ≤ j) (h1 : j < s) : (s * i + j) / s = i ∧ (s * i + j) % s = j := by
  have hs : s ≠ 0 := by omega
  constructor
  · rw [Int.add_comm, Int.add_mul_ediv_left j i hs, Int.ediv_eq_zero_of_lt h0 h1]
    omega
  · rw [Int.add_comm, Int.add_mul_emod_self_left, Int.emod_eq_of_lt h0 h1]
theorem cP_at {i j : Int} (h0 : 0 ≤ j) (h1 : j < cs_s m g) : cP m g (cs_s m g * i + j) = pt g (i % 4) (j - m) := by
  unfold cP
  rw [(cs_dm h0 h1).1, (cs_dm h0 h1).2]
theorem cs_ij {s : Int} (hs : 1 ≤ s) (k : Int) : ∃ i j : Int, k = s * i + j ∧ 0 ≤ j ∧ j < s :=
  ⟨k / s, k % s, (Int.mul_ediv_add_emod k s).symm, Int.emod_nonneg k (by omega), Int.emod_lt_of_pos k (by omega)⟩
theorem cr_pt0 (q v v' : Int) (hq : 0 ≤ q) (hq4 : q < 4) : cr (pt g q v) (pt g q v') = g v * v' - v * g v' := by
  rcases (by omega : q = 0 ∨ q = 1 ∨ q = 2 ∨ q = 3) with rfl | rfl | rfl | rfl <;> simp [pt, cr] <;> grind
theorem cr_pt1 (q q' v v' : Int) (hq : 0 ≤ q) (hq4 : q < 4) (h : q' = q + 1 ∨ q' = q - 3) (h' : 0 ≤ q') (h4' : q' < 4) : cr (pt g q v) (pt g q' v') = g v * g v' + v * v' := by
  rcases (by omega : (q = 0 ∧ q' = 1) ∨ (q = 1 ∧ q' = 2) ∨ (q = 2 ∧ q' = 3) ∨ (q = 3 ∧ q' = 0)) with ⟨rfl, rfl⟩ | ⟨rfl, rfl⟩ | ⟨rfl, rfl⟩ | ⟨rfl, rfl⟩ <;> simp [pt, cr] <;> grind
theorem pt2 (q q' v : Int) (hq : 0 ≤ q) (hq4 : q < 4) (h : q' = q + 2 ∨ q' = q - 2) (h' : 0 ≤ q') (h4' : q' < 4) : pt g q' v = (-(pt g q v).1, -(pt g q v).2) := by
  rcases (by omega : (q = 0 ∧ q' = 2) ∨ (q = 1 ∧ q' = 3) ∨ (q = 2 ∧ q' = 0) ∨ (q = 3 ∧ q' = 1)) with ⟨rfl, rfl⟩ | ⟨rfl, rfl⟩ | ⟨rfl, rfl⟩ | ⟨rfl, rfl⟩ <;> simp [pt]
theorem cr_neg (a b : Int × Int) : cr a (-b.1, -b.2) = - cr a b := by
  simp [cr]; grind
theorem Circ.half (h : Circ R m g) (k : Int) : cP m g (k + 2 * cs_s m g) = (-(cP m g k).1, -(cP m g k).2) := by
  obtain ⟨i, j, rfl, h0, h1⟩ := cs_ij h.s_pos k
  have e : cs_s m g * i + j + 2 * cs_s m g = cs_s m g * (i + 2) + j := by grind
  rw [e, cP_at h0 h1, cP_at h0 h1]
  exact pt2 _ _ _ (by omega) (by omega) (by omega) (by omega) (by omega)
theorem Circ.per (h : Circ R m g) (k : Int) : cP m g (k + 4 * cs_s m g) = cP m g k := by
  have e : k + 4 * cs_s m g = k + 2 * cs_s m g + 2 * cs_s m g := by omega
  rw [e, h.half, h.half]
  simp
/-- the order of the directions: less than half a turn on, the cross product is positive -/
theorem Circ.ord (h : Circ R m g) {a b : Int} (h0 : a < b) (h2 : b < a + 2 * cs_s m g) : 0 < cr (cP m g a) (cP m g b) := by
  have hs := h.s_pos
  obtain ⟨i, j, rfl, a0, a1⟩ := cs_ij hs a
  obtain ⟨i', j', rfl, b0, b1⟩ := cs_ij hs b
  rw [cP_at a0 a1, cP_at b0 b1]
  have es : cs_s m g = m + g m := rfl
  generalize cs_s m g = s at *
  have k1 : s * (-1) < s * (i' - i) := by
    have e : s * (i' - i) = s * i' - s * i := by grind
    omega
  have k2 : s * (i' - i) < s * 3 := by
    have e : s * (i' - i) = s * i' - s * i := by grind
    omega
  have d1 : -1 < i' - i := Int.lt_of_mul_lt_mul_left k1 (by omega)
  have d2 : i' - i < 3 := Int.lt_of_mul_lt_mul_left k2 (by omega)
  rcases (by omega : i' = i ∨ i' = i + 1 ∨ i' = i + 2) with rfl | rfl | rfl
  · rw [cr_pt0 _ _ _ (by omega) (by omega)]
    exact h.c0 (by omega) (by omega) (by omega)
  · rw [cr_pt1 _ _ _ _ (by omega) (by omega) (by omega) (by omega) (by omega)]
    exact h.c1 (by omega) (by omega) (by omega) (by omega)
  · rw [pt2 (i % 4) ((i + 2) % 4) _ (by omega) (by omega) (by omega) (by omega) (by omega), cr_neg, cr_pt0 _ _ _ (by omega) (by omega)]
    have e : s * (i + 2) = s * i + 2 * s := by grind
    have := h.c0 (v := j' - m) (v' := j - m) (by omega) (by omega) (by omega)
    have e1 : g (j - m) * (j' - m) - (j - m) * g (j' - m) = - (g (j' - m) * (j - m) - (j' - m) * g (j - m)) := by grind
    omega
theorem Circ.ordN (h : Circ R m g) {a b : Int} (h0 : a + 2 * cs_s m g < b) (h2 : b < a + 4 * cs_s m g) : cr (cP m g a) (cP m g b) < 0 := by
  have e : cP m g b = (-(cP m g (b - 2 * cs_s m g)).1, -(cP m g (b - 2 * cs_s m g)).2) := by
    rw [← h.half]
    congr 1
    omega
  rw [e, cr_neg]
  have := h.ord (a := a) (b := b - 2 * cs_s m g) (by omega) (by omega)
  omega
theorem Circ.ordZ (h : Circ R m g) (a : Int) : cr (cP m g a) (cP m g (a + 2 * cs_s m g)) = 0 := by
  rw [h.half, cr_neg]
  simp [cr]
  grind
theorem Circ.ne (h : Circ R m g) {a b : Int} (h0 : a < b) (h2 : b < a + 4 * cs_s m g) : cP m g a ≠ cP m g b := by
  intro e
  have hs := h.s_pos
  have z : cr (cP m g b) (cP m g b) = 0 := by simp [cr]; grind
  rcases (by omega : b < a + 2 * cs_s m g ∨ b = a + 2 * cs_s m g ∨ a + 2 * cs_s m g < b) with q | q | q
  · have := h.ord h0 q
    rw [e] at this
    omega
  · have w1 := h.ord (a := a) (b := a + 1) (by omega) (by omega)
    have w2 := h.ordN (a := a + 1) (b := a + 1 + (2 * cs_s m g + (2 * cs_s m g - 1))) (by omega) (by omega)
    subst q
    rw [h.half] at e
    have e1 : (cP m g a).1 = -(cP m g a).1 := congrArg Prod.fst e
    have e2 : (cP m g a).2 = -(cP m g a).2 := congrArg Prod.snd e
    have z1 : (cP m g a).1 = 0 := by omega
    have z2 : (cP m g a).2 = 0 := by omega
    have w3 : cr (cP m g a) (cP m g (a + 1)) = 0 := by simp [cr, z1, z2]
    omega
  · have := h.ordN q h2
    rw [e] at this
    omega
end CP
theorem cr_anti (a b : Int × Int) : cr a b = - cr b a := by
  simp [cr]; grind
section BF
variable {R m : Int} {g : Int → Int} {t : Int}
theorem Circ.sg (h : Circ R m g) (ht : t = 1 ∨ t = -1) (e : Int) {d : Int} (h0 : 0 < d) (h1 : d < 2 * cs_s m g) : 0 < t * cr (cP m g e) (cP m g (e + t * d)) := by
  rcases ht with rfl | rfl
  · have := h.ord (a := e) (b := e + 1 * d) (by omega) (by omega)
    omega
  · have := h.ord (a := e + -1 * d) (b := e) (by omega) (by omega)
    rw [cr_anti] at this
    omega
theorem Circ.sgN (h : Circ R m g) (ht : t = 1 ∨ t = -1) (e : Int) {d : Int} (h0 : 2 * cs_s m g < d) (h1 : d < 4 * cs_s m g) : t * cr (cP m g e) (cP m g (e + t * d)) < 0 := by
  rcases ht with rfl | rfl
  · have := h.ordN (a := e) (b := e + 1 * d) (by omega) (by omega)
    omega
  · have := h.ordN (a := e + -1 * d) (b := e) (by omega) (by omega)
    rw [cr_anti] at this
    omega
theorem Circ.sgZ (h : Circ R m g) (ht : t = 1 ∨ t = -1) (e : Int) : t * cr (cP m g e) (cP m g (e + t * (2 * cs_s m g))) = 0 := by
  rcases ht with rfl | rfl
  · have e1 : e + 1 * (2 * cs_s m g) = e + 2 * cs_s m g := by omega
    rw [e1, h.ordZ]
    rfl
  · have e1 : cP m g e = cP m g (e + -1 * (2 * cs_s m g) + 2 * cs_s m g) := by congr 1; omega
    rw [cr_anti, e1, h.ordZ]
    rfl
def hf (t : Int) (c a : Int × Int) : Int := if 0 < t * cr c a then 0 else if t * cr c a < 0 then 2 else 1
def bf (t : Int) (c a b : Int × Int) : Prop := if hf t c a = hf t c b then 0 < t * cr a b else hf t c a < hf t c b
theorem Circ.hf_eq (h : Circ R m g) (ht : t = 1 ∨ t = -1) (e : Int) {d : Int} (h0 : 0 < d) (h1 : d < 4 * cs_s m g) : hf t (cP m g e) (cP m g (e + t * d)) = if d < 2 * cs_s m g then 0 else if d = 2 * cs_s m g then 1 else 2 := by
  unfold hf
  rcases (by omega : d < 2 * cs_s m g ∨ d = 2 * cs_s m g ∨ 2 * cs_s m g < d) with q | q | q
  · rw [if_pos (h.sg ht e h0 q), if_pos q]
  · subst q
    rw [h.sgZ ht e]
    simp
  · have := h.sgN ht e q h1
    rw [if_neg (by omega), if_pos this, if_neg (by omega), if_neg (by omega)]
theorem Circ.bf_iff (h : Circ R m g) (ht : t = 1 ∨ t = -1) (f : Int) {d d' : Int} (h0 : 0 < d) (h1 : d < 4 * cs_s m g) (h0' : 0 < d') (h1' : d' < 4 * cs_s m g) : bf t (cP m g f) (cP m g (f + t * d)) (cP m g (f + t * d')) ↔ d < d' := by
  unfold bf
  rw [h.hf_eq ht f h0 h1, h.hf_eq ht f h0' h1']
  have near : d < d' → d' < d + 2 * cs_s m g → 0 < t * cr (cP m g (f + t * d)) (cP m g (f + t * d')) := by
    intro q1 q2
    have := h.sg ht (f + t * d) (d := d' - d) (by omega) (by omega)
    have e : f + t * d + t * (d' - d) = f + t * d' := by grind
    rwa [e] at this
  have far : d' < d → d < d' + 2 * cs_s m g → t * cr (cP m g (f + t * d)) (cP m g (f + t * d')) < 0 := by
    intro q1 q2
    have := h.sg ht (f + t * d') (d := d - d') (by omega) (by omega)
    have e : f + t * d' + t * (d - d') = f + t * d := by grind
    rw [e, cr_anti] at this
    grind
  have same : d = d' → t * cr (cP m g (f + t * d)) (cP m g (f + t * d')) = 0 := by
    rintro rfl
    have : cr (cP m g (f + t * d)) (cP m g (f + t * d)) = 0 := by simp [cr]; grind
    rw [this]
    simp
  have hs := h.s_pos
  have core : d < d' + 2 * cs_s m g → d' < d + 2 * cs_s m g → (0 < t * cr (cP m g (f + t * d)) (cP m g (f + t * d')) ↔ d < d') := by
    intro q1 q2
    rcases Int.lt_trichotomy d d' with z | z | z
    · exact ⟨fun _ => z, fun _ => near z q2⟩
    · have := same z
      exact ⟨fun w => by omega, fun w => by omega⟩
    · have := far z q1
      exact ⟨fun w => by omega, fun w => by omega⟩
  have v : ∀ d : Int, ((if d < 2 * cs_s m g then (0 : Int) else if d = 2 * cs_s m g then 1 else 2) = 0 ∧ d < 2 * cs_s m g) ∨ ((if d < 2 * cs_s m g then (0 : Int) else if d = 2 * cs_s m g then 1 else 2) = 1 ∧ d = 2 * cs_s m g) ∨ ((if d < 2 * cs_s m g then (0 : Int) else if d = 2 * cs_s m g then 1 else 2) = 2 ∧ 2 * cs_s m g < d) := by
    intro d
    rcases (by omega : d < 2 * cs_s m g ∨ d = 2 * cs_s m g ∨ 2 * cs_s m g < d) with q | q | q
    · exact Or.inl ⟨if_pos q, q⟩
    · exact Or.inr (Or.inl ⟨by rw [if_neg (by omega), if_pos q], q⟩)
    · exact Or.inr (Or.inr ⟨by rw [if_neg (by omega), if_neg (by omega)], q⟩)
  rcases v d with ⟨e, q⟩ | ⟨e, q⟩ | ⟨e, q⟩ <;> rcases v d' with ⟨e', q'⟩ | ⟨e', q'⟩ | ⟨e', q'⟩ <;> rw [e, e']
  · rw [if_pos rfl]; exact core (by omega) (by omega)
  · rw [if_neg (by decide)]; exact ⟨fun _ => by omega, fun _ => by decide⟩
  · rw [if_neg (by decide)]; exact ⟨fun _ => by omega, fun _ => by decide⟩
  · rw [if_neg (by decide)]; exact ⟨fun w => absurd w (by decide), fun w => by omega⟩
  · rw [if_pos rfl]; exact core (by omega) (by omega)
  · rw [if_neg (by decide)]; exact ⟨fun _ => by omega, fun _ => by decide⟩
  · rw [if_neg (by decide)]; exact ⟨fun w => absurd w (by decide), fun w => by omega⟩
  · rw [if_neg (by decide)]; exact ⟨fun w => absurd w (by decide), fun w => by omega⟩
  · rw [if_pos rfl]; exact core (by omega) (by omega)
end BF
