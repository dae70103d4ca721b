/-! the reference's order of points: half, before, the limits, the count, the next point -/
theorem mul_500 {a b : Int} (a1 : -500 ≤ a) (a2 : a ≤ 500) (b1 : -500 ≤ b) (b2 : b ≤ 500) : -250000 ≤ a * b ∧ a * b ≤ 250000 := by
  have h : ∀ c d : Int, -500 ≤ c → c ≤ 500 → -500 ≤ d → d ≤ 500 → c * d ≤ 250000 := by
    intro c d c1 c2 d1 d2
    rcases Int.le_total 0 c with q | q
    · have k1 : c * d ≤ c * 500 := Int.mul_le_mul_of_nonneg_left d2 q
      omega
    · have k1 : (-c) * (-d) ≤ (-c) * 500 := Int.mul_le_mul_of_nonneg_left (by omega) (by omega)
      have e : -c * -d = c * d := Int.neg_mul_neg c d
      omega
  have h1 := h a b a1 a2 b1 b2
  have h2 := h (-a) b (by omega) (by omega) b1 b2
  have e : -a * b = -(a * b) := Int.neg_mul a b
  omega
def in5 (p : Int × Int) : Prop := -500 ≤ p.1 ∧ p.1 ≤ 500 ∧ -500 ≤ p.2 ∧ p.2 ≤ 500
theorem cr_t {t : Int} {c a : Int × Int} (ht : t = 1 ∨ t = -1) (hc : in5 c) (ha : in5 a) : (iI t * ((iI c.1 * iI a.2) - (iI c.2 * iI a.1))).toInt = t * cr c a := by
  obtain ⟨c1, c2, c3, c4⟩ := hc
  obtain ⟨a1, a2, a3, a4⟩ := ha
  have m1 := mul_500 c1 c2 a3 a4
  have m2 := mul_500 c3 c4 a1 a2
  have e1 : (iI c.1 * iI a.2).toInt = c.1 * a.2 := by
    rw [ti_mul (by rw [iI_t (by omega) (by omega), iI_t (by omega) (by omega)]; omega) (by rw [iI_t (by omega) (by omega), iI_t (by omega) (by omega)]; omega), iI_t (by omega) (by omega), iI_t (by omega) (by omega)]
  have e2 : (iI c.2 * iI a.1).toInt = c.2 * a.1 := by
    rw [ti_mul (by rw [iI_t (by omega) (by omega), iI_t (by omega) (by omega)]; omega) (by rw [iI_t (by omega) (by omega), iI_t (by omega) (by omega)]; omega), iI_t (by omega) (by omega), iI_t (by omega) (by omega)]
  have e3 : ((iI c.1 * iI a.2) - (iI c.2 * iI a.1)).toInt = cr c a := by
    rw [ti_sub (by rw [e1, e2]; omega) (by rw [e1, e2]; omega), e1, e2]; rfl
  have e4 : cr c a = c.1 * a.2 - c.2 * a.1 := rfl
  have et : (iI t).toInt = t := iI_t (by omega) (by omega)
  have b : -500000 ≤ t * cr c a ∧ t * cr c a ≤ 500000 := by
    rcases ht with rfl | rfl <;> omega
  rw [ti_mul (by rw [et, e3]; omega) (by rw [et, e3]; omega), et, e3]
theorem M_half {Q : Int32 → Prop} {t : Int} {c a : Int × Int} (ht : t = 1 ∨ t = -1) (hc : in5 c) (ha : in5 a) (h : Q (iI (hf t c a))) : wp_M_half (iI c.1) (iI c.2) (iI a.1) (iI a.2) (iI t) Q := by
  have e := cr_t ht hc ha
  have z0 : (0 : Int32).toInt = 0 := rfl
  unfold wp_M_half
  unfold hf at h
  refine ⟨fun y => ⟨fun w => ?_, fun w => ?_⟩, fun y => ?_⟩
  · rw [ti_le, e, z0] at y
    rw [ti_le, e, z0] at w
    rw [if_neg (by omega), if_neg (by omega)] at h
    exact h
  · rw [ti_le, e, z0] at y
    rw [ti_le, e, z0] at w
    rw [if_neg (by omega), if_pos (by omega)] at h
    exact h
  · rw [ti_le, e, z0] at y
    rw [if_pos (by omega)] at h
    exact h
theorem hf_in (t : Int) (c a : Int × Int) : 0 ≤ hf t c a ∧ hf t c a ≤ 2 := by
  unfold hf
  split
  · omega
  · split <;> omega
theorem M_before {Q : Int32 → Prop} {t : Int} {c a b : Int × Int} (ht : t = 1 ∨ t = -1) (hc : in5 c) (ha : in5 a) (hb : in5 b) (h1 : bf t c a b → Q 1) (h0 : ¬ bf t c a b → Q 0) : wp_M_before (iI c.1) (iI c.2) (iI a.1) (iI a.2) (iI b.1) (iI b.2) (iI t) Q := by
  have e := cr_t ht ha hb
  have z0 : (0 : Int32).toInt = 0 := rfl
  have k1 := hf_in t c a
  have k2 := hf_in t c b
  unfold wp_M_before
  refine M_half ht hc ha (M_half ht hc hb ?_)
  have q : iI (hf t c a) = iI (hf t c b) ↔ hf t c a = hf t c b := iI_inj (by omega) (by omega) (by omega) (by omega)
  unfold bf at h1 h0
  refine ⟨fun y => ⟨fun w => ?_, fun w => ?_⟩, fun y => ⟨fun w => ?_, fun w => ?_⟩⟩
  · rw [ti_le, e, z0] at w
    rw [if_pos (q.mp y)] at h0
    exact h0 (by omega)
  · rw [ti_le, e, z0] at w
    rw [if_pos (q.mp y)] at h1
    exact h1 (by omega)
  · rw [ti_le, iI_t (by omega) (by omega), iI_t (by omega) (by omega)] at w
    rw [if_neg (fun z => y (q.mpr z))] at h0
    exact h0 (by omega)
  · rw [ti_le, iI_t (by omega) (by omega), iI_t (by omega) (by omega)] at w
    rw [if_neg (fun z => y (q.mpr z))] at h1
    exact h1 (by omega)
theorem M_inL {Q : Int32 → Prop} {v : Int} (h1 : -100000 ≤ v) (h2 : v ≤ 100000) (hi : (-200 ≤ v ∧ v ≤ 200) → Q 1) (ho : ¬ (-200 ≤ v ∧ v ≤ 200) → Q 0) : wp_M_inLimits (iI v) Q := by
  have e1 : (-200 : Int32).toInt = -200 := by decide
  have e2 : (200 : Int32).toInt = 200 := by decide
  unfold wp_M_inLimits
  refine ⟨fun y => ?_, fun y => ⟨fun w => ?_, fun w => ?_⟩⟩
  · rw [ti_lt, iI_t (by omega) (by omega), e1] at y
    exact ho (by omega)
  · rw [ti_lt, iI_t (by omega) (by omega), e2] at w
    exact ho (by omega)
  · rw [ti_lt, iI_t (by omega) (by omega), e1] at y
    rw [ti_lt, iI_t (by omega) (by omega), e2] at w
    exact hi (by omega)
theorem Pts.in5 {L : List (Int × Int)} {mx my : Nat → Int32} (h : Pts L mx my) {k : Nat} (hk : k < L.length) : in5 (L.getD k (0, 0)) := h.2.1 _ (getD_mem hk)
section FR
variable {R m : Int} {g : Int → Int} {t : Int}
/-- every point, counted from a place F in the turn's sense -/
theorem Circ.from (h : Circ R m g) (ht : t = 1 ∨ t = -1) (F : Int) (p : Int × Int) : InC m g p ↔ ∃ d, 0 ≤ d ∧ d < 4 * cs_s m g ∧ cP m g (F + t * d) = p := by
  have sp := h.s_pos
  rw [h.all p]
  constructor
  · rintro ⟨k, k0, k1, rfl⟩
    refine ⟨(t * (k - F)) % (4 * cs_s m g), Int.emod_nonneg _ (by omega), Int.emod_lt_of_pos _ (by omega), ?_⟩
    have e := Int.mul_ediv_add_emod (t * (k - F)) (4 * cs_s m g)
    have e2 : (t * (k - F)) % (4 * cs_s m g) = t * (k - F) - 4 * cs_s m g * (t * (k - F) / (4 * cs_s m g)) := by omega
    rw [e2]
    have e3 : F + t * (t * (k - F) - 4 * cs_s m g * (t * (k - F) / (4 * cs_s m g))) = k + 4 * cs_s m g * (-t * (t * (k - F) / (4 * cs_s m g))) := by
      generalize t * (k - F) / (4 * cs_s m g) = z
      rcases ht with rfl | rfl <;> grind
    rw [e3, h.perZ]
  · rintro ⟨d, d0, d1, rfl⟩
    refine ⟨(F + t * d) % (4 * cs_s m g), Int.emod_nonneg _ (by omega), Int.emod_lt_of_pos _ (by omega), ?_⟩
    have e := Int.mul_ediv_add_emod (F + t * d) (4 * cs_s m g)
    have e2 : (F + t * d) % (4 * cs_s m g) = F + t * d + 4 * cs_s m g * (-((F + t * d) / (4 * cs_s m g))) := by
      have : 4 * cs_s m g * (-((F + t * d) / (4 * cs_s m g))) = -(4 * cs_s m g * ((F + t * d) / (4 * cs_s m g))) := Int.mul_neg _ _
      omega
    rw [e2, h.perZ]
theorem Circ.eqF (h : Circ R m g) (ht : t = 1 ∨ t = -1) (F : Int) {a b : Int} (ha0 : 0 ≤ a) (ha : a < 4 * cs_s m g) (hb0 : 0 ≤ b) (hb : b < 4 * cs_s m g) (e : cP m g (F + t * a) = cP m g (F + t * b)) : a = b := by
  have key : ∀ a b : Int, 0 ≤ a → b < 4 * cs_s m g → a < b → cP m g (F + t * a) ≠ cP m g (F + t * b) := by
    intro a b a0 b1 ab
    rcases ht with rfl | rfl
    · exact h.ne (by omega) (by omega)
    · exact (h.ne (a := F + -1 * b) (b := F + -1 * a) (by omega) (by omega)).symm
  rcases Int.lt_trichotomy a b with q | q | q
  · exact absurd e (key a b ha0 hb q)
  · exact q
  · exact absurd e.symm (key b a hb0 ha q)
end FR
