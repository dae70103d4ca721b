/-! an arc as both sides walk it -/
section AO
variable {R m m' : Int} {g g' : Int → Int} {t : Int}
theorem Circ.even (h : Circ R m g) (a : Int) : g a = g (a.natAbs : Int) := by
  rcases Int.lt_or_le a 0 with q | q
  · rw [show (a.natAbs : Int) = -a by omega, h.2.2.2.2.2.1]
  · rw [show (a.natAbs : Int) = a by omega]
theorem Circ.root (h : Circ R m g) {a b : Int} (e : a * a + b * b = R) (ha : (a.natAbs : Int) ≤ m) : g a = (b.natAbs : Int) := by
  rw [h.even a]
  have h1 := h.2.2.2.2.1 (a.natAbs : Int) (by omega) ha
  have e1 : (a.natAbs : Int) * (a.natAbs : Int) = a * a := by
    have := Int.natAbs_mul_self (a := a); push_cast at this; exact this
  have e2 : (b.natAbs : Int) * (b.natAbs : Int) = b * b := by
    have := Int.natAbs_mul_self (a := b); push_cast at this; exact this
  have h2 : IsW ((b.natAbs : Int) * (b.natAbs : Int)) (b.natAbs : Int) := IsW.sq (by omega)
  rw [e1] at h1
  rw [e2] at h2
  rw [show R - a * a = b * b by omega] at h1
  exact h1.uniq h2
/-- a point with integer places on the circle is one of its points -/
theorem Circ.onC (h : Circ R m g) {a b : Int} (e : a * a + b * b = R) : InC m g (a, b) := by
  have hm := h.2.1
  left
  by_cases ha : (a.natAbs : Int) ≤ m
  · have := h.root e ha
    refine ⟨a, by omega, by omega, ?_⟩
    rcases Int.lt_or_le b 0 with q | q
    · exact Or.inr (Or.inl (by rw [this]; congr 1; omega))
    · exact Or.inl (by rw [this]; congr 1; omega)
  · by_cases hb : (b.natAbs : Int) ≤ m
    · have := h.root (a := b) (b := a) (by omega) hb
      refine ⟨b, by omega, by omega, ?_⟩
      rcases Int.lt_or_le a 0 with q | q
      · exact Or.inr (Or.inr (Or.inr (by rw [this]; congr 1; omega)))
      · exact Or.inr (Or.inr (Or.inl (by rw [this]; congr 1; omega)))
    · exfalso
      have e1 : (a.natAbs : Int) * (a.natAbs : Int) = a * a := by
        have := Int.natAbs_mul_self (a := a); push_cast at this; exact this
      have e2 : (b.natAbs : Int) * (b.natAbs : Int) = b * b := by
        have := Int.natAbs_mul_self (a := b); push_cast at this; exact this
      have s1 := sq_mono (a := m + 1) (b := (a.natAbs : Int)) (by omega) (by omega)
      have s2 := sq_mono (a := m + 1) (b := (b.natAbs : Int)) (by omega) (by omega)
      have := h.2.2.2.1
      omega
theorem Circ.far (h : Circ R m g) {p : Int × Int} (hp : InC m g p) : -g 0 ≤ p.1 ∧ p.1 ≤ g 0 ∧ -g 0 ≤ p.2 ∧ p.2 ≤ g 0 := by
  have hm := h.2.1
  have gm := h.gm
  have m0 := h.mono (u := 0) (v := m) (by omega) hm (Int.le_refl m)
  rcases hp with ⟨u, u1, u2, hu⟩ | ⟨e, hc⟩
  · have k1 := h.mono (u := 0) (v := (u.natAbs : Int)) (by omega) (by omega) (by omega)
    have k2 := h.mono (u := (u.natAbs : Int)) (v := m) (by omega) (by omega) (by omega)
    rw [← h.even u] at k1 k2
    rcases hu with rfl | rfl | rfl | rfl <;> dsimp only <;> omega
  · rcases hc with rfl | rfl | rfl | rfl <;> dsimp only <;> omega
/-- the circle lies within the limits -/
def inL (R : Nat) (cx cy : Int) : Prop := ∃ w : Nat, IsWn R w ∧ -200 ≤ cx - w ∧ cx + w ≤ 200 ∧ -200 ≤ cy - w ∧ cy + w ≤ 200
theorem inL_le {R : Nat} {cx cy : Int} (h : inL R cx cy) : R ≤ 40200 := by
  obtain ⟨w, w1, w2, w3, w4, w5⟩ := h
  have : w ≤ 200 := by omega
  have := Nat.mul_le_mul (show 2 * w + 1 ≤ 401 by omega) (show 2 * w + 1 ≤ 401 by omega)
  have := w1.1
  omega
theorem Circ.g0 {R : Nat} (h : Circ R m g) {w : Nat} (hw : IsWn R w) : g 0 = w := by
  have h1 := h.2.2.2.2.1 0 (by omega) h.2.1
  have h2 := hw.int
  rw [show (R : Int) - 0 * 0 = R by omega] at h1
  exact h1.uniq h2
theorem Circ.lim {R : Nat} (h : Circ R m g) (cx cy : Int) : inL R cx cy ↔ ∀ p, InC m g p → okP cx cy p := by
  have hm := h.2.1
  constructor
  · rintro ⟨w, w1, w2, w3, w4, w5⟩ p hp
    have e := h.g0 w1
    have := h.far hp
    unfold okP
    omega
  · intro z
    obtain ⟨w, hw⟩ := W_ex R
    have e := h.g0 hw
    have a1 := z (g 0, 0) (Or.inl ⟨0, by omega, by omega, Or.inr (Or.inr (Or.inl rfl))⟩)
    have a2 := z (-g 0, 0) (Or.inl ⟨0, by omega, by omega, Or.inr (Or.inr (Or.inr rfl))⟩)
    have a3 := z (0, g 0) (Or.inl ⟨0, by omega, by omega, Or.inl rfl⟩)
    have a4 := z (0, -g 0) (Or.inl ⟨0, by omega, by omega, Or.inr (Or.inl rfl)⟩)
    unfold okP at a1 a2 a3 a4
    dsimp only at a1 a2 a3 a4
    exact ⟨w, hw, by omega, by omega, by omega, by omega⟩
/-- the way along the circle: N pulses, its places -/
def IsArc (R t a b c d cx cy : Int) (N : Nat) (pth : Nat → Int32 × Int32) : Prop := ∃ (m : Int) (g : Int → Int), Circ R m g ∧ ∃ F : Int, ArcOK m g (cs_s m g) t F N a b c d ∧ ∀ k : Nat, pth k = (iI (cx + (cP m g (F + t * k)).1), iI (cy + (cP m g (F + t * k)).2))
theorem IsArc.uniq {a b c d cx cy : Int} (ht : t = 1 ∨ t = -1) {N N' : Nat} {pth pth' : Nat → Int32 × Int32} (h : IsArc R t a b c d cx cy N pth) (h' : IsArc R t a b c d cx cy N' pth') : N = N' ∧ pth = pth' := by
  obtain ⟨m, g, hc, F, ⟨a1, a2, a3, a4, a5, a6⟩, hp⟩ := h
  obtain ⟨m', g', hc', F', ⟨b1, b2, b3, b4, b5, b6⟩, hp'⟩ := h'
  have em : m = m' := hc.uniqM hc'
  subst em
  have eP := hc.uniqP hc'
  have es : cs_s m g = cs_s m g' := by
    unfold cs_s
    rw [hc.uniqG hc' (by have := hc.2.1; omega) (by omega)]
  rw [← es] at b2 b5
  rw [← eP] at b3 b6
  have eF : F = F' := hc.eqP a1 a2 b1 b2 (by rw [a3, b3])
  subst eF
  have eN : (N : Int) - 1 = (N' : Int) - 1 := by
    refine hc.eqF ht (F + t) (by omega) (by omega) (by omega) (by omega) ?_
    rw [show F + t + t * ((N : Int) - 1) = F + t * N by grind, show F + t + t * ((N' : Int) - 1) = F + t * N' by grind, a6, b6]
  refine ⟨by omega, funext fun k => ?_⟩
  rw [hp, hp', eP]
/-- the arc's numbers are there -/
theorem Circ.arc (h : Circ R m g) (ht : t = 1 ∨ t = -1) {a b c d : Int} (e1 : a * a + b * b = R) (e2 : c * c + d * d = R) : ∃ (F : Int) (N : Nat), ArcOK m g (cs_s m g) t F N a b c d := by
  obtain ⟨F, f0, f1, f2⟩ := (h.all _).mp (h.onC e1)
  obtain ⟨k, k0, k1, k2⟩ := (h.from ht (F + t) _).mp (h.onC e2)
  obtain ⟨n, rfl⟩ := Int.eq_ofNat_of_zero_le k0
  refine ⟨F, n + 1, f0, f1, f2, by omega, by omega, ?_⟩
  rw [← k2]
  congr 1
  push_cast
  grind
end AO
