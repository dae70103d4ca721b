/-! the reference's loops over the points -/
section AL
variable {L : List (Int × Int)} {mx my : Nat → Int32}
def okP (cx cy : Int) (p : Int × Int) : Prop := -200 ≤ cx + p.1 ∧ cx + p.1 ≤ 200 ∧ -200 ≤ cy + p.2 ∧ cy + p.2 ≤ 200
theorem iI_addI {a b : Int} (a1 : -50000 ≤ a) (a2 : a ≤ 50000) (b1 : -50000 ≤ b) (b2 : b ≤ 50000) : iI a + iI b = iI (a + b) := by
  rw [iI_add (by omega) (by omega) (by rw [iI_t (by omega) (by omega)]; omega) (by rw [iI_t (by omega) (by omega)]; omega), iI_t (by omega) (by omega)]
theorem M_lim {Q : Int32 → Int32 → Int32 → Int32 → Int32 → Int32 → Int32 → (Nat → Int32) → (Nat → Int32) → Prop} {m_mode x1 x2 x6 x7 m_kind m_made m_all : Int32} {cx cy : Int} (hP : Pts L mx my) (hx1 : -20000 ≤ cx) (hx2 : cx ≤ 20000) (hy1 : -20000 ≤ cy) (hy2 : cy ≤ 20000)
    (hi : (∀ p, p ∈ L → okP cx cy p) → (¬ m_mode = (2 : Int32) → wq_M_arc_157 Q x1 x2 x6 x7 1 m_kind m_made m_all (nI L.length) (iI cx) (iI cy) mx my) ∧ (m_mode = (2 : Int32) → wq_M_arc_157 Q x1 x2 x6 x7 (-1) m_kind m_made m_all (nI L.length) (iI cx) (iI cy) mx my))
    (ho : ¬ (∀ p, p ∈ L → okP cx cy p) → Q 107 m_kind m_made m_all (nI L.length) (iI cx) (iI cy) mx my) : ∀ (d k : Nat), k + d = L.length → (∀ j, j < k → okP cx cy (L.getD j (0, 0))) → wq_M_arc_89 Q m_mode (d + 1) x1 x2 x6 x7 (nI k) m_kind m_made m_all (nI L.length) (iI cx) (iI cy) mx my := by
  have hl := hP.1
  intro d
  induction d with
  | zero =>
    intro k e1 e2
    unfold wq_M_arc_89
    refine pk_le L.length k (fun _ => hi (fun p hp => ?_)) (fun z => absurd z (by omega)) rfl rfl (by omega) (by omega)
    obtain ⟨j, j1, j2⟩ := mem_getD hp
    rw [← j2]
    exact e2 j (by omega)
  | succ d ih =>
    intro k e1 e2
    obtain ⟨b1, b2, b3, b4⟩ := hP.in5 (k := k) (by omega)
    obtain ⟨c1, c2⟩ := hP.2.2 k (by omega)
    unfold wq_M_arc_89
    rw [nI_add1 k]
    refine pk_le L.length k (fun z => absurd z (by omega)) (fun _ => ⟨vp_in_nI (by omega) (by omega), ?_⟩) rfl rfl (by omega) (by omega)
    rw [nI_clamp (by omega), c1, c2, iI_addI (by omega) (by omega) (by omega) (by omega), iI_addI (by omega) (by omega) (by omega) (by omega)]
    have no : ¬ okP cx cy (L.getD k (0, 0)) → Q 107 m_kind m_made m_all (nI L.length) (iI cx) (iI cy) mx my := fun z => ho (fun y => z (y _ (getD_mem (by omega))))
    refine M_inL (by omega) (by omega) (fun z => ⟨fun w => absurd w (by decide), fun _ => ⟨vp_in_nI (by omega) (by omega), M_inL (by omega) (by omega) (fun y => ⟨fun _ => ih (k + 1) (by omega) (fun j hj => ?_), fun w => absurd w (by decide)⟩) (fun y => ⟨fun w => absurd rfl w, fun _ => no (fun w => y ⟨w.2.2.1, w.2.2.2⟩)⟩)⟩⟩) (fun z => ⟨fun _ => no (fun w => z ⟨w.1, w.2.1⟩), fun w => absurd rfl w⟩)
    by_cases q : j = k
    · rw [q]; exact ⟨z.1, z.2, y.1, y.2⟩
    · exact e2 j (by omega)
def cnP (t : Int) (c g p : Int × Int) : Prop := g = c ∨ (¬ p = c ∧ ¬ bf t c g p)
noncomputable def cnb (t : Int) (c g p : Int × Int) : Bool := @decide (cnP t c g p) (Classical.propDecidable _)
theorem drop_getD {k : Nat} (h : k < L.length) : L.drop k = L.getD k (0, 0) :: L.drop (k + 1) := by
  rw [List.drop_eq_getElem_cons h, List.getD_eq_getElem?_getD, List.getElem?_eq_getElem h]
  rfl
theorem M_cnt {Q : Int32 → Int32 → Int32 → Int32 → Int32 → Int32 → Int32 → (Nat → Int32) → (Nat → Int32) → Prop} {m_made m_centreX m_centreY : Int32} {t i j gx gy : Int} (ht : t = 1 ∨ t = -1) (hP : Pts L mx my) (hc : in5 (-i, -j)) (hg : in5 (gx, gy)) : ∀ (d k a : Nat), k + d = L.length →
    Q 0 (iI t) m_made (nI (a + (L.drop k).countP (cnb t (-i, -j) (gx, gy)))) (nI L.length) m_centreX m_centreY mx my → wq_M_arc_173 Q (d + 1) (iI i) (iI j) (iI gx) (iI gy) (nI k) (iI t) m_made (nI a) (nI L.length) m_centreX m_centreY mx my := by
  have hl := hP.1
  have hc' : -500 ≤ -i ∧ -i ≤ 500 ∧ -500 ≤ -j ∧ -j ≤ 500 := hc
  have hg' : -500 ≤ gx ∧ gx ≤ 500 ∧ -500 ≤ gy ∧ gy ≤ 500 := hg
  have n1 : -iI i = iI (-i) := iI_neg (by omega) (by omega)
  have n2 : -iI j = iI (-j) := iI_neg (by omega) (by omega)
  intro d
  induction d with
  | zero =>
    intro k a e1 h
    unfold wq_M_arc_173
    refine pk_le L.length k (fun _ => ?_) (fun z => absurd z (by omega)) rfl rfl (by omega) (by omega)
    rw [List.drop_eq_nil_of_le (by omega)] at h
    exact h
  | succ d ih =>
    intro k a e1 h
    have b := hP.in5 (k := k) (by omega)
    have b' : -500 ≤ (L.getD k (0, 0)).1 ∧ (L.getD k (0, 0)).1 ≤ 500 ∧ -500 ≤ (L.getD k (0, 0)).2 ∧ (L.getD k (0, 0)).2 ≤ 500 := b
    obtain ⟨c1, c2⟩ := hP.2.2 k (by omega)
    rw [drop_getD (by omega), List.countP_cons] at h
    have yes : cnP t (-i, -j) (gx, gy) (L.getD k (0, 0)) → wq_M_arc_173 Q (d + 1) (iI i) (iI j) (iI gx) (iI gy) (nI (k + 1)) (iI t) m_made (nI (a + 1)) (nI L.length) m_centreX m_centreY mx my := by
      intro z
      refine ih (k + 1) (a + 1) (by omega) ?_
      have e : cnb t (-i, -j) (gx, gy) (L.getD k (0, 0)) = true := @decide_eq_true _ (Classical.propDecidable _) z
      rw [if_pos e] at h
      rw [show a + 1 + List.countP (cnb t (-i, -j) (gx, gy)) (L.drop (k + 1)) = a + (List.countP (cnb t (-i, -j) (gx, gy)) (L.drop (k + 1)) + 1) by omega]
      exact h
    have no : ¬ cnP t (-i, -j) (gx, gy) (L.getD k (0, 0)) → wq_M_arc_173 Q (d + 1) (iI i) (iI j) (iI gx) (iI gy) (nI (k + 1)) (iI t) m_made (nI a) (nI L.length) m_centreX m_centreY mx my := by
      intro z
      refine ih (k + 1) a (by omega) ?_
      have e : ¬ cnb t (-i, -j) (gx, gy) (L.getD k (0, 0)) = true := fun y => z (@of_decide_eq_true _ (Classical.propDecidable _) y)
      rw [if_neg e] at h
      exact h
    unfold wq_M_arc_173
    refine pk_le L.length k (fun z => absurd z (by omega)) (fun _ => ?_) rfl rfl (by omega) (by omega)
    unfold wq_M_arc_200
    have main : ¬ (gx, gy) = (-i, -j) → wq_M_arc_201 Q (fun x1 x2 x6 x7 x8 m_kind m_made m_all m_points m_centreX m_centreY mx my => wq_M_arc_173 Q (d + 1) x1 x2 x6 x7 x8 m_kind m_made m_all m_points m_centreX m_centreY mx my) (iI i) (iI j) (iI gx) (iI gy) (nI k) 0 (iI t) m_made (nI a) (nI L.length) m_centreX m_centreY mx my := by
      intro hne
      have bef : ¬ L.getD k (0, 0) = (-i, -j) → wq_M_arc_232 Q (fun x1 x2 x6 x7 x8 m_kind m_made m_all m_points m_centreX m_centreY mx my => wq_M_arc_173 Q (d + 1) x1 x2 x6 x7 x8 m_kind m_made m_all m_points m_centreX m_centreY mx my) (iI i) (iI j) (iI gx) (iI gy) (nI k) (iI t) m_made (nI a) (nI L.length) m_centreX m_centreY mx my := by
        intro hp
        unfold wq_M_arc_232
        refine ⟨vp_in_nI (by omega) (by omega), vp_in_nI (by omega) (by omega), ?_⟩
        rw [nI_clamp (by omega), c1, c2, n1, n2]
        unfold wq_M_arc_271 wq_M_arc_261 wq_M_arc_271
        rw [nI_add1 k, nI_add1 a]
        exact M_before (c := (-i, -j)) (a := (gx, gy)) ht hc hg b (fun z => ⟨fun _ => no (fun w => w.elim hne (fun w => w.2 z)), fun w => absurd w (by decide)⟩) (fun z => ⟨fun w => absurd rfl w, fun _ => yes (Or.inr ⟨hp, z⟩)⟩)
      unfold wq_M_arc_201
      refine ⟨fun z => absurd rfl z, fun _ => ⟨vp_in_nI (by omega) (by omega), ?_⟩⟩
      rw [nI_clamp (by omega), c1, c2, n1, n2]
      refine ⟨fun z => bef (fun w => z (by rw [w])), fun z => ⟨vp_in_nI (by omega) (by omega), fun y => ?_, fun y => bef (fun w => y (by rw [w]))⟩⟩
      unfold wq_M_arc_271
      rw [nI_add1 k]
      have e3 : L.getD k (0, 0) = (-i, -j) := Prod.ext ((iI_inj (by omega) (by omega) (by omega) (by omega)).mp z) ((iI_inj (by omega) (by omega) (by omega) (by omega)).mp y)
      exact no (fun w => w.elim hne (fun w => w.1 e3))
    rw [n1, n2]
    refine ⟨fun z => main (fun w => z (by rw [(Prod.mk.inj w).1])), fun z => ⟨fun y => main (fun w => y (by rw [(Prod.mk.inj w).2])), fun y => ?_⟩⟩
    unfold wq_M_arc_201
    refine ⟨fun _ => ?_, fun w => absurd w (by decide)⟩
    unfold wq_M_arc_261 wq_M_arc_271
    rw [nI_add1 k, nI_add1 a]
    have e3 : (gx, gy) = (-i, -j) := Prod.ext ((iI_inj (by omega) (by omega) (by omega) (by omega)).mp z) ((iI_inj (by omega) (by omega) (by omega) (by omega)).mp y)
    exact yes (Or.inl e3)
end AL
