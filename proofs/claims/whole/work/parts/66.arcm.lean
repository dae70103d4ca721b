/-! the reference's circle -/
theorem W_ex (t : Nat) : ∃ w, IsWn t w := by
  obtain ⟨k, h1, h2⟩ := pk_least (fun w => 4 * t < (2 * w + 1) * (2 * w + 1)) ⟨t, by
    have : (2 * t + 1) * (2 * t + 1) = 4 * (t * t) + 4 * t + 1 := by grind
    omega⟩
  refine ⟨k, h1, ?_⟩
  rcases Nat.eq_zero_or_pos k with q | q
  · exact Or.inl q
  · right
    have := h2 (k - 1) (by omega)
    have e : 2 * (k - 1) + 1 = 2 * k - 1 := by omega
    rw [e] at this
    omega
theorem IsWn.uniq {t w w' : Nat} (h : IsWn t w) (h' : IsWn t w') : w = w' := by
  have := h.int.uniq h'.int
  omega
theorem M_over {Q : Int32 → Prop} {R : Nat} {u : Int} (hR : R ≤ 160801) (hu1 : -300 ≤ u) (hu2 : u ≤ 300) (hu : u * u ≤ R) (h : ∀ w : Nat, w ≤ 402 → IsWn (R - (u * u).toNat) w → Q (nI w)) : wp_M_over (nI R) (iI u) Q := by
  have hsq : 0 ≤ u * u := by
    rcases Int.lt_or_le u 0 with q | q
    · have := Int.mul_nonneg (a := -u) (b := -u) (by omega) (by omega)
      have e : -u * -u = u * u := Int.neg_mul_neg u u
      omega
    · exact Int.mul_nonneg q q
  have tu : (iI u).toInt = u := iI_t (by omega) (by omega)
  have e1 : iI u * iI u = nI (u * u).toNat := by
    rw [iI_nI, ← iI_of (iI u * iI u), ti_mul (by rw [tu]; omega) (by rw [tu]; omega), tu]
    congr 1
    omega
  have e2 : (4 : Int32) * (nI R - iI u * iI u) = nI (4 * (R - (u * u).toNat)) := by
    rw [e1, pk_sub (by omega), show (4 : Int32) = nI 4 from rfl, pk_mul]
  unfold wp_M_over
  rw [e2]
  generalize hT : R - (u * u).toNat = T at h
  have hT2 : T ≤ 160801 := by omega
  have L : ∀ (d k w : Nat), k + d = 500 → w ≤ k → w ≤ 402 → (w = 0 ∨ (2 * w - 1) * (2 * w - 1) ≤ 4 * T) → (w = k ∨ 4 * T < (2 * w + 1) * (2 * w + 1)) → wq_M_over_13 Q (d + 1) (nI (4 * T)) (nI w) (nI k) := by
    intro d
    induction d with
    | zero =>
      intro k w a1 a2 a3 a4 a5
      unfold wq_M_over_13
      exact pk_le 500 k (fun _ => h w a3 ⟨by rcases a5 with q | q; omega; exact q, a4⟩) (fun z => absurd z (by omega)) (by decide) rfl (by omega) (by omega)
    | succ d ih =>
      intro k w a1 a2 a3 a4 a5
      unfold wq_M_over_13 wq_M_over_40
      rw [n2w1, pk_mul, nI_add1, nI_add1]
      have b : (2 * w + 1) * (2 * w + 1) ≤ 805 * 805 := Nat.mul_le_mul (by omega) (by omega)
      refine pk_le 500 k (fun z => absurd z (by omega)) (fun _ => pk_lt (4 * T) ((2 * w + 1) * (2 * w + 1)) (fun y => ih (k + 1) w (by omega) (by omega) a3 a4 (Or.inr y)) (fun y => ?_) rfl rfl (by omega) (by omega)) (by decide) rfl (by omega) (by omega)
      have w401 : w < 402 := by
        rcases Nat.lt_or_ge w 402 with q | q
        · exact q
        · have : (2 * 402 + 1) * (2 * 402 + 1) ≤ (2 * w + 1) * (2 * w + 1) := Nat.mul_le_mul (by omega) (by omega)
          omega
      refine ih (k + 1) (w + 1) (by omega) (by omega) (by omega) (Or.inr ?_) ?_
      · rw [(by omega : 2 * (w + 1) - 1 = 2 * w + 1)]; exact y
      · rcases a5 with q | q
        · left; omega
        · omega
  exact ⟨501, L 500 0 0 rfl (Nat.le_refl _) (by omega) (Or.inl rfl) (Or.inl rfl)⟩
/-- the points as the reference keeps them -/
def Pts (L : List (Int × Int)) (mx my : Nat → Int32) : Prop := L.length ≤ 2399 ∧ (∀ p, p ∈ L → -500 ≤ p.1 ∧ p.1 ≤ 500 ∧ -500 ≤ p.2 ∧ p.2 ≤ 500) ∧ ∀ k, k < L.length → mx k = iI (L.getD k (0, 0)).1 ∧ my k = iI (L.getD k (0, 0)).2
def addP (L : List (Int × Int)) (p : Int × Int) : List (Int × Int) := if p ∈ L then L else L ++ [p]
theorem getD_mem {L : List (Int × Int)} {k : Nat} (h : k < L.length) : L.getD k (0, 0) ∈ L := by
  rw [List.getD_eq_getElem?_getD, List.getElem?_eq_getElem h]
  exact List.getElem_mem h
theorem mem_getD {L : List (Int × Int)} {p : Int × Int} (h : p ∈ L) : ∃ k, k < L.length ∧ L.getD k (0, 0) = p := by
  obtain ⟨k, hk, e⟩ := List.getElem_of_mem h
  exact ⟨k, hk, by rw [List.getD_eq_getElem?_getD, List.getElem?_eq_getElem hk]; exact e⟩
theorem iI_inj {a b : Int} (ha1 : -100000 ≤ a) (ha2 : a ≤ 100000) (hb1 : -100000 ≤ b) (hb2 : b ≤ 100000) : iI a = iI b ↔ a = b :=
  ⟨fun z => by have := congrArg Int32.toInt z; rwa [iI_t (by omega) (by omega), iI_t (by omega) (by omega)] at this, fun z => by rw [z]⟩
theorem M_point {Q : Int32 → (Nat → Int32) → (Nat → Int32) → Prop} {L : List (Int × Int)} {mx my : Nat → Int32} {a b : Int} (hP : Pts L mx my) (hl : L.length ≤ 2398) (h1 : -500 ≤ a) (h2 : a ≤ 500) (h3 : -500 ≤ b) (h4 : b ≤ 500)
    (h : ∀ mx' my', Pts (addP L (a, b)) mx' my' → Q (nI (addP L (a, b)).length) mx' my') : wp_M_point (iI a) (iI b) (nI L.length) mx my Q := by
  obtain ⟨p1, p2, p3⟩ := hP
  have G : ∀ (d k : Nat), k + d = L.length → (∀ j, j < k → ¬ L.getD j (0, 0) = (a, b)) → wq_M_point_2 Q (d + 1) (iI a) (iI b) (nI k) (nI L.length) mx my := by
    intro d
    induction d with
    | zero =>
      intro k e1 e2
      unfold wq_M_point_2
      refine pk_le L.length k (fun _ => ⟨vp_in_nI (by omega) (by omega), vp_in_nI (by omega) (by omega), ?_⟩) (fun z => absurd z (by omega)) rfl rfl (by omega) (by omega)
      have ni : ¬ (a, b) ∈ L := fun z => by
        obtain ⟨j, j1, j2⟩ := mem_getD z
        exact e2 j (by omega) j2
      have ea : addP L (a, b) = L ++ [(a, b)] := if_neg ni
      rw [ea] at h
      have el : (L ++ [(a, b)]).length = L.length + 1 := by simp
      rw [el] at h
      rw [nI_add1, nI_clamp (by omega)]
      refine h _ _ ⟨by rw [el]; omega, fun p hp => ?_, fun j hj => ?_⟩
      · rcases List.mem_append.mp hp with q | q
        · exact p2 p q
        · rw [List.mem_singleton.mp q]; exact ⟨h1, h2, h3, h4⟩
      · rw [el] at hj
        by_cases q : j = L.length
        · subst q
          rw [pk_us, pk_us]
          have : (L ++ [(a, b)]).getD L.length (0, 0) = (a, b) := by
            rw [List.getD_eq_getElem?_getD, List.getElem?_append_right (Nat.le_refl _), Nat.sub_self]; rfl
          rw [this]
          exact ⟨rfl, rfl⟩
        · rw [pk_un q, pk_un q]
          have : (L ++ [(a, b)]).getD j (0, 0) = L.getD j (0, 0) := by
            rw [List.getD_eq_getElem?_getD, List.getD_eq_getElem?_getD, List.getElem?_append_left (by omega)]
          rw [this]
          exact p3 j (by omega)
    | succ d ih =>
      intro k e1 e2
      obtain ⟨b1, b2, b3, b4⟩ := p2 _ (getD_mem (L := L) (k := k) (by omega))
      obtain ⟨c1, c2⟩ := p3 k (by omega)
      unfold wq_M_point_2 wq_M_point_31
      rw [nI_add1 k]
      refine pk_le L.length k (fun z => absurd z (by omega)) (fun _ => ⟨vp_in_nI (by omega) (by omega), ?_⟩) rfl rfl (by omega) (by omega)
      rw [nI_clamp (by omega), c1, c2]
      have nx : ¬ L.getD k (0, 0) = (a, b) → wq_M_point_2 Q (d + 1) (iI a) (iI b) (nI (k + 1)) (nI L.length) mx my := by
        intro z
        refine ih (k + 1) (by omega) (fun j hj => ?_)
        by_cases q : j = k
        · rw [q]; exact z
        · exact e2 j (by omega)
      refine ⟨fun z => nx (fun w => z (by rw [w])), fun z => ⟨vp_in_nI (by omega) (by omega), fun y => nx (fun w => y (by rw [w])), fun y => ?_⟩⟩
      have e3 : L.getD k (0, 0) = (a, b) := Prod.ext ((iI_inj (by omega) (by omega) (by omega) (by omega)).mp z) ((iI_inj (by omega) (by omega) (by omega) (by omega)).mp y)
      have hm : (a, b) ∈ L := by rw [← e3]; exact getD_mem (by omega)
      have ea : addP L (a, b) = L := if_pos hm
      rw [ea] at h
      exact h mx my ⟨p1, p2, p3⟩
  exact ⟨L.length + 1, G L.length 0 (by omega) (fun j hj => absurd hj (by omega))⟩
theorem addP_mem {L : List (Int × Int)} {p q : Int × Int} : q ∈ addP L p ↔ q ∈ L ∨ q = p := by
  unfold addP
  split
  · rename_i h
    exact ⟨fun z => Or.inl z, fun z => z.elim id (fun w => by rw [w]; exact h)⟩
  · rw [List.mem_append, List.mem_singleton]
theorem addP_len (L : List (Int × Int)) (p : Int × Int) : (addP L p).length ≤ L.length + 1 := by
  unfold addP
  split
  · omega
  · simp
theorem addP_nd {L : List (Int × Int)} {p : Int × Int} (h : L.Nodup) : (addP L p).Nodup := by
  unfold addP
  split
  · exact h
  · rename_i hp
    rw [List.nodup_append]
    refine ⟨h, by simp, fun a ha b hb => ?_⟩
    rw [List.mem_singleton.mp hb]
    intro e
    exact hp (e ▸ ha)
