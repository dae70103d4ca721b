/-! the reference's act, whole -/
theorem M_actA {Q : Int32 → Int32 → Int32 → Int32 → Int64 → Int32 → Int32 → Int32 → Int32 → Int32 → Int32 → Int32 → Int32 → Int32 → Int32 → (Nat → Int32) → (Nat → Int32) → Prop} {m_x m_y m_mode m_feed m_relative : Int32} {m_pause : Int64} {m_kind m_made m_all m_fromX m_fromY m_wayX m_wayY m_points m_centreX m_centreY m_there m_newMode m_newWay m_newFeed : Int32} {mx my mn : Nat → Int32} {s : WS} {en : Int32} (hW : MW s m_there m_newMode m_newWay m_newFeed en mn) (hs : WOK s) (x1 : -200 ≤ m_x.toInt) (x2 : m_x.toInt ≤ 200) (y1 : -200 ≤ m_y.toInt) (y2 : m_y.toInt ≤ 200) (hmo : m_mode = 0 ∨ m_mode = 1 ∨ m_mode = 2 ∨ m_mode = 3)
    (hN : ∀ f, smv m_x m_y (moA s m_mode) (feA s m_feed) (reA s m_relative) s = (f, none) → ∀ pa po cX cY mx my, Q f (moA s m_mode) (feA s m_feed) (reA s m_relative) pa m_kind m_made m_all m_fromX m_fromY m_wayX m_wayY po cX cY mx my)
    (hS : ∀ f N pth, smv m_x m_y (moA s m_mode) (feA s m_feed) (reA s m_relative) s = (f, some (N, pth)) → ∀ ki fX fY wX wY po cX cY mx my, ¬ m_there = 0 → MMv N pth ki fX fY wX wY po cX cY mx my → Q f (moA s m_mode) (feA s m_feed) (reA s m_relative) (pau (moA s m_mode) (feA s m_feed)) ki 0 (nI N) fX fY wX wY po cX cY mx my) : wp_M_act m_x m_y m_mode m_feed m_relative m_pause m_kind m_made m_all m_fromX m_fromY m_wayX m_wayY m_points m_centreX m_centreY m_there m_newMode m_newWay m_newFeed mx my mn Q := by
  obtain ⟨w1, w2, w3, w4, w5, t, t1, t2, t3⟩ := hW
  have hmo' := moA_in hs hmo
  have hK : MKw s t mn := ⟨t1, t3⟩
  obtain ⟨b12, b4, b8, b0⟩ := bt_all t t1
  have k0 := (t3 0 (by omega)).1
  have k1 := (t3 1 (by omega)).1
  have k2 := (t3 2 (by omega)).1
  have k3 := (t3 3 (by omega)).1
  have hg : (t.testBit 0 || t.testBit 1) = hasG s := by rw [k0, k1]; rfl
  have hc : (t.testBit 2 || t.testBit 3) = hasC s := by rw [k2, k3]; rfl
  rw [hg, hc] at b0
  rw [hc] at b12
  subst t2
  have two : (2 : Int32).toInt = 2 := rfl
  have one : (1 : Int32).toInt = 1 := rfl
  have K54 : ∀ mo fe re : Int32, mo = moA s m_mode → fe = feA s m_feed → re = reA s m_relative → wq_M_act_54 Q m_x m_y (nI t) mn mo fe re m_pause m_kind m_made m_all m_fromX m_fromY m_wayX m_wayY m_points m_centreX m_centreY mx my := by
    intro mo fe re e1 e2 e3
    rw [← e1, ← e2, ← e3] at hN hS
    rw [← e1] at hmo'
    have ml := mo_lt hmo'
    have K104 : ¬ (((mo = 2 ∨ mo = 3) ∧ hasG s = true ∧ hasC s = false) ∨ (¬ (mo = 2 ∨ mo = 3) ∧ hasC s = true)) → wq_M_act_104 Q m_x m_y (nI t) mn mo fe re m_pause m_kind m_made m_all m_fromX m_fromY m_wayX m_wayY m_points m_centreX m_centreY mx my := by
      intro n104
      have K130 : ¬ nI t = 0 → ¬ (hasG s = false ∧ hasC s = false) → ¬ (¬ mo = 0 ∧ fe = 0) → wq_M_act_130 Q m_x m_y (nI t) mn mo fe re m_pause m_kind m_made m_all m_fromX m_fromY m_wayX m_wayY m_points m_centreX m_centreY mx my := by
        intro nt n0 n5
        have eq : smv m_x m_y mo fe re s = mvo m_x.toInt m_y.toInt mo.toInt (gl (s.1 2) re m_x).toInt (gl (s.1 3) re m_y).toInt ((s.1 4).getD 0).toInt ((s.1 5).getD 0).toInt := by
          unfold smv
          rw [if_neg n104, if_neg n0, if_neg n5]
        rw [eq] at hN hS
        have gX := gl_in (re := re) x1 x2 (fun v e => hs.1 2 v (by omega) (by omega) e)
        have gY := gl_in (re := re) y1 y2 (fun v e => hs.1 3 v (by omega) (by omega) e)
        have K179 : ∀ pa : Int64, pa = pau mo fe → wq_M_act_179 Q m_x m_y (nI t) mn (gl (s.1 2) re m_x) (gl (s.1 3) re m_y) pa mo fe re m_pause m_kind m_made m_all m_fromX m_fromY m_wayX m_wayY m_points m_centreX m_centreY mx my := by
          intro pa hpa
          have := M_179 (Q := Q) (s1 := pa) (m_mode := mo) (m_feed := fe) (m_relative := re) (m_pause := m_pause) (m_kind := m_kind) (m_made := m_made) (m_all := m_all) (m_fromX := m_fromX) (m_fromY := m_fromY) (m_wayX := m_wayX) (m_wayY := m_wayY) (m_points := m_points) (m_centreX := m_centreX) (m_centreY := m_centreY) (mx := mx) (my := my) hK hs x1 x2 y1 y2 gX.1 gX.2 gY.1 gY.2 hmo' (fun f e po cX cY mx my => hN f e _ _ _ _ _ _) (fun f N pth e ki fX fY wX wY po cX cY mx my hm => by rw [hpa]; exact hS f N pth e _ _ _ _ _ _ _ _ _ _ nt hm)
          rw [iI_of, iI_of, iI_of, iI_of] at this
          exact this
        unfold wq_M_act_130
        refine M_goal_k hK 0 (by omega) (M_goal_k hK 1 (by omega) ⟨fun z => ⟨fun w => n5 ⟨z, w⟩, K179 _ ?_⟩, fun z => K179 _ ?_⟩)
        · unfold pau
          rw [if_neg z]
        · unfold pau
          rw [if_pos z]
      unfold wq_M_act_104
      refine ⟨fun z => ?_, fun z => hN 0 ?_ _ _ _ _ _ _⟩
      · have n0 : ¬ (hasG s = false ∧ hasC s = false) := fun w => z (b0.mpr w)
        refine ⟨fun y => K130 z n0 (fun w => w.1 y), fun y => ⟨fun w => K130 z n0 (fun v => w v.2), fun w => hN 105 ?_ _ _ _ _ _ _⟩⟩
        unfold smv
        rw [if_neg n104, if_neg n0, if_pos ⟨y, w⟩]
      · unfold smv
        rw [if_neg n104, if_pos (b0.mp z)]
    have F104 : (((mo = 2 ∨ mo = 3) ∧ hasG s = true ∧ hasC s = false) ∨ (¬ (mo = 2 ∨ mo = 3) ∧ hasC s = true)) → Q 104 mo fe re m_pause m_kind m_made m_all m_fromX m_fromY m_wayX m_wayY m_points m_centreX m_centreY mx my := by
      intro z
      refine hN 104 ?_ _ _ _ _ _ _
      unfold smv
      rw [if_pos z]
    have nf : ∀ b : Bool, ¬ b = false → b = true := by decide
    unfold wq_M_act_54 wq_M_act_69 wq_M_act_82
    refine ⟨fun z => ?_, fun z => ?_⟩
    · have hC := b12.mp z
      have nC : ¬ hasC s = true := by rw [hC]; decide
      refine ⟨fun _ => ⟨fun y => absurd rfl y, fun _ => ⟨fun y => K104 ?_, fun y => ⟨fun w => K104 ?_, fun w => F104 ?_⟩⟩⟩, fun y => absurd rfl y⟩
      · have := b0.mp y
        rintro (q | q)
        · rw [this.1] at q; exact absurd q.2.1 (by decide)
        · exact nC q.2
      · rw [ti_le, one] at w
        rintro (q | q)
        · exact absurd (ml.mp q.1) (by omega)
        · exact nC q.2
      · rw [ti_le, one] at w
        exact Or.inl ⟨ml.mpr (by omega), nf _ (fun v => y (b0.mpr ⟨v, hC⟩)), hC⟩
    · have hC : hasC s = true := nf _ (fun v => z (b12.mpr v))
      refine ⟨fun y => absurd y (by decide), fun _ => ⟨fun y => F104 ?_, fun y => ⟨fun _ => K104 ?_, fun v => absurd v (by decide)⟩⟩⟩
      · rw [ti_lt, two] at y
        exact Or.inr ⟨fun q => absurd (ml.mp q) (by omega), hC⟩
      · rw [ti_lt, two] at y
        rintro (q | q)
        · rw [hC] at q; exact absurd q.2.2 (by decide)
        · exact q.1 (ml.mpr (by omega))
  have K39 : ∀ fe re : Int32, fe = feA s m_feed → re = reA s m_relative → wq_M_act_39 Q m_x m_y (nI t) m_newMode mn m_mode fe re m_pause m_kind m_made m_all m_fromX m_fromY m_wayX m_wayY m_points m_centreX m_centreY mx my := by
    intro fe re e2 e3
    unfold wq_M_act_39
    have mi : (-1 : Int32) < 0 := by decide
    refine ⟨fun z => K54 _ _ _ ?_ e2 e3, fun z => K54 _ _ _ ?_ e2 e3⟩
    · unfold moA
      rcases w2 with q | q
      · rw [← w1, if_pos q]
      · exact absurd z (by rw [Int32.not_lt]; exact q.1)
    · unfold moA
      rw [← w1, if_neg (fun q => z (by rw [q]; exact mi))]
  have K15 : ∀ fe : Int32, fe = feA s m_feed → wq_M_act_15 Q m_x m_y (nI t) m_newMode m_newWay mn m_mode fe m_relative m_pause m_kind m_made m_all m_fromX m_fromY m_wayX m_wayY m_points m_centreX m_centreY mx my := by
    intro fe e2
    unfold wq_M_act_15 wq_M_act_36
    rcases w3 with ⟨a, b⟩ | ⟨a, b⟩ | ⟨a, b⟩
    · rw [b]
      refine ⟨fun _ => K39 _ _ e2 ?_, fun z => absurd (by decide) z⟩
      unfold reA
      rw [if_pos a]
    · rw [b]
      refine ⟨fun z => absurd z (by decide), fun _ => ⟨fun _ => ⟨Or.inl rfl, K39 _ _ e2 ?_⟩, fun z => absurd z (by decide)⟩⟩
      unfold reA
      rw [a, if_neg (by decide), if_neg (by decide)]
    · rw [b]
      refine ⟨fun z => absurd z (by decide), fun _ => ⟨fun z => absurd rfl z, fun _ => ⟨Or.inr rfl, K39 _ _ e2 ?_⟩⟩⟩
      unfold reA
      rw [a, if_neg (by decide), if_pos rfl]
  unfold wp_M_act
  rcases w4 with ⟨a, b⟩ | ⟨v, a, b, c, d⟩
  · rw [b]
    refine ⟨fun _ => K15 _ ?_, fun z => absurd (by decide) z⟩
    unfold feA
    rw [a]
    rfl
  · rw [b]
    refine ⟨fun z => ?_, fun _ => K15 _ ?_⟩
    · rw [ti_le] at z c
      rw [one] at c
      have z0 : (0 : Int32).toInt = 0 := rfl
      omega
    · unfold feA
      rw [a]
      rfl
