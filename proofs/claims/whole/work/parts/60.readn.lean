theorem dgv_val : ∀ (l : List Nat) (v k : Nat), v < 10 ^ k → (dgv l (nI v) k).2.1 ≤ 5 → ∃ u : Nat, u < 10 ^ (dgv l (nI v) k).2.1 ∧ (dgv l (nI v) k).1 = nI u := by
  intro l
  induction l with
  | nil => intro v k hv _; exact ⟨v, hv, rfl⟩
  | cons c l ih =>
    intro v k hv hk
    unfold dgv at hk ⊢
    by_cases hd : isD c = true
    · rw [if_pos hd] at hk ⊢
      have hc : 48 ≤ c ∧ c ≤ 57 := by simpa [isD] using hd
      have e : (10 : Int32) * nI v + nI c - 48 = nI (10 * v + (c - 48)) := by
        rw [show (10 : Int32) = nI 10 from rfl, pk_mul, nI_add, show (48 : Int32) = nI 48 from rfl, pk_sub (by omega)]
        congr 1
        omega
      rw [e] at hk ⊢
      refine ih (10 * v + (c - 48)) (k + 1) ?_ hk
      rw [Nat.pow_succ]
      omega
    · rw [if_neg hd] at hk ⊢
      exact ⟨v, hv, rfl⟩
theorem setw_f (L : Nat) (x : Int32) (s : WS) : (setw L x s).1 = 0 ∨ (setw L x s).1 = 102 ∨ (setw L x s).1 = 103 ∨ (setw L x s).1 = 105 := by
  unfold setw
  repeat' split
  all_goals first | exact Or.inl rfl | exact Or.inr (Or.inl rfl) | exact Or.inr (Or.inr (Or.inl rfl)) | exact Or.inr (Or.inr (Or.inr rfl))
section MN
variable {Q : Int32 → Int32 → Int32 → Int32 → Int32 → Int32 → (Nat → Int32) → Prop} {K35 : Int32 → Int32 → Int32 → Int32 → Int32 → Int32 → Int32 → Int32 → (Nat → Int32) → Prop} {n e : Nat} {tx : Nat → Nat} {mt mn : Nat → Int32} {x4 x5 x6 m_there m_newMode m_newWay m_newFeed m_ends : Int32}
theorem M_dig (hT : Txt n tx mt) (he : e ≤ n) : ∀ (l : List Nat) (q : Nat) (a a' : Int32) (k : Nat), At tx e q l → k ≤ 400 → (k ≤ 6 → a' = a) →
    (∀ q' b, q ≤ q' → At tx e q' (dgv l a k).2.2 → ((dgv l a k).2.1 ≤ 6 → b = (dgv l a k).1) → wq_M_read_218 Q K35 mt (nI e) (nI q') x4 x5 x6 b (nI (dgv l a k).2.1) m_there m_newMode m_newWay m_newFeed m_ends mn) → k + l.length ≤ 400 → wq_M_read_159 Q K35 mt (l.length + 1) (nI e) (nI q) x4 x5 x6 a' (nI k) m_there m_newMode m_newWay m_newFeed m_ends mn := by
  intro l
  have hn := hT.1
  induction l with
  | nil =>
    intro q a a' k hA hk ha h _
    have e1 := hA.2.2.1 rfl
    unfold wq_M_read_159
    exact pk_le e q (fun _ => h q a' (Nat.le_refl _) hA ha) (fun z => absurd z (by omega)) rfl rfl (by omega) (by omega)
  | cons c l ih =>
    intro q a a' k hA hk ha h hlen
    obtain ⟨a1, a2, a3⟩ := hA.2.2.2 c l rfl
    obtain ⟨t1, t2, t3⟩ := hT.2 q (by omega)
    rw [a2] at t1 t3
    have hlen2 : (c :: l).length = l.length + 1 := rfl
    unfold wq_M_read_159
    refine pk_le e q (fun z => absurd z (by omega)) (fun _ => ⟨vp_in_nI (by omega) (by omega), ?_⟩) rfl rfl (by omega) (by omega)
    rw [nI_clamp (by omega), t1]
    refine M_digit t3 ?_
    unfold wq_M_read_200
    by_cases hd : isD c = true
    · rw [if_pos hd]
      unfold dgv at h
      rw [if_pos hd] at h
      refine ⟨fun z => absurd z (by decide), fun _ => pk_le 6 k (fun z => ?_) (fun z => ⟨vp_in_nI (by omega) (by omega), ?_⟩) (by decide) rfl (by omega) (by omega)⟩
      · refine M_skip1 hT he hA (fun q' b1 b2 => ?_)
        rw [nI_add1]
        exact ih q' _ a' (k + 1) b2 (by omega) (fun w => by omega) (fun q'' b c1 c2 c3 => h q'' b (by omega) c2 c3) (by omega)
      · refine M_skip1 hT he hA (fun q' b1 b2 => ?_)
        rw [nI_add1]
        exact ih q' _ _ (k + 1) b2 (by omega) (fun w => by rw [ha (by omega)]) (fun q'' b c1 c2 c3 => h q'' b (by omega) c2 c3) (by omega)
    · rw [if_neg hd]
      unfold dgv at h
      rw [if_neg hd] at h
      exact ⟨fun _ => h q a' (Nat.le_refl _) hA ha, fun z => absurd rfl z⟩
variable {s : WS}
theorem M_num {L : Nat} {neg : Bool} {q : Nat} {l : List Nat} (hT : Txt n tx mt) (he : e ≤ n) (hM : MW s m_there m_newMode m_newWay m_newFeed m_ends mn) (hL : L < 7) (hA : At tx e q l) (hx6 : x6 = 0 ↔ neg = false) (hneg : neg = true → 2 ≤ L ∧ L ≤ 5)
    (h0 : ∀ q' th mo wa fe en mn', q ≤ q' → let d := dgv l 0 0; ¬ (d.2.1 < 1 ∨ most L < d.2.1) → At tx e q' d.2.2 → (setw L (if neg = true then -d.1 else d.1) s).1 = 0 → MW (setw L (if neg = true then -d.1 else d.1) s).2 th mo wa fe en mn' → K35 (nI e) (nI q') (x4 + 1) th mo wa fe en mn')
    (h1 : ∀ f th mo wa fe en mn', let d := dgv l 0 0; f = (if d.2.1 < 1 ∨ most L < d.2.1 then 101 else (setw L (if neg = true then -d.1 else d.1) s).1) → ¬ f = 0 → Q f th mo wa fe en mn') :
    wq_M_read_153 Q K35 mt (nI e) (nI q) x4 (nI (wh L)) x6 m_there m_newMode m_newWay m_newFeed m_ends mn := by
  have hn := hT.1
  have hll : l.length ≤ 400 := by
    rw [← hA.2.1]
    have := lnf_len tx (e - q) q
    omega
  refine ⟨l.length + 1, M_dig hT he l q 0 0 0 hA (by omega) (fun _ => rfl) (fun q' b c1 c2 c3 => ?_) (by omega)⟩
  dsimp only at h0 h1
  obtain ⟨i, d1, d2, d3⟩ := dgv_drop l 0 0
  have hval := dgv_val l 0 0 (by decide)
  have ez : nI 0 = (0 : Int32) := rfl
  rw [ez] at hval
  generalize dgv l 0 0 = d at *
  have hmost := most_le L
  unfold wq_M_read_218
  have core : ∀ s0 : Int32, s0 = nI (most L) → wq_M_read_239 Q K35 mt (nI e) (nI q') x4 (nI (wh L)) x6 b (nI d.2.1) s0 m_there m_newMode m_newWay m_newFeed m_ends mn := by
    rintro s0 rfl
    unfold wq_M_read_239
    refine pk_lt d.2.1 1 (fun z => h1 101 _ _ _ _ _ _ (by rw [if_pos (Or.inl z)]) (by decide)) (fun z => pk_le d.2.1 (most L) (fun y => ?_) (fun y => h1 101 _ _ _ _ _ _ (by rw [if_pos (Or.inr y)]) (by decide)) rfl rfl (by omega) (by omega)) rfl (by decide) (by omega) (by omega)
    have good : ¬ (d.2.1 < 1 ∨ most L < d.2.1) := by omega
    rw [if_neg good] at h1
    rw [c3 (by omega)]
    obtain ⟨u, hu1, hu2⟩ := hval (by omega)
    have kp : ∀ x, x = (if neg = true then -d.1 else d.1) → wq_M_read_273 Q K35 mt (nI e) (nI q') x4 (nI (wh L)) x m_there m_newMode m_newWay m_newFeed m_ends mn := by
      rintro x rfl
      unfold wq_M_read_273
      refine M_keep hM hL (fun w => ?_) (fun th mo wa fe en mn' g => ?_)
      · rw [if_neg (fun v => by have := hneg v; omega), hu2]
        have : 10 ^ d.2.1 ≤ 10 ^ 5 := Nat.pow_le_pow_right (by decide) (by omega)
        exact nI_pos' (by omega)
      · refine ⟨fun z => ?_, fun z => h1 _ _ _ _ _ _ _ rfl (fun w => z (by rw [w]; decide))⟩
        have zf : (setw L (if neg = true then -d.1 else d.1) s).1 = 0 := by
          rcases setw_f L (if neg = true then -d.1 else d.1) s with w | w | w | w
          · exact w
          · rw [w] at z; exact absurd z (by decide)
          · rw [w] at z; exact absurd z (by decide)
          · rw [w] at z; exact absurd z (by decide)
        exact h0 q' _ _ _ _ _ _ c1 good c2 zf (g zf)
    refine ⟨fun v => kp _ (by rw [if_neg (by rw [hx6.mp v]; decide)]), fun v => kp _ ?_⟩
    have : neg = true := by
      rcases Bool.eq_false_or_eq_true neg with w | w
      · exact w
      · exact absurd (hx6.mpr w) v
    rw [if_pos this]
  have ew : ∀ L, L < 7 → ((4 ≤ wh L ∧ ¬ wh L = 4 → most L = 2) ∧ (wh L = 4 → most L = 5) ∧ (wh L < 4 → most L = 4)) := by decide
  obtain ⟨w1, w2, w3⟩ := ew L hL
  have hw := wh_lt L hL
  refine pk_le 4 (wh L) (fun z => ⟨fun y => core 2 ?_, fun y => core 5 ?_⟩) (fun z => core 4 ?_) (by decide) rfl (by omega) (by omega)
  · rw [w1 ⟨z, fun v => y (by rw [v]; decide)⟩]; rfl
  · rw [w2 ((nI_eq (b := 4) (by omega) (by omega)).mp y)]; rfl
  · rw [w3 z]; rfl
theorem M_word {L : Nat} {q : Nat} {l : List Nat} (hT : Txt n tx mt) (he : e ≤ n) (hM : MW s m_there m_newMode m_newWay m_newFeed m_ends mn) (hL : L < 7) (hA : At tx e q l)
    (h0 : ∀ q' th mo wa fe en mn', q ≤ q' → At tx e q' (word L l s).2.2 → (word L l s).1 = 0 → MW (word L l s).2.1 th mo wa fe en mn' → K35 (nI e) (nI q') (x4 + 1) th mo wa fe en mn')
    (h1 : ∀ f th mo wa fe en mn', f = (word L l s).1 → ¬ f = 0 → Q f th mo wa fe en mn') (s0 : Int32) (hs0 : s0 = if (2 ≤ L ∧ L ≤ 5) ∧ l.headD 0 = 45 then 1 else 0) :
    wq_M_read_103 Q K35 mt (nI e) (nI q) x4 (nI (wh L)) s0 m_there m_newMode m_newWay m_newFeed m_ends mn := by
  have hn := hT.1
  have hw : ∀ L, L < 7 → (wh L < 4 ↔ 2 ≤ L ∧ L ≤ 5) := by decide
  have hwL := hw L hL
  have hw7 := wh_lt L hL
  have go : ∀ (neg : Bool) (q1 : Nat) (l1 : List Nat) (x6 : Int32), q ≤ q1 → At tx e q1 l1 → sgn L l = (neg, l1) → (x6 = 0 ↔ neg = false) → (neg = true → 2 ≤ L ∧ L ≤ 5) → wq_M_read_153 Q K35 mt (nI e) (nI q1) x4 (nI (wh L)) x6 m_there m_newMode m_newWay m_newFeed m_ends mn := by
    intro neg q1 l1 x6 a1 a2 a3 a4 a5
    have ew : word L l s = (if (dgv l1 0 0).2.1 < 1 ∨ most L < (dgv l1 0 0).2.1 then (101, s, (dgv l1 0 0).2.2) else ((setw L (if neg = true then -(dgv l1 0 0).1 else (dgv l1 0 0).1) s).1, (setw L (if neg = true then -(dgv l1 0 0).1 else (dgv l1 0 0).1) s).2, (dgv l1 0 0).2.2)) := by
      unfold word
      rw [a3]
    refine M_num hT he hM hL a2 a4 a5 ?_ ?_
    · intro q' th mo wa fe en mn' b1
      dsimp only
      intro good b2 b3 b4
      rw [if_neg good] at ew
      rw [ew] at h0
      exact h0 q' th mo wa fe en mn' (by omega) b2 b3 b4
    · intro f th mo wa fe en mn'
      dsimp only
      intro b1 b2
      refine h1 f th mo wa fe en mn' ?_ b2
      rw [ew, b1]
      split <;> rfl
  have none : sgn L l = (false, l) → s0 = 0 → wq_M_read_131 Q K35 mt (nI e) (nI q) x4 (nI (wh L)) s0 m_there m_newMode m_newWay m_newFeed m_ends mn := by
    intro a1 a2
    subst a2
    unfold wq_M_read_131 wq_M_read_132
    exact ⟨fun z => absurd rfl z, fun _ => ⟨fun _ => go false q l 0 (Nat.le_refl _) hA a1 (by simp) (fun z => by cases z), fun z => absurd rfl z⟩⟩
  unfold wq_M_read_103
  cases l with
  | nil =>
    have e1 := hA.2.2.1 rfl
    have es : s0 = 0 := by rw [hs0, if_neg (fun z => absurd z.2 (by decide))]
    refine pk_le e q (fun _ => none ?_ es) (fun z => absurd z (by omega)) rfl rfl (by omega) (by omega)
    unfold sgn
    split <;> rfl
  | cons c l =>
    obtain ⟨a1, a2, a3⟩ := hA.2.2.2 c l rfl
    obtain ⟨t1, t2, t3⟩ := hT.2 q (by omega)
    rw [a2] at t1 t3
    refine pk_le e q (fun z => absurd z (by omega)) (fun _ => ⟨vp_in_nI (by omega) (by omega), ?_⟩) rfl rfl (by omega) (by omega)
    rw [nI_clamp (by omega), t1]
    have n43 : nI c = (43 : Int32) ↔ c = 43 := nI_eq (b := 43) (by omega) (by omega)
    have eh : (c :: l).headD 0 = c := rfl
    rw [eh] at hs0
    have minus : (2 ≤ L ∧ L ≤ 5) → c = 45 → wq_M_read_131 Q K35 mt (nI e) (nI q) x4 (nI (wh L)) s0 m_there m_newMode m_newWay m_newFeed m_ends mn := by
      intro b1 b2
      rw [if_pos ⟨b1, b2⟩] at hs0
      subst hs0
      unfold wq_M_read_131 wq_M_read_132 wq_M_read_144
      refine ⟨fun _ => M_skip1 hT he hA (fun q' c1 c2 => ?_), fun z => absurd z (by decide)⟩
      exact go true q' l 1 (by omega) c2 (by unfold sgn; rw [if_pos b1]; simp [b2]) (by simp) (fun _ => b1)
    refine ⟨fun z => ?_, fun z => pk_le 4 (wh L) (fun y => ?_) (fun y => ?_) (by decide) rfl (by omega) (by omega)⟩
    · have c43 : ¬ c = 43 := fun w => z (n43.mpr w)
      by_cases b1 : 2 ≤ L ∧ L ≤ 5
      · by_cases b2 : c = 45
        · exact minus b1 b2
        · exact none (by unfold sgn; rw [if_pos b1]; simp [b2, c43]) (by rw [hs0, if_neg (fun w => b2 w.2)])
      · exact none (sgn_false b1) (by rw [hs0, if_neg (fun w => b1 w.1)])
    · have b1 : ¬ (2 ≤ L ∧ L ≤ 5) := fun w => by have := hwL.mpr w; omega
      exact none (sgn_false b1) (by rw [hs0, if_neg (fun w => b1 w.1)])
    · have b1 : 2 ≤ L ∧ L ≤ 5 := hwL.mp y
      have c43 := n43.mp z
      have es : s0 = 0 := by rw [hs0, if_neg (fun w => by omega)]
      subst es
      unfold wq_M_read_132 wq_M_read_144
      refine ⟨fun w => absurd rfl w, fun _ => ⟨fun w => absurd w (by decide), fun _ => M_skip1 hT he hA (fun q' c1 c2 => ?_)⟩⟩
      exact go false q' l 0 (by omega) c2 (by unfold sgn; rw [if_pos b1]; simp [c43]) (by simp) (fun w => by cases w)
end MN
