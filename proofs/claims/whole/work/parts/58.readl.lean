def wd (c : Nat) (l : List Nat) (s : WS) : Int32 × WS × List Nat := match ltr c with
  | none => (101, s, l)
  | some L => word L l s
theorem rd_cons (n c : Nat) (l : List Nat) (s : WS) : rd (n + 1) (c :: l) s = if (wd c l s).1 = 0 then rd n (wd c l s).2.2 (wd c l s).2.1 else ((wd c l s).1, (wd c l s).2.1) := by
  show (match ltr c with | none => (101, s) | some L => if (word L l s).1 = 0 then rd n (word L l s).2.2 (word L l s).2.1 else ((word L l s).1, (word L l s).2.1)) = _
  unfold wd
  cases ltr c with
  | none => exact (if_neg (show ¬ (101 : Int32) = 0 from by decide)).symm
  | some L => rfl
section RL
variable {F : List Nat} {wr wz wn : Nat → Int32} {s : WS}
theorem W_readWord {Q : Int32 → Int32 → Int32 → Int32 → (Nat → Int32) → (Nat → Int32) → Prop} {k c : Nat} {l : List Nat} (hR : Row F wr) (hC : CW s s.2.1 s.2.2 wz wn) (hl : F.drop k = c :: l)
    (h : ∀ k' mo' di' z' n', k' ≤ F.length → ((wd c l s).1 = 0 → k < k' ∧ F.drop k' = (wd c l s).2.2 ∧ CW (wd c l s).2.1 mo' di' z' n') → Q (wd c l s).1 (nI k') mo' di' z' n') :
    wp_W_readWord (nI F.length) (nI k) s.2.1 s.2.2 wr wz wn Q := by
  obtain ⟨q1, q2, q3, q4⟩ := drop_hd hl
  have hc := hR.2.2 c q4
  have hr1 := hR.1
  unfold wp_W_readWord
  refine W_peekC hR hl (Js_ix hc ?_)
  unfold ixr
  unfold wd at h
  cases hL : ltr c with
  | none =>
    rw [hL] at h
    refine ⟨fun z => absurd z (by decide), fun _ => ?_⟩
    exact h k s.2.1 s.2.2 wz wn (by omega) (fun z => absurd (show (101 : Int32) = 0 from z) (by decide))
  | some L =>
    rw [hL] at h
    have hL7 := ltr_lt hL
    refine ⟨fun _ => ?_, fun z => absurd (nI_pos' (by omega)) z⟩
    rw [nI_add1]
    have w := fun (s0 : Int32) (e0 : s0 = if l.headD 0 = 45 then 1 else 0) => W_word (Q := Q) (L := L) (k := k + 1) (l := l) hR hC hL7 (by omega) q3 (fun k' mo' di' z' n' a1 a2 a3 a4 => h k' mo' di' z' n' a2 (fun z => ⟨by omega, a3, (a4 z).2⟩)) s0 e0
    have hb : l.headD 0 < 256 := by
      cases l with
      | nil => decide
      | cons b l => exact hR.2.2 b (drop_hd q3).2.2.2
    refine W_peek hR (by omega) q3 ⟨fun z => w 0 ?_, fun z => w 1 ?_⟩
    · rw [if_neg (fun q => z (by rw [q]; decide))]
    · rw [if_pos ((nI_eq (b := 45) (by omega) (by omega)).mp z)]
theorem W_rl {Q : Int32 → Int32 → Int32 → Int32 → Int32 → (Nat → Int32) → (Nat → Int32) → (Nat → Int32) → Prop} (hR : Row F wr) : ∀ (m : Nat) (l : List Nat) (k j : Nat) (s : WS) (wz wn : Nat → Int32), l.length ≤ m → F.drop k = l → j ≤ k → k ≤ F.length → CW s s.2.1 s.2.2 wz wn →
    (∀ a b mo' di' r' z' n', ((rd m l s).1 = 0 → CW (rd m l s).2 mo' di' z' n') → Q (rd m l s).1 a b mo' di' r' z' n') → wq_W_read_17 Q (m + 2) 0 (nI j) (nI F.length) (nI k) s.2.1 s.2.2 wr wz wn := by
  intro m
  have hr1 := hR.1
  induction m with
  | zero =>
    intro l k j s wz wn h1 hl hj hk hC h
    have e : l = [] := List.length_eq_zero_iff.mp (by omega)
    subst e
    have := drop_nil hl
    have hq := h (nI F.length) (nI k) s.2.1 s.2.2 wr wz wn (fun _ => hC)
    unfold wq_W_read_17
    refine ⟨fun _ => hq, fun _ => pk_le F.length k (fun z => hq) (fun z => absurd z (by omega)) rfl rfl (by omega) (by omega)⟩
  | succ m ih =>
    intro l k j s wz wn h1 hl hj hk hC h
    cases l with
    | nil =>
      have := drop_nil hl
      have hq := h (nI F.length) (nI k) s.2.1 s.2.2 wr wz wn (fun _ => hC)
      unfold wq_W_read_17
      refine ⟨fun _ => hq, fun _ => pk_le F.length k (fun z => hq) (fun z => absurd z (by omega)) rfl rfl (by omega) (by omega)⟩
    | cons c l =>
      obtain ⟨q1, q2, q3, q4⟩ := drop_hd hl
      unfold wq_W_read_17
      refine pk_le F.length j (fun z => absurd z (by omega)) (fun _ => pk_le F.length k (fun z => absurd z (by omega)) (fun _ => ⟨fun z => absurd rfl z, fun _ => ?_⟩) rfl rfl (by omega) (by omega)) rfl rfl (by omega) (by omega)
      refine W_readWord hR hC hl (fun k' mo' di' z' n' a1 a2 => ?_)
      rw [nI_add1]
      rw [rd_cons] at h
      by_cases hf : (wd c l s).1 = 0
      · obtain ⟨b1, b2, b3⟩ := a2 hf
        rw [if_pos hf] at h
        have hlen : (wd c l s).2.2.length = F.length - k' := by rw [← b2, List.length_drop]
        have hlen2 : (c :: l).length = F.length - k := by rw [← hl, List.length_drop]
        have := ih (wd c l s).2.2 k' (j + 1) (wd c l s).2.1 z' n' (by omega) b2 (by omega) a1 (by rw [← b3.1, ← b3.2.1]; exact b3) h
        rw [hf, b3.1, b3.2.1]
        exact this
      · rw [if_neg hf] at h
        have hq := fun a b r => h a b mo' di' r z' n' (fun z => absurd z hf)
        unfold wq_W_read_17
        exact ⟨fun _ => hq _ _ _, fun _ => ⟨fun _ => hq _ _ _, fun _ => ⟨fun _ => hq _ _ _, fun z => absurd z hf⟩⟩⟩
end RL
theorem W_forget {Q : Int32 → Int32 → (Nat → Int32) → Prop} {w_motion w_distances : Int32} {wz : Nat → Int32} (h : ∀ g : Nat → Int32, (∀ k, k < 7 → g k = 0) → Q (-1) (-1) g) : wp_W_forget w_motion w_distances wz Q := by
  have L : ∀ (d j : Nat) (g : Nat → Int32), j + d = 7 → (∀ k, k < j → g k = 0) → wq_W_forget_2 Q (d + 1) (nI j) w_motion w_distances g := by
    intro d
    induction d with
    | zero =>
      intro j g e hg
      unfold wq_W_forget_2
      exact pk_le 7 j (fun _ => h g (fun k hk => hg k (by omega))) (fun z => absurd z (by omega)) (by decide)
    | succ d ih =>
      intro j g e hg
      unfold wq_W_forget_2
      refine pk_le 7 j (fun z => absurd z (by omega)) (fun _ => ⟨vp_in_nI (by omega) (by omega), ?_⟩) (by decide)
      rw [nI_add1, nI_clamp (by omega), bool_0]
      refine ih (j + 1) _ (by omega) (fun k hk => ?_)
      by_cases q : k = j
      · rw [q, pk_us]
      · rw [pk_un q]; exact hg k (by omega)
  exact ⟨8, L 7 0 wz rfl (fun k hk => absurd hk (by omega))⟩
/-- the text: n codes tx, none of them 0 -/
def Txt (n : Nat) (tx : Nat → Nat) (f : Nat → Int32) : Prop := n ≤ 400 ∧ ∀ i, i < n → f i = nI (tx i) ∧ 1 ≤ tx i ∧ tx i < 256
def lnf (tx : Nat → Nat) : Nat → Nat → List Nat
  | _, 0 => []
  | i, d + 1 => if tx i = 32 then lnf tx (i + 1) d else tx i :: lnf tx (i + 1) d
theorem lnf_len (tx : Nat → Nat) : ∀ d i, (lnf tx i d).length ≤ d := by
  intro d
  induction d with
  | zero => intro i; exact Nat.le_refl _
  | succ d ih =>
    intro i
    unfold lnf
    have := ih (i + 1)
    split
    · omega
    · simp; omega
theorem lnf_lt {n : Nat} {tx : Nat → Nat} {f : Nat → Int32} (h : Txt n tx f) : ∀ d i, i + d ≤ n → ∀ c, c ∈ lnf tx i d → c < 256 := by
  intro d
  induction d with
  | zero => intro i hi c hc; cases hc
  | succ d ih =>
    intro i hi c hc
    unfold lnf at hc
    split at hc
    · exact ih (i + 1) (by omega) c hc
    · rcases List.mem_cons.mp hc with q | q
      · rw [q]; exact (h.2 i (by omega)).2.2
      · exact ih (i + 1) (by omega) c q
theorem T_code {Q : Int32 → Prop} {n i : Nat} {tx : Nat → Nat} {tc : Nat → Int32} (hT : Txt n tx tc) (hi : i < n) (h : Q (nI (tx i))) : wp_T_codeAt (nI i) (nI n) tc Q := by
  have hn := hT.1
  obtain ⟨t1, t2, t3⟩ := hT.2 i hi
  unfold wp_T_codeAt
  refine ⟨fun z => absurd z (nI_pos (by omega)), fun _ => pk_le n i (fun z => absurd z (by omega)) (fun _ => ⟨vp_in_nI (by omega) (by omega), ?_⟩) rfl rfl (by omega) (by omega)⟩
  rw [nI_clamp (by omega), t1]
  exact ⟨cZ_n t3, h⟩
theorem getD_app (G : List Nat) (c j : Nat) : (G ++ [c]).getD j 0 = if j < G.length then G.getD j 0 else if j = G.length then c else 0 := by
  rw [List.getD_eq_getElem?_getD, List.getD_eq_getElem?_getD]
  by_cases h : j < G.length
  · rw [if_pos h, List.getElem?_append_left h]
  · rw [if_neg h, List.getElem?_append_right (by omega)]
    by_cases e : j = G.length
    · rw [if_pos e, e, Nat.sub_self]; rfl
    · rw [if_neg e]
      have : j - G.length = (j - G.length - 1) + 1 := by omega
      rw [this]
      rfl
section TR
variable {Q : Int32 → Int32 → (Nat → Int32) → Prop} {n e : Nat} {tx : Nat → Nat} {tc : Nat → Int32}
theorem W_tr (hT : Txt n tx tc) (he : e ≤ n) : ∀ (d i : Nat) (G : List Nat) (wr : Nat → Int32), i + d = e → G.length ≤ i → (∀ j, j < G.length → wr j = nI (G.getD j 0)) →
    (∀ r', (∀ j, j < (G ++ lnf tx i d).length → r' j = nI ((G ++ lnf tx i d).getD j 0)) → Q (nI (G ++ lnf tx i d).length) 0 r') → wq_W_takeRow_13 Q (nI n) tc (d + 1) (nI e) (nI i) (nI G.length) 0 wr := by
  intro d
  have hn := hT.1
  induction d with
  | zero =>
    intro i G wr e1 e2 hG h
    unfold wq_W_takeRow_13
    refine pk_le e i (fun _ => ?_) (fun z => absurd z (by omega)) rfl rfl (by omega) (by omega)
    have : G ++ lnf tx i 0 = G := List.append_nil G
    rw [this] at h
    exact h wr hG
  | succ d ih =>
    intro i G wr e1 e2 hG h
    unfold wq_W_takeRow_13
    obtain ⟨t1, t2, t3⟩ := hT.2 i (by omega)
    refine pk_le e i (fun z => absurd z (by omega)) (fun _ => pk_le 400 G.length (fun z => absurd z (by omega)) (fun _ => ?_) (by decide) rfl (by omega) (by omega)) rfl rfl (by omega) (by omega)
    refine T_code hT (by omega) ?_
    unfold wq_W_takeRow_65
    rw [nI_add1, nI_add1]
    refine ⟨fun z => ?_, fun z => T_code hT (by omega) ⟨vp_in_nI (by omega) (by omega), ?_⟩⟩
    · have q : tx i = 32 := (nI_eq (b := 32) (by omega) (by omega)).mp z
      refine ih (i + 1) G wr (by omega) (by omega) hG ?_
      have el : lnf tx i (d + 1) = lnf tx (i + 1) d := by
        show (if tx i = 32 then lnf tx (i + 1) d else tx i :: lnf tx (i + 1) d) = _
        rw [if_pos q]
      rw [el] at h
      exact h
    · have q : ¬ tx i = 32 := fun q => z (by rw [q]; decide)
      have el : lnf tx i (d + 1) = tx i :: lnf tx (i + 1) d := by
        show (if tx i = 32 then lnf tx (i + 1) d else tx i :: lnf tx (i + 1) d) = _
        rw [if_neg q]
      have ea : G ++ lnf tx i (d + 1) = (G ++ [tx i]) ++ lnf tx (i + 1) d := by rw [el]; simp
      rw [ea] at h
      have eL : (G ++ [tx i]).length = G.length + 1 := by simp
      rw [← eL, nI_clamp (by omega)]
      refine ih (i + 1) (G ++ [tx i]) _ (by omega) (by omega) (fun j hj => ?_) h
      rw [getD_app]
      have ec : vp_nar .char (nI (tx i)) = nI (tx i) := by
        unfold vp_nar
        rw [(pk_charN (by omega)).1]
      by_cases q2 : j < G.length
      · rw [if_pos q2, pk_un (by omega)]; exact hG j q2
      · have q3 : j = G.length := by omega
        rw [if_neg q2, if_pos q3, q3, pk_us, ec]
end TR
/-- the first fault of a line, or its words -/
def ws0 : WS := (fun _ => none, -1, -1)
def ln (tx : Nat → Nat) (i e : Nat) : Int32 × WS := rd (lnf tx i (e - i)).length (lnf tx i (e - i)) ws0
theorem W_read {Q : Int32 → Int32 → Int32 → Int32 → Int32 → (Nat → Int32) → (Nat → Int32) → (Nat → Int32) → Prop} {n i e : Nat} {tx : Nat → Nat} {tc : Nat → Int32} {w_rowSize w_at w_motion w_distances : Int32} {wr wz wn : Nat → Int32} (hT : Txt n tx tc) (hi : i ≤ e) (he : e ≤ n)
    (h : ∀ a b mo' di' r' z' n', ((ln tx i e).1 = 0 → CW (ln tx i e).2 mo' di' z' n') → Q (ln tx i e).1 a b mo' di' r' z' n') : wp_W_read (nI i) (nI e) (nI n) tc w_rowSize w_at w_motion w_distances wr wz wn Q := by
  have hn := hT.1
  unfold wp_W_read
  refine W_forget (fun g hg => ?_)
  have hlen := lnf_len tx (e - i) i
  unfold wp_W_takeRow
  refine ⟨_, W_tr hT he (e - i) i [] wr (by omega) (by simp) (fun j hj => absurd hj (by simp)) (fun r' hr => ?_)⟩
  rw [List.nil_append] at hr ⊢
  have hR : Row (lnf tx i (e - i)) r' := ⟨by omega, hr, lnf_lt hT (e - i) i (by omega)⟩
  refine ⟨_, W_rl hR (lnf tx i (e - i)).length (lnf tx i (e - i)) 0 0 ws0 g wn (Nat.le_refl _) rfl (Nat.le_refl _) (Nat.zero_le _) ⟨rfl, rfl, fun k h1 h2 => Or.inl ⟨rfl, hg k (by omega)⟩⟩ h⟩
