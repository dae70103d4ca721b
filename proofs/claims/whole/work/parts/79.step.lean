/-! steps of the abstract machine: pulses, looks; what stays true; the measure -/
def pau (mo fe : Int32) : Int64 := if mo = 0 then 100 else (((1000000 : Int32) + fe - (1 : Int32)) / fe).toInt64
abbrev aSt (S : AS) : Int32 := S.2.2.2.2.2.2.2.2.2.1
abbrev aQ (S : AS) : Nat := S.2.2.2.2.2.2.2.2.2.2.1
abbrev aN (S : AS) : Nat := S.2.2.2.2.2.2.2.2.2.2.2.2.1
abbrev aK (S : AS) : Nat := S.2.2.2.2.2.2.2.2.2.2.2.2.2.1
def pl : AS → AS := fun (x, y, tm, pu, la, fe, mo, re, en, st, q, li, N, k, p) => ((p (k + 1)).1, (p (k + 1)).2, tm + pau mo fe, pu + 1, lst (p k) (p (k + 1)), fe, mo, re, en, st, q, li, N, k + 1, p)
def itp : Nat → AS → AS
  | 0, S => S
  | c + 1, S => itp c (pl S)
theorem pl_ks (S : AS) : aSt (pl S) = aSt S ∧ aQ (pl S) = aQ S ∧ aN (pl S) = aN S ∧ aK (pl S) = aK S + 1 := by
  obtain ⟨x, y, tm, pu, la, fe, mo, re, en, st, q, li, N, k, p⟩ := S
  exact ⟨rfl, rfl, rfl, rfl⟩
theorem itp_ks : ∀ (c : Nat) (S : AS), aSt (itp c S) = aSt S ∧ aQ (itp c S) = aQ S ∧ aN (itp c S) = aN S ∧ aK (itp c S) = aK S + c := by
  intro c
  induction c with
  | zero => intro S; exact ⟨rfl, rfl, rfl, rfl⟩
  | succ c ih =>
    intro S
    have h := ih (pl S)
    obtain ⟨p1, p2, p3, p4⟩ := pl_ks S
    unfold itp
    rw [p1, p2, p3, p4] at h
    exact ⟨h.1, h.2.1, h.2.2.1, by omega⟩
theorem lN_sp (c : Nat) (t P : Int64) : t + P + lN c * P = t + lN (c + 1) * P := by
  have : lN (c + 1) = lN c + 1 := Int64.ofNat_add c 1
  rw [this]
  grind
theorem itp_eq : ∀ (c : Nat) (x y : Int32) (tm : Int64) (pu la fe mo re en st : Int32) (q : Nat) (li : Int32) (N k : Nat) (p : PT), itp (c + 1) (x, y, tm, pu, la, fe, mo, re, en, st, q, li, N, k, p) = ((p (k + (c + 1))).1, (p (k + (c + 1))).2, tm + lN (c + 1) * pau mo fe, pu + nI (c + 1), lst (p (k + c)) (p (k + (c + 1))), fe, mo, re, en, st, q, li, N, k + (c + 1), p) := by
  intro c
  induction c with
  | zero =>
    intro x y tm pu la fe mo re en st q li N k p
    have e : lN (0 + 1) * pau mo fe = pau mo fe := by
      have : lN (0 + 1) = 1 := rfl
      rw [this]; grind
    rw [e]
    rfl
  | succ c ih =>
    intro x y tm pu la fe mo re en st q li N k p
    have := ih (p (k + 1)).1 (p (k + 1)).2 (tm + pau mo fe) (pu + 1) (lst (p k) (p (k + 1))) fe mo re en st q li N (k + 1) p
    have e0 : itp (c + 1 + 1) (x, y, tm, pu, la, fe, mo, re, en, st, q, li, N, k, p) = itp (c + 1) ((p (k + 1)).1, (p (k + 1)).2, tm + pau mo fe, pu + 1, lst (p k) (p (k + 1)), fe, mo, re, en, st, q, li, N, k + 1, p) := rfl
    rw [e0, this]
    have e1 : k + 1 + (c + 1) = k + (c + 1 + 1) := by omega
    have e2 : k + 1 + c = k + (c + 1) := by omega
    have e3 : pu + 1 + nI (c + 1) = pu + nI (c + 1 + 1) := by
      rw [← nI_add1 (c + 1)]
      grind
    rw [e1, e2, e3, lN_sp]
theorem Inv.pl {n : Nat} {S : AS} (h : Inv n S) (hk : aK S < aN S) : Inv n (pl S) := by
  obtain ⟨x, y, tm, pu, la, fe, mo, re, en, st, q, li, N, k, p⟩ := S
  obtain ⟨i1, i2, i3, i4, i5, i6, i7, i8, i9⟩ := h
  have hk' : k < N := hk
  obtain ⟨j1, j2, j3⟩ := i9 hk'
  obtain ⟨X, Y, e, X1, X2, Y1, Y2⟩ := j3 (k + 1) (by omega)
  refine ⟨?_, ?_, i3, i4, by omega, i6, i7, fun z => ?_, fun z => ⟨rfl, j2, j3⟩⟩
  · rw [e, iI_t (by omega) (by omega)]; omega
  · rw [e, iI_t (by omega) (by omega)]; omega
  · have := i8 z; omega
theorem Inv.itp {n : Nat} : ∀ (c : Nat) {S : AS}, Inv n S → aK S + c ≤ aN S → Inv n (itp c S) := by
  intro c
  induction c with
  | zero => intro S h _; exact h
  | succ c ih =>
    intro S h hk
    obtain ⟨p1, p2, p3, p4⟩ := pl_ks S
    exact ih (h.pl (by omega)) (by rw [p3, p4]; omega)
/-- an outcome's way stays within the limits -/
theorem mvo_ok {x y mo gX gY i j : Int} (x1 : -200 ≤ x) (x2 : x ≤ 200) (y1 : -200 ≤ y) (y2 : y ≤ 200) (i1 : -9999 ≤ i) (i2 : i ≤ 9999) (j1 : -9999 ≤ j) (j2 : j ≤ 9999) {f : Int32} {N : Nat} {p : PT} (h : mvo x y mo gX gY i j = (f, some (N, p))) : f = 0 ∧ N ≤ 2400 ∧ (1 ≤ N → (iI x, iI y) = p 0 ∧ ∀ k, k ≤ N → ∃ X Y : Int, p k = (iI X, iI Y) ∧ -200 ≤ X ∧ X ≤ 200 ∧ -200 ≤ Y ∧ Y ≤ 200) := by
  unfold mvo at h
  by_cases c0 : mo < 2
  · rw [if_pos c0] at h
    by_cases c1 : -200 ≤ gX ∧ gX ≤ 200 ∧ -200 ≤ gY ∧ gY ≤ 200
    · rw [if_pos c1] at h
      cases h
      refine ⟨rfl, by unfold sN; omega, fun hN => ⟨(pS_0 hN).symm, fun k hk => pS_in x1 x2 y1 y2 (by omega) (by omega) (by omega) (by omega) hN hk⟩⟩
    · rw [if_neg c1] at h
      cases h
  · rw [if_neg c0] at h
    by_cases c1 : i * i + j * j = 0 ∨ ¬ (gX - (x + i)) * (gX - (x + i)) + (gY - (y + j)) * (gY - (y + j)) = i * i + j * j
    · rw [if_pos c1] at h
      cases h
    · rw [if_neg c1] at h
      rw [not_or, Classical.not_not] at c1
      by_cases c2 : inL (i * i + j * j).toNat (x + i) (y + j)
      · rw [cif_pos c2] at h
        have z1 := sq_0 i
        have z2 := sq_0 j
        obtain ⟨R, hR⟩ := Int.eq_ofNat_of_zero_le (a := i * i + j * j) (by omega)
        have eN : (i * i + j * j).toNat = R := by omega
        rw [eN] at c2
        have hR2 := inL_le c2
        have ht : (if mo = 3 then (1 : Int) else -1) = 1 ∨ (if mo = 3 then (1 : Int) else -1) = -1 := by
          by_cases q : mo = 3
          · left; rw [if_pos q]
          · right; rw [if_neg q]
        obtain ⟨m, g, hC⟩ := CircN.mk (R := R) (by omega) (by omega)
        have hc := hC.1
        have neg_sq : -i * -i + -j * -j = (R : Int) := by
          rw [Int.neg_mul_neg, Int.neg_mul_neg]; exact hR
        obtain ⟨F, N', ha⟩ := hc.arc ht neg_sq (c1.2.trans hR)
        have hA : IsArc R (if mo = 3 then (1 : Int) else -1) (-i) (-j) (gX - (x + i)) (gY - (y + j)) (x + i) (y + j) N' (fun k => (iI (x + i + (cP m g (F + (if mo = 3 then (1 : Int) else -1) * k)).1), iI (y + j + (cP m g (F + (if mo = 3 then (1 : Int) else -1) * k)).2))) := ⟨m, g, hc, F, ha, fun k => rfl⟩
        rw [hR, arcO_eq ht hA] at h
        have h1 := (Prod.mk.inj h).1
        have h2 := Prod.mk.inj (Option.some.inj (Prod.mk.inj h).2)
        obtain ⟨h2, h3⟩ := h2
        subst h2
        subst h3
        refine ⟨h1.symm, ?_, fun hN => ⟨?_, fun k _ => hA.in ht c2 k⟩⟩
        · have a5 := ha.2.2.2.2.1
          obtain ⟨w, hw⟩ := W_ex R
          have g0 := hc.g0 hw
          have hm := hc.2.1
          have mono := hc.mono (u := 0) (v := (m : Int)) (by omega) hm (Int.le_refl _)
          obtain ⟨w', w1, w2, w3, w4, w5⟩ := c2
          have e := w1.uniq hw
          have gm := hc.gm
          unfold cs_s at a5
          omega
        · have a3 := ha.2.2.1
          show (iI x, iI y) = (iI (x + i + (cP m g (F + (if mo = 3 then (1 : Int) else -1) * ((0 : Nat) : Int))).1), iI (y + j + (cP m g (F + (if mo = 3 then (1 : Int) else -1) * ((0 : Nat) : Int))).2))
          rw [show F + (if mo = 3 then (1 : Int) else -1) * ((0 : Nat) : Int) = F by omega, a3]
          dsimp only
          rw [show x + i + -i = x by omega, show y + j + -j = y by omega]
      · rw [cif_neg c2] at h
        cases h
theorem smv_ok {x y mo fe re : Int32} {s : WS} (hs : WOK s) (x1 : -200 ≤ x.toInt) (x2 : x.toInt ≤ 200) (y1 : -200 ≤ y.toInt) (y2 : y.toInt ≤ 200) {f : Int32} {N : Nat} {p : PT} (h : smv x y mo fe re s = (f, some (N, p))) : f = 0 ∧ N ≤ 2400 ∧ (mo = 0 ∨ ¬ fe = 0) ∧ (1 ≤ N → (x, y) = p 0 ∧ ∀ k, k ≤ N → ∃ X Y : Int, p k = (iI X, iI Y) ∧ -200 ≤ X ∧ X ≤ 200 ∧ -200 ≤ Y ∧ Y ≤ 200) := by
  unfold smv at h
  split at h
  · cases h
  · split at h
    · cases h
    · split at h
      · cases h
      · rename_i c
        have bi := nm_in (o := s.1 4) (fun v e => hs.1 4 v (by omega) (by omega) e)
        have bj := nm_in (o := s.1 5) (fun v e => hs.1 5 v (by omega) (by omega) e)
        have := mvo_ok x1 x2 y1 y2 bi.1 bi.2 bj.1 bj.2 h
        rw [iI_of, iI_of] at this
        refine ⟨this.1, this.2.1, ?_, this.2.2⟩
        by_cases z : mo = 0
        · exact Or.inl z
        · exact Or.inr (fun w => c ⟨z, w⟩)
theorem feA_in {s : WS} {fe : Int32} (hs : WOK s) (h : 0 ≤ fe.toInt ∧ fe.toInt ≤ 10000) : 0 ≤ (feA s fe).toInt ∧ (feA s fe).toInt ≤ 10000 := by
  unfold feA
  cases e : s.1 6 with
  | none => exact h
  | some v =>
    have := hs.2.2 v e
    rw [ti_le, ti_le, show (1 : Int32).toInt = 1 from rfl, show (10000 : Int32).toInt = 10000 from by decide] at this
    show 0 ≤ v.toInt ∧ v.toInt ≤ 10000
    omega
def mu (n : Nat) (S : AS) : Nat := (aN S - aK S) + 2401 * (n + 2 - aQ S) + (if aSt S = 0 then 1 else 0)
theorem Fl_ne {f : Int32} (h : Fl f) (hz : ¬ f = 0) : 0 < f := by
  rcases h with h | h | h | h | h
  · exact absurd h hz
  all_goals rw [h]; decide
/-- after a look: what stays true, what grows -/
theorem lk_ok {n : Nat} {tx : Nat → Nat} {S : AS} (hI : Inv n S) (hst : aSt S = 0) (hk : aK S = aN S) : Inv n (lk n tx S) ∧ (aSt (lk n tx S) = 0 → aQ S < n ∧ aQ S + 1 ≤ aQ (lk n tx S)) ∧ mu n (lk n tx S) + 1 ≤ mu n S := by
  obtain ⟨x, y, tm, pu, la, fe, mo, re, en, st, q, li, N, k, p⟩ := S
  obtain ⟨i1, i2, i3, i4, i5, i6, i7, i8, i9⟩ := hI
  have hst' : st = 0 := hst
  have hk' : k = N := hk
  subst hk'
  subst hst'
  generalize hT : lk n tx (x, y, tm, pu, la, fe, mo, re, en, 0, q, li, k, k, p) = T
  unfold lk at hT
  dsimp only at hT
  by_cases c0 : ¬ en = 0 ∨ n ≤ q
  · rw [if_pos c0] at hT
    subst hT
    refine ⟨⟨i1, i2, i3, i4, i5, i6, i7, fun _ => rfl, fun z => absurd z (by omega)⟩, fun z => absurd z (by dsimp only [aSt]; decide), ?_⟩
    unfold mu
    dsimp only [aSt, aN, aK, aQ]
    rw [if_neg (by decide), if_pos rfl]
    omega
  · rw [if_neg c0] at hT
    have hq : q < n := by
      rcases Nat.lt_or_ge q n with z | z
      · exact z
      · exact absurd (Or.inr z) c0
    have hle := le_in (tx := tx) (n := n) (q := q) (by omega)
    have hok := ln_ok tx q (le tx n q)
    generalize ln tx q (le tx n q) = r at *
    by_cases c1 : ¬ r.1 = 0
    · rw [if_pos c1] at hT
      subst hT
      refine ⟨⟨i1, i2, i3, i4, i5, i6, by omega, fun _ => rfl, fun z => absurd z (by omega)⟩, fun z => absurd z c1, ?_⟩
      unfold mu
      dsimp only [aSt, aN, aK, aQ]
      rw [if_neg c1, if_pos rfl]
      omega
    · rw [if_neg c1] at hT
      cases e : smv x y (moA r.2 mo) (feA r.2 fe) (reA r.2 re) r.2 with
      | mk f o =>
        rw [e] at hT
        cases o with
        | none =>
          unfold lkO at hT
          dsimp only at hT
          subst hT
          refine ⟨⟨i1, i2, moA_in hok.1 i3, feA_in hok.1 i4, i5, i6, by omega, fun _ => rfl, fun z => absurd z (by omega)⟩, fun z => ⟨hq, by dsimp only [aQ]; omega⟩, ?_⟩
          unfold mu
          dsimp only [aSt, aN, aK, aQ]
          rw [if_pos rfl]
          by_cases c2 : f = 0
          · rw [if_pos c2]; omega
          · rw [if_neg c2]; omega
        | some o =>
          obtain ⟨N', p'⟩ := o
          have ok := smv_ok hok.1 i1.1 i1.2 i2.1 i2.2 e
          have fi := feA_in hok.1 i4
          unfold lkO at hT
          dsimp only at hT
          subst hT
          refine ⟨⟨i1, i2, moA_in hok.1 i3, fi, by omega, ok.2.1, by omega, fun z => absurd ok.1 z, fun z => ⟨(ok.2.2.2 (by omega)).1, ?_, (ok.2.2.2 (by omega)).2⟩⟩, fun z => ⟨hq, by dsimp only [aQ]; omega⟩, ?_⟩
          · refine ok.2.2.1.imp id (fun w => ?_)
            rcases (by omega : (feA r.2 fe).toInt = 0 ∨ 1 ≤ (feA r.2 fe).toInt) with u | u
            · exact absurd (ti_eq (b := 0) u) w
            · exact u
          · unfold mu
            dsimp only [aSt, aN, aK, aQ]
            rw [if_pos ok.1, if_pos rfl]
            have := ok.2.1
            omega
noncomputable def stp (n : Nat) (tx : Nat → Nat) (c : Nat × AS) : Nat × AS := if aK c.2 < aN c.2 then (c.1 + 1, pl c.2) else (c.1, lk n tx c.2)
noncomputable def it (M n : Nat) (tx : Nat → Nat) : Nat → Nat × AS → Nat × AS
  | 0, c => c
  | J + 1, c => if c.1 < M ∧ aSt c.2 = 0 then it M n tx J (stp n tx c) else c
theorem it_stop {M n : Nat} {tx : Nat → Nat} {J : Nat} {c : Nat × AS} (h : ¬ (c.1 < M ∧ aSt c.2 = 0)) : it M n tx J c = c := by
  cases J with
  | zero => rfl
  | succ J => unfold it; rw [if_neg h]
theorem it_pls {M n : Nat} {tx : Nat → Nat} : ∀ (c J d : Nat) (S : AS), aSt S = 0 → d + c ≤ M → aK S + c ≤ aN S → it M n tx (J + c) (d, S) = it M n tx J (d + c, itp c S) := by
  intro c
  induction c with
  | zero => intro J d S _ _ _; rfl
  | succ c ih =>
    intro J d S h1 h2 h3
    obtain ⟨p1, p2, p3, p4⟩ := pl_ks S
    have e : it M n tx (J + (c + 1)) (d, S) = it M n tx (J + c) (stp n tx (d, S)) := by
      show (if d < M ∧ aSt S = 0 then it M n tx (J + c) (stp n tx (d, S)) else (d, S)) = _
      rw [if_pos ⟨by omega, h1⟩]
    have e2 : stp n tx (d, S) = (d + 1, pl S) := by
      show (if aK S < aN S then (d + 1, pl S) else (d, lk n tx S)) = _
      rw [if_pos (by omega)]
    rw [e, e2, ih J (d + 1) (pl S) (by rw [p1]; exact h1) (by omega) (by rw [p3, p4]; omega)]
    rw [show d + 1 + c = d + (c + 1) by omega]
    rfl
theorem it_lk {M n : Nat} {tx : Nat → Nat} (J d : Nat) (S : AS) (h1 : aSt S = 0) (h2 : d < M) (h3 : aK S = aN S) : it M n tx (J + 1) (d, S) = it M n tx J (d, lk n tx S) := by
  have e : it M n tx (J + 1) (d, S) = it M n tx J (stp n tx (d, S)) := by
    show (if d < M ∧ aSt S = 0 then it M n tx J (stp n tx (d, S)) else (d, S)) = _
    rw [if_pos ⟨h2, h1⟩]
  have e2 : stp n tx (d, S) = (d, lk n tx S) := by
    show (if aK S < aN S then (d + 1, pl S) else (d, lk n tx S)) = _
    rw [if_neg (by omega)]
  rw [e, e2]
theorem mu_itp {n : Nat} {c : Nat} {S : AS} (h : aK S + c ≤ aN S) : mu n (itp c S) + c = mu n S := by
  obtain ⟨h1, h2, h3, h4⟩ := itp_ks c S
  unfold mu
  rw [h1, h2, h3, h4]
  omega
