/-! change: lists -/
def isH (h : Nat) (e : Lk) : Bool := decide (4 ≤ e.2.1) && e.2.2 == h
def sbH (h t : Nat) (e : Lk) : Lk := if isH h e = true then (e.1, e.2.1, t) else e
/-- the first of each stays -/
def ddup : List Lk → List Lk
  | [] => []
  | e :: l => e :: (ddup l).filter (fun x => !(x == e))
theorem ddup_cons (e : Lk) (l : List Lk) : ddup (e :: l) = e :: (ddup l).filter (fun x => !(x == e)) := rfl
theorem fil_comm (p q : Lk → Bool) (l : List Lk) : (l.filter p).filter q = (l.filter q).filter p := by
  rw [List.filter_filter, List.filter_filter]
  congr 1
  funext x
  exact Bool.and_comm _ _
theorem ddup_G (x : Lk) (c : List Lk) : ∀ a : List Lk, (ddup (a ++ x :: c)).filter (fun y => !(y == x)) = (ddup (a ++ c)).filter (fun y => !(y == x)) := by
  intro a
  induction a with
  | nil =>
    show (ddup (x :: c)).filter _ = (ddup c).filter _
    rw [ddup_cons, List.filter_cons, if_neg (by simp), List.filter_filter]
    congr 1
    funext y
    simp
  | cons z a ih =>
    show (ddup (z :: (a ++ x :: c))).filter _ = (ddup (z :: (a ++ c))).filter _
    rw [ddup_cons, ddup_cons, List.filter_cons, List.filter_cons, fil_comm, ih, fil_comm]
theorem ddup_F2 {x : Lk} {c : List Lk} : ∀ {a : List Lk}, x ∈ a → ddup (a ++ x :: c) = ddup (a ++ c) := by
  intro a
  induction a with
  | nil => intro h; simp at h
  | cons y a ih =>
    intro h
    show ddup (y :: (a ++ x :: c)) = ddup (y :: (a ++ c))
    rw [ddup_cons, ddup_cons]
    by_cases q : x = y
    · subst q
      rw [ddup_G]
    · rcases List.mem_cons.mp h with h | h
      · exact absurd h q
      · rw [ih h]
theorem ddup_id : ∀ {l : List Lk}, l.Nodup → ddup l = l := by
  intro l
  induction l with
  | nil => intro _; rfl
  | cons e l ih =>
    intro h
    obtain ⟨h1, h2⟩ := List.nodup_cons.mp h
    rw [ddup_cons, ih h2, List.filter_eq_self.mpr]
    intro x hx
    have : x ≠ e := fun q => h1 (q ▸ hx)
    simpa using this
section CG
variable {R : Nat} {lv : Nat → Bool} {ho cc : Nat → Nat} {cm : Nat → Int32} {mo : Int32} {h t : Nat} {L0 : List Lk}
theorem isH_sub (hne : ¬ h = t) (e : Lk) (he : isH h e = true) : isH h (e.1, e.2.1, t) = false := by
  have : ¬ t = h := fun q => hne q.symm
  unfold isH
  simp [this]
theorem sbH_h {e : Lk} (he : isH h e = true) : sbH h t e = (e.1, e.2.1, t) := by rw [sbH, if_pos he]
theorem sbH_n {e : Lk} (he : isH h e = false) : sbH h t e = e := by rw [sbH, he]; simp
def anyH (h : Nat) (l : List Lk) (r : Nat) : Bool := l.any (fun e => isH h e && e.1 == r)
/-- what a run of steps keeps -/
def CG (h t R : Nat) (lv : Nat → Bool) (ho : Nat → Nat) (L0 C : List Lk) (P : Nat → Bool) (n : Nat) : Prop :=
  ddup (C.map (sbH h t)) = ddup (L0.map (sbH h t)) ∧ IL R lv C ∧ IH lv ho C ∧ (∀ r, (P r || anyH h C r) = anyH h L0 r) ∧ n + C.countP (isH h) = L0.countP (isH h)
theorem IL_putH {a b : List Lk} {f d u t : Nat} (hL : IL R lv (a ++ (f, d, u) :: b)) (hd4 : 4 ≤ d) (h1 : 1 ≤ t) (h2 : t ≤ 99) (hn : ¬ (f, d, t) ∈ a ++ b) : IL R lv (a ++ (f, d, t) :: b) := by
  have hm := IL_mid hL
  refine ⟨fun x hx => ?_, nd_mid.mpr ⟨hm.2.1, hn⟩, ?_, fun f' d' => ?_⟩
  · rcases mem_mid.mp hx with q | q
    · subst q
      obtain ⟨q1, q2, q3, q4⟩ := hL.1 (f, d, u) (mem_mid.mpr (Or.inl rfl))
      exact ⟨q1, q2, fun q => absurd q (by show ¬ d < 4; omega), fun _ => ⟨h1, h2⟩⟩
    · exact hm.1 x q
  · have := hL.2.2.1
    rw [List.length_append, List.length_cons] at this ⊢
    exact this
  · have := hL.2.2.2 f' d'
    rw [cntF_mid] at this ⊢
    exact this
theorem any_mid (a b : List Lk) (e : Lk) (r : Nat) : anyH h (a ++ e :: b) r = (anyH h (a ++ b) r || (isH h e && e.1 == r)) := by
  unfold anyH
  rw [List.any_append, List.any_append, List.any_cons]
  cases (a.any fun e => isH h e && e.1 == r) <;> cases (b.any fun e => isH h e && e.1 == r) <;> cases (isH h e && e.1 == r) <;> rfl
theorem cnt_mid (a b : List Lk) (e : Lk) : (a ++ e :: b).countP (isH h) = (a ++ b).countP (isH h) + (if isH h e = true then 1 else 0) := by
  rw [List.countP_append, List.countP_append, List.countP_cons]
  omega
/-- the list behind a step: o is where the twin stands, m where e stands -/
def stepL (P1 Q : List Lk) (e' : Lk) (m : Nat) (o : Option Nat) : List Lk := match o with
  | none => P1 ++ e' :: Q
  | some k => if k < m then P1 ++ Q else P1 ++ e' :: Q.eraseIdx (k - m - 1)
theorem CG_step {P1 Q : List Lk} {f d : Nat} {P : Nat → Bool} {n : Nat} (hne : ¬ h = t) (ht1 : 1 ≤ t) (ht2 : t ≤ 99) (hd4 : 4 ≤ d) (hC : CG h t R lv ho L0 (P1 ++ (f, d, h) :: Q) P n) : CG h t R lv ho L0 (stepL P1 Q (f, d, t) P1.length (fdS (f, d, t) 0 (P1 ++ (f, d, h) :: Q))) (fun j => P j || j == f) (n + 1) := by
  obtain ⟨c1, c2, c3, c4, c5⟩ := hC
  have hH : isH h (f, d, h) = true := by simp [isH, hd4]
  have hH' : isH h (f, d, t) = false := isH_sub hne (f, d, h) hH
  have hd0 : ¬ d = 0 := by omega
  have hs : sbH h t (f, d, h) = (f, d, t) := sbH_h hH
  have hs' : sbH h t (f, d, t) = (f, d, t) := sbH_n hH'
  have hnn : ¬ ((f, d, t) : Lk) = (f, d, h) := fun q => hne (congrArg (fun v => v.2.2) q).symm
  have hany : ∀ r, (P r || anyH h (P1 ++ (f, d, h) :: Q) r) = ((P r || r == f) || anyH h (P1 ++ Q) r) := by
    intro r
    rw [any_mid, hH, Bool.true_and]
    have : (f == r) = (r == f) := by
      by_cases q : f = r
      · subst q; rfl
      · rw [beq_false_of_ne q, beq_false_of_ne (Ne.symm q)]
    show (P r || (anyH h (P1 ++ Q) r || (f == r))) = _
    rw [this]
    cases P r <;> cases (r == f) <;> cases anyH h (P1 ++ Q) r <;> rfl
  have hcnt : (P1 ++ (f, d, h) :: Q).countP (isH h) = (P1 ++ Q).countP (isH h) + 1 := by
    rw [cnt_mid, if_pos hH]
  cases hq : fdS (f, d, t) 0 (P1 ++ (f, d, h) :: Q) with
  | none =>
    have hno : ¬ (f, d, t) ∈ P1 ++ Q := fun q => (fdS_none.mp hq) (mem_mid.mpr (Or.inr q))
    show CG h t R lv ho L0 (P1 ++ (f, d, t) :: Q) _ _
    refine ⟨?_, IL_putH c2 hd4 ht1 ht2 hno, IH_put hd0 c3, fun r => ?_, ?_⟩
    · rw [← c1, List.map_append, List.map_append, List.map_cons, List.map_cons, hs, hs']
    · rw [← c4 r, hany r, any_mid, hH', Bool.false_and, Bool.or_false]
    · rw [cnt_mid, hH', if_neg (show ¬ false = true by decide)]
      rw [hcnt] at c5
      omega
  | some k =>
    obtain ⟨-, q2⟩ := fdS_some hq
    rw [Nat.sub_zero] at q2
    by_cases ck : k < P1.length
    · have hmem : (f, d, t) ∈ P1 := by
        rw [List.getElem?_append_left ck] at q2
        exact List.mem_of_getElem? q2
      show CG h t R lv ho L0 (if k < P1.length then P1 ++ Q else P1 ++ (f, d, t) :: Q.eraseIdx (k - P1.length - 1)) _ _
      rw [if_pos ck]
      refine ⟨?_, IL_mid c2, IH_mid hd0 c3, fun r => ?_, ?_⟩
      · rw [← c1, List.map_append, List.map_append, List.map_cons, hs]
        have hm2 : (f, d, t) ∈ P1.map (sbH h t) := List.mem_map.mpr ⟨_, hmem, hs'⟩
        rw [ddup_F2 hm2]
      · rw [← c4 r, hany r]
      · rw [hcnt] at c5
        omega
    · show CG h t R lv ho L0 (if k < P1.length then P1 ++ Q else P1 ++ (f, d, t) :: Q.eraseIdx (k - P1.length - 1)) _ _
      rw [if_neg ck]
      rw [List.getElem?_append_right (by omega)] at q2
      have hk0 : ¬ k = P1.length := by
        intro q
        subst q
        rw [Nat.sub_self] at q2
        have : ((f, d, h) : Lk) = (f, d, t) := by simpa using q2
        exact hnn this.symm
      rw [show k - P1.length = (k - P1.length - 1) + 1 by omega, List.getElem?_cons_succ] at q2
      obtain ⟨Q1, Q2, e1, e2, e3, -⟩ := spl q2
      rw [e3]
      have c2' : IL R lv (P1 ++ (f, d, h) :: (Q1 ++ Q2)) := by
        rw [e1, show P1 ++ (f, d, h) :: (Q1 ++ (f, d, t) :: Q2) = (P1 ++ (f, d, h) :: Q1) ++ (f, d, t) :: Q2 by simp] at c2
        have := IL_mid c2
        rw [show (P1 ++ (f, d, h) :: Q1) ++ Q2 = P1 ++ (f, d, h) :: (Q1 ++ Q2) by simp] at this
        exact this
      have c3' : IH lv ho (P1 ++ (f, d, h) :: (Q1 ++ Q2)) := by
        rw [e1, show P1 ++ (f, d, h) :: (Q1 ++ (f, d, t) :: Q2) = (P1 ++ (f, d, h) :: Q1) ++ (f, d, t) :: Q2 by simp] at c3
        have := IH_mid hd0 c3
        rw [show (P1 ++ (f, d, h) :: Q1) ++ Q2 = P1 ++ (f, d, h) :: (Q1 ++ Q2) by simp] at this
        exact this
      have hno : ¬ (f, d, t) ∈ P1 ++ (Q1 ++ Q2) := by
        intro q
        have hnd := c2.2.1
        rw [e1, show P1 ++ (f, d, h) :: (Q1 ++ (f, d, t) :: Q2) = (P1 ++ (f, d, h) :: Q1) ++ (f, d, t) :: Q2 by simp] at hnd
        refine (nd_mid.mp hnd).2 ?_
        rw [show (P1 ++ (f, d, h) :: Q1) ++ Q2 = P1 ++ (f, d, h) :: (Q1 ++ Q2) by simp]
        exact mem_mid.mpr (Or.inr q)
      have hQ : ∀ r, anyH h (P1 ++ Q) r = anyH h (P1 ++ (Q1 ++ Q2)) r := by
        intro r
        rw [e1, show P1 ++ (Q1 ++ (f, d, t) :: Q2) = (P1 ++ Q1) ++ (f, d, t) :: Q2 by simp, any_mid, hH', Bool.false_and, Bool.or_false, List.append_assoc]
      have hQc : (P1 ++ Q).countP (isH h) = (P1 ++ (Q1 ++ Q2)).countP (isH h) := by
        rw [e1, show P1 ++ (Q1 ++ (f, d, t) :: Q2) = (P1 ++ Q1) ++ (f, d, t) :: Q2 by simp, cnt_mid, hH', List.append_assoc]
        simp
      refine ⟨?_, IL_putH c2' hd4 ht1 ht2 hno, IH_put hd0 c3', fun r => ?_, ?_⟩
      · rw [← c1, e1]
        simp only [List.map_append, List.map_cons, hs, hs']
        have hm2 : (f, d, t) ∈ P1.map (sbH h t) ++ (f, d, t) :: Q1.map (sbH h t) := List.mem_append_right _ List.mem_cons_self
        have := ddup_F2 (c := Q2.map (sbH h t)) hm2
        rw [List.append_assoc, List.append_assoc] at this
        exact this.symm
      · rw [← c4 r, hany r, any_mid, hH', Bool.false_and, Bool.or_false, hQ r]
      · rw [cnt_mid, hH', ← hQc, if_neg (show ¬ false = true by decide)]
        rw [hcnt] at c5
        omega
theorem CG_end {C : List Lk} {P : Nat → Bool} {n : Nat} (hC : CG h t R lv ho L0 C P n) (hno : ∀ e ∈ C, isH h e = false) : C = ddup (L0.map (sbH h t)) ∧ P = anyH h L0 ∧ n = L0.countP (isH h) := by
  obtain ⟨c1, c2, c3, c4, c5⟩ := hC
  have hm : C.map (sbH h t) = C := by
    have : ∀ e ∈ C, sbH h t e = id e := fun e he => sbH_n (hno e he)
    rw [List.map_congr_left this, List.map_id]
  rw [hm, ddup_id c2.2.1] at c1
  refine ⟨c1, ?_, ?_⟩
  · funext r
    rw [← c4 r]
    have : anyH h C r = false := by
      unfold anyH
      rw [List.any_eq_false]
      intro e he
      rw [hno e he]
      simp
    rw [this, Bool.or_false]
  · have : C.countP (isH h) = 0 := by
      rw [List.countP_eq_zero]
      intro e he
      rw [hno e he]
      decide
    omega
-- notes of a set of records
def nsC (mo : Int32) (cc : Nat → Nat) (cm : Nat → Int32) (P : Nat → Bool) : Nat → Nat := fun j => if (P j && nC mo cc cm j) = true then cc j + 1 else cc j
def nsM (mo : Int32) (cc : Nat → Nat) (cm : Nat → Int32) (P : Nat → Bool) : Nat → Int32 := fun x => if (P (x / 40) && nC mo cc cm (x / 40) && x == 40 * (x / 40) + cc (x / 40)) = true then mo else cm x
theorem nsC_0 : nsC mo cc cm (fun _ => false) = cc := by funext j; simp [nsC]
theorem nsM_0 : nsM mo cc cm (fun _ => false) = cm := by funext j; simp [nsM]
theorem nsC_le {P : Nat → Bool} (hc : ∀ j, cc j ≤ 40) : ∀ j, nsC mo cc cm P j ≤ 40 := by
  intro j
  unfold nsC
  by_cases c : (P j && nC mo cc cm j) = true
  · rw [if_pos c]
    simp [nC] at c
    omega
  · rw [if_neg c]; exact hc j
theorem nC_ns {P : Nat → Bool} (hc : ∀ j, cc j ≤ 40) (r : Nat) : nC mo (nsC mo cc cm P) (nsM mo cc cm P) r = (nC mo cc cm r && !P r) := by
  have h40 := hc r
  cases hp : P r
  · have e1 : nsC mo cc cm P r = cc r := by simp [nsC, hp]
    have e2 : 0 < cc r → nsM mo cc cm P (40 * r + cc r - 1) = cm (40 * r + cc r - 1) := by
      intro h0
      have : (40 * r + cc r - 1) / 40 = r := by omega
      simp [nsM, this, hp]
    rw [Bool.not_false, Bool.and_true]
    unfold nC
    rw [e1]
    by_cases c0 : 0 < cc r
    · rw [e2 c0]
    · simp [c0]
  · rw [Bool.not_true, Bool.and_false]
    cases hn : nC mo cc cm r
    · have e1 : nsC mo cc cm P r = cc r := by simp [nsC, hn]
      have e2 : 0 < cc r → nsM mo cc cm P (40 * r + cc r - 1) = cm (40 * r + cc r - 1) := by
        intro h0
        have : (40 * r + cc r - 1) / 40 = r := by omega
        simp [nsM, this, hn]
      rw [← hn]
      unfold nC
      rw [e1]
      by_cases c0 : 0 < cc r
      · rw [e2 c0]
      · simp [c0]
    · have hlt : cc r < 40 := by simp [nC] at hn; exact hn.1
      have e1 : nsC mo cc cm P r = cc r + 1 := by simp [nsC, hp, hn]
      have e2 : nsM mo cc cm P (40 * r + cc r) = mo := by
        have : (40 * r + cc r) / 40 = r := by omega
        simp [nsM, this, hp, hn]
      unfold nC
      rw [e1, show 40 * r + (cc r + 1) - 1 = 40 * r + cc r by omega, e2]
      simp
theorem ntC_ns {P : Nat → Bool} (hc : ∀ j, cc j ≤ 40) (r : Nat) : ntC mo (nsC mo cc cm P) (nsM mo cc cm P) r = nsC mo cc cm (fun j => P j || j == r) := by
  unfold ntC
  rw [nC_ns hc]
  funext j
  by_cases c : j = r
  · subst c
    cases hp : P j <;> cases hn : nC mo cc cm j <;> simp [nsC, up, hp, hn]
  · have cb : (j == r) = false := beq_false_of_ne c
    by_cases q : (nC mo cc cm r && !P r) = true
    · rw [if_pos q, up_n c]
      simp [nsC, cb]
    · rw [if_neg q]
      simp [nsC, cb]
theorem ntM_ns {P : Nat → Bool} (hc : ∀ j, cc j ≤ 40) (r : Nat) : ntM mo (nsC mo cc cm P) (nsM mo cc cm P) r = nsM mo cc cm (fun j => P j || j == r) := by
  unfold ntM
  rw [nC_ns hc]
  have h40 := hc r
  funext x
  cases hn : nC mo cc cm r
  · rw [Bool.false_and, if_neg (by decide)]
    unfold nsM
    by_cases c : x / 40 = r
    · rw [c, hn]
      simp
    · have cb : (x / 40 == r) = false := beq_false_of_ne c
      simp [cb]
  · have hlt : cc r < 40 := by simp [nC] at hn; exact hn.1
    cases hp : P r
    · rw [Bool.not_false, Bool.and_true, if_pos rfl]
      have e1 : nsC mo cc cm P r = cc r := by simp [nsC, hp]
      rw [e1]
      by_cases c : x = 40 * r + cc r
      · rw [c, pk_us]
        have : (40 * r + cc r) / 40 = r := by omega
        simp [nsM, this, hn]
      · rw [pk_un c]
        unfold nsM
        by_cases c2 : x / 40 = r
        · rw [c2, hp, hn]
          have cb : (x == 40 * r + cc r) = false := beq_false_of_ne c
          simp [cb]
        · have cb : (x / 40 == r) = false := beq_false_of_ne c2
          simp [cb]
    · rw [Bool.not_true, Bool.and_false, if_neg (by decide)]
      unfold nsM
      by_cases c2 : x / 40 = r
      · rw [c2, hp]
        simp
      · have cb : (x / 40 == r) = false := beq_false_of_ne c2
        simp [cb]
end CG
