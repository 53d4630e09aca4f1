/-! link, both sides -/
section SL
variable {σ : XSt} {τ : MSt} {R : Nat} {lv : Nat → Bool} {hs : Nat → Int32} {ho hh cc : Nat → Nat} {cm : Nat → Int32} {L : List Lk} {g : List Nat} {mo : Int32} {K : Nat}
theorem IN_note {f : Nat} (hN : IN R lv ho hh cc g) : IN R lv ho hh (ntC mo cc cm f) g := by
  obtain ⟨n1, n2, n3, n4, n5, n6, n7, n8⟩ := hN
  exact ⟨n1, n2, ntC_le n3, n4, n5, n6, n7, n8⟩
theorem IN_host {f t : Nat} (hN : IN R lv ho hh cc g) (hf : lv f = true) (ht : t ≤ R) : IN R lv (up ho f t) hh cc g := by
  obtain ⟨n1, n2, n3, n4, n5, n6, n7, n8⟩ := hN
  have hf1 := n2 f hf
  refine ⟨n1, n2, n3, by rw [up_n (by omega)]; exact n4, fun j hj => by rw [up_n (by omega)]; exact n5 j hj, fun j => ?_, fun j h1 h2 h3 => ?_, n8⟩
  · by_cases c : j = f
    · subst c; rw [up_s]; exact ht
    · rw [up_n c]; exact n6 j
  · have : j ≠ f := fun q => by rw [q, hf] at h3; cases h3
    rw [up_n this]
    exact n7 j h1 h2 h3
/-- the reference's link, behind the looks at its arguments -/
theorem mTail_no {f d t : Nat} (hK : 300 ≤ K) (hm : rM τ R lv hs hh cc cm L g mo) (hL : IL R lv L) (h60 : R ≤ 60) (hlv : ∀ j, lv j = true → 1 ≤ j ∧ j ≤ R) (hf : lv f = true) (hd : d ≤ 9) (ht : t ≤ 99) (hl : ¬ L.length = 200) (hno : ¬ roomP L f d t) : mTail K (nI f) (nI d) (nI t) τ = some (0, τ) := by
  have hf1 := hlv f hf
  have h200 : L.length ≤ 200 := hL.2.2.1
  have hb := hL.b h60 hlv
  have h5 := mostN_le d
  have hc := hL.2.2.2 f d
  unfold mTail
  have e1 : fM_count K (nI f) (nI d) τ = some (nI (cntF L f d), τ) := by
    have h := mCount (τ := τ) (K := K) (f := f) (d := d) (by omega) hd hm hb h200 L 0 K 0 rfl (by omega) (by omega)
    rw [Nat.zero_add] at h
    exact h
  rw [e1, Option.bind_some]
  dsimp only
  rw [mMost hd, Option.bind_some]
  dsimp only
  by_cases c1 : cntF L f d = mostN d
  · rw [if_pos (by rw [c1])]
  · rw [if_neg (fun q => c1 (nI_inj (by omega) (by omega) q))]
    have e2 : fM_find K (nI f) (nI d) (nI t) τ = some (o2i (fdS (f, d, t) 0 L), τ) := mFind (by omega) hd ht hm hb h200 L 0 K rfl (by omega) (by omega)
    rw [e2, Option.bind_some]
    dsimp only
    have hmem : (f, d, t) ∈ L := by
      by_cases q : (f, d, t) ∈ L
      · exact q
      · exact absurd ⟨q, by omega, by omega⟩ hno
    cases hq : fdS (f, d, t) 0 L with
    | none => exact absurd hmem (fdS_none.mp hq)
    | some k =>
      obtain ⟨-, q2⟩ := fdS_some hq
      have hk := (List.getElem?_eq_some_iff.mp q2).1
      rw [show o2i (some k) = nI k from rfl, if_neg (nI_m1 (by omega))]
theorem mTail_yes {f d t : Nat} (hK : 300 ≤ K) (hm : rM τ R lv hs hh cc cm L g mo) (hL : IL R lv L) (h60 : R ≤ 60) (hlv : ∀ j, lv j = true → 1 ≤ j ∧ j ≤ R) (hf : lv f = true) (hd : d ≤ 9) (ht : t ≤ 99) (hr : roomP L f d t) : mTail K (nI f) (nI d) (nI t) τ = (if nI d = 0 then ((fM_liesIn K (nI t) (nI f) τ).bind fun q_19 => (if q_19.1 = 0 then mAdd K (nI f) (nI d) (nI t) q_19.2 else (gM_link_122 K K (nI f) (nI d) (nI t) (nI t) (m_pringLength q_19.2 (0 : Int32))))) else mAdd K (nI f) (nI d) (nI t) τ) := by
  have hf1 := hlv f hf
  have h200 : L.length ≤ 200 := hL.2.2.1
  have hb := hL.b h60 hlv
  have h5 := mostN_le d
  have hc := hL.2.2.2 f d
  obtain ⟨r1, r2, r3⟩ := hr
  unfold mTail
  have e1 : fM_count K (nI f) (nI d) τ = some (nI (cntF L f d), τ) := by
    have h := mCount (τ := τ) (K := K) (f := f) (d := d) (by omega) hd hm hb h200 L 0 K 0 rfl (by omega) (by omega)
    rw [Nat.zero_add] at h
    exact h
  rw [e1, Option.bind_some]
  dsimp only
  rw [mMost hd, Option.bind_some]
  dsimp only
  rw [if_neg (fun q => by have := nI_inj (by omega) (by omega) q; omega)]
  have e2 : fM_find K (nI f) (nI d) (nI t) τ = some (o2i (fdS (f, d, t) 0 L), τ) := mFind (by omega) hd ht hm hb h200 L 0 K rfl (by omega) (by omega)
  rw [e2, Option.bind_some, fdS_none.mpr r1]
  rfl
/-- X's link: refused, or through -/
theorem xLink_0 {p q w : Int32} {σ1 : XSt} (h : fX_hasRoomFor K p q w (-1) (x_pmoment σ (x_moment σ + 1)) = some (0, σ1)) : fX_link K p q w σ = some (0, σ1) := by
  unfold fX_link
  rw [h, Option.bind_some, if_pos rfl]
theorem xLink_1 {p q w : Int32} {σ1 : XSt} (h : fX_hasRoomFor K p q w (-1) (x_pmoment σ (x_moment σ + 1)) = some (1, σ1)) (hq : ¬ q = 0) : fX_link K p q w σ = (fX_addLink K p q w σ1).bind fun q_4 => ((fX_noteChange K p q_4.2).bind fun q_5 => some ((1 : Int32), q_5.2)) := by
  unfold fX_link
  rw [h, Option.bind_some, if_neg (show ¬ (1 : Int32) = 0 by decide), if_neg hq]
theorem xLink_a {p q w : Int32} {σ1 : XSt} (h : fX_hasRoomFor K p q w (-1) (x_pmoment σ (x_moment σ + 1)) = some (1, σ1)) (hq : q = 0) (h2 : fX_liesIn K w p σ1 = some (0, σ1)) : fX_link K p q w σ = (fX_addLink K p q w σ1).bind fun q_4 => ((fX_noteChange K p q_4.2).bind fun q_5 => some ((1 : Int32), q_5.2)) := by
  unfold fX_link
  rw [h, Option.bind_some, if_neg (show ¬ (1 : Int32) = 0 by decide), if_pos hq, h2, Option.bind_some, if_pos rfl]
theorem xLink_w {p q w : Int32} {σ1 σ2 : XSt} (h : fX_hasRoomFor K p q w (-1) (x_pmoment σ (x_moment σ + 1)) = some (1, σ1)) (hq : q = 0) (h2 : fX_liesIn K w p σ1 = some (1, σ1)) (h3 : fX_keepRefusedWay K w p σ1 = some (0, σ2)) : fX_link K p q w σ = some (0, σ2) := by
  unfold fX_link
  rw [h, Option.bind_some, if_neg (show ¬ (1 : Int32) = 0 by decide), if_pos hq, h2, Option.bind_some, if_neg (show ¬ (1 : Int32) = 0 by decide), h3, Option.bind_some]
theorem xHas_bad {p q w v : Int32} (hx : rX σ R lv hs ho cc cm L g mo) (h60 : R ≤ 60) (hbad : liveI R lv p = false ∨ q < 0 ∨ (9 : Int32) < q ∨ tgtI R lv p q w = false) : fX_hasRoomFor K p q w v σ = some (0, σ) := by
  unfold fX_hasRoomFor
  rw [xLive hx h60, Option.bind_some]
  dsimp only
  cases h1 : liveI R lv p
  · rw [if_pos bF]
  · rw [if_neg bT]
    by_cases c2 : q < 0
    · rw [if_pos c2]
    · rw [if_neg c2]
      by_cases c3 : (9 : Int32) < q
      · rw [if_pos c3]
      · rw [if_neg c3, xMay hx h60, Option.bind_some]
        dsimp only
        have h4 : tgtI R lv p q w = false := by
          rcases hbad with h | h | h | h
          · rw [h1] at h; cases h
          · exact absurd h c2
          · exact absurd h c3
          · exact h
        rw [h4, if_pos bF]
def mT1 (τ : MSt) : MSt := m_pmoment (m_pthrown τ (0 : Int32)) ((m_moment τ) + (1 : Int32))
theorem mLink_bad {p q w : Int32} (hm : rM (mT1 τ) R lv hs hh cc cm L g mo) (h60 : R ≤ 60) (hbad : liveI R lv p = false ∨ q < 0 ∨ (9 : Int32) < q ∨ tgtI R lv p q w = false) : fM_link K p q w τ = some (0, mT1 τ) := by
  rw [fM_link_eq]
  show ((fM_isLive K p (mT1 τ)).bind _) = _
  rw [mLive hm h60, Option.bind_some]
  dsimp only
  cases h1 : liveI R lv p
  · rw [if_pos bF]
  · rw [if_neg bT]
    by_cases c2 : q < 0
    · rw [if_pos c2]
    · rw [if_neg c2]
      by_cases c3 : (9 : Int32) < q
      · rw [if_pos c3]
      · rw [if_neg c3]
        by_cases c5 : m_links (mT1 τ) = 200
        · rw [if_pos c5]
        · rw [if_neg c5]
          have h4 : tgtI R lv p q w = false := by
            rcases hbad with h | h | h | h
            · rw [h1] at h; cases h
            · exact absurd h c2
            · exact absurd h c3
            · exact h
          unfold tgtI at h4
          by_cases c4 : q < 4
          · rw [if_pos c4] at h4
            rw [if_neg (Int32.not_le.mpr c4), mLive hm h60, Option.bind_some]
            dsimp only
            cases hb : liveI R lv w
            · rw [if_pos bF]
            · rw [hb, Bool.true_and] at h4
              have hwf : w = p := by
                by_cases q : w = p
                · exact q
                · rw [decide_eq_false q] at h4; cases h4
              rw [if_neg bT, if_pos hwf]
          · rw [if_neg c4] at h4
            rw [if_pos (Int32.not_lt.mp c4), mHead, Option.bind_some, h4]
            dsimp only
            rw [if_pos bF]
theorem mLink_good {f d t : Nat} (hm : rM (mT1 τ) R lv hs hh cc cm L g mo) (h60 : R ≤ 60) (h200 : L.length ≤ 200) (hlv : ∀ j, lv j = true → 1 ≤ j ∧ j ≤ R) (hf : lv f = true) (hd : d ≤ 9) (ht4 : d < 4 → 1 ≤ t ∧ t ≤ R ∧ lv t = true ∧ ¬ t = f) (htg : tgtI R lv (nI f) (nI d) (nI t) = true) : fM_link K (nI f) (nI d) (nI t) τ = if L.length = 200 then some (0, mT1 τ) else mTail K (nI f) (nI d) (nI t) (mT1 τ) := by
  have hf1 := hlv f hf
  rw [fM_link_eq]
  show ((fM_isLive K (nI f) (mT1 τ)).bind _) = _
  rw [mLive hm h60, Option.bind_some, liveI_r hf1.1 hf1.2 h60, hf]
  dsimp only
  rw [if_neg bT, if_neg (nI_pos (by omega)), if_neg (show ¬ (9 : Int32) < nI d from nI_nlt (a := 9) (b := d) hd (by omega) |> fun _ => fun q => absurd ((nI_ltI (a := 9) (b := d) (by omega) (by omega)).mp q) (by omega)), hm.2.2.2.2.2.2.1.1]
  by_cases c5 : L.length = 200
  · rw [if_pos c5, if_pos (show nI L.length = 200 by rw [c5]; decide)]
  · rw [if_neg c5, if_neg (show ¬ nI L.length = 200 from fun q => c5 (nI_inj (b := 200) (by omega) (by omega) q))]
    unfold tgtI at htg
    by_cases c4 : d < 4
    · obtain ⟨t1, t2, t3, t4⟩ := ht4 c4
      rw [if_neg (show ¬ (4 : Int32) ≤ nI d from nI_ge (b := 4) c4 (by omega)), mLive hm h60, Option.bind_some, liveI_r t1 t2 h60, t3]
      dsimp only
      rw [if_neg bT, if_neg (fun q => t4 (nI_inj (by omega) (by omega) q))]
    · rw [if_neg (show ¬ nI d < 4 from nI_nlt (b := 4) (by omega) (by omega))] at htg
      rw [if_pos (show (4 : Int32) ≤ nI d from nI_le (a := 4) (by omega) (by omega)), mHead, Option.bind_some, htg]
      dsimp only
      rw [if_neg bT]
/-- arguments of a link that may be made, or not -/
theorem link_args (h60 : R ≤ 60) (p q w : Int32) : (liveI R lv p = false ∨ q < 0 ∨ (9 : Int32) < q ∨ tgtI R lv p q w = false) ∨ ∃ f d t : Nat, p = nI f ∧ q = nI d ∧ w = nI t ∧ lv f = true ∧ d ≤ 9 ∧ t ≤ 99 ∧ (d < 4 → 1 ≤ t ∧ t ≤ R ∧ lv t = true ∧ ¬ t = f) ∧ (4 ≤ d → 1 ≤ t ∧ t ≤ 99) ∧ tgtI R lv p q w = true := by
  cases c1 : liveI R lv p
  · exact Or.inl (Or.inl rfl)
  · obtain ⟨f, f1, f2, rfl, hf⟩ := liveI_t h60 c1
    by_cases c2 : q < 0
    · exact Or.inl (Or.inr (Or.inl c2))
    · by_cases c3 : (9 : Int32) < q
      · exact Or.inl (Or.inr (Or.inr (Or.inl c3)))
      · obtain ⟨d, hd31, rfl⟩ := nI_of c2
        have hd : d ≤ 9 := by
          rcases Nat.lt_or_ge 9 d with h | h
          · exact absurd (nI_lt (a := 9) h hd31) c3
          · exact h
        cases hb : tgtI R lv (nI f) (nI d) w
        · exact Or.inl (Or.inr (Or.inr (Or.inr rfl)))
        · refine Or.inr ?_
          have hb' := hb
          unfold tgtI at hb'
          by_cases c4 : d < 4
          · rw [if_pos (show nI d < 4 from nI_lt (b := 4) c4 (by omega))] at hb'
            simp only [Bool.and_eq_true, Bool.not_eq_true', decide_eq_false_iff_not] at hb'
            obtain ⟨t, t1, t2, rfl, t3⟩ := liveI_t h60 hb'.1
            exact ⟨f, d, t, rfl, rfl, rfl, hf, hd, by omega, fun _ => ⟨t1, t2, t3, fun q => hb'.2 (by rw [q])⟩, fun _ => ⟨t1, by omega⟩, rfl⟩
          · rw [if_neg (show ¬ nI d < 4 from nI_nlt (b := 4) (by omega) (by omega))] at hb'
            obtain ⟨t, t1, t2, rfl⟩ := headI_t hb'
            exact ⟨f, d, t, rfl, rfl, rfl, hf, hd, t2, fun q => absurd q c4, fun _ => ⟨t1, t2⟩, rfl⟩
theorem mTail_add {f d t : Nat} (hK : 300 ≤ K) (hm : rM τ R lv hs hh cc cm L g mo) (hL : IL R lv L) (h60 : R ≤ 60) (hlv : ∀ j, lv j = true → 1 ≤ j ∧ j ≤ R) (hf : lv f = true) (hd : d ≤ 9) (ht : t ≤ 99) (hr : roomP L f d t) (h : ¬ d = 0 ∨ fM_liesIn K (nI t) (nI f) τ = some (0, τ)) : mTail K (nI f) (nI d) (nI t) τ = mAdd K (nI f) (nI d) (nI t) τ := by
  rw [mTail_yes hK hm hL h60 hlv hf hd ht hr]
  by_cases c : d = 0
  · rw [if_pos (show nI d = 0 by rw [c]; rfl)]
    rcases h with h | h
    · exact absurd c h
    · rw [h, Option.bind_some, if_pos rfl]
  · rw [if_neg (nI_ne0 (by omega) (by omega))]
theorem mTail_way {f t : Nat} (hK : 300 ≤ K) (hm : rM τ R lv hs hh cc cm L g mo) (hL : IL R lv L) (h60 : R ≤ 60) (hlv : ∀ j, lv j = true → 1 ≤ j ∧ j ≤ R) (hf : lv f = true) (ht : t ≤ 99) (hr : roomP L f 0 t) (h : fM_liesIn K (nI t) (nI f) τ = some (1, τ)) : mTail K (nI f) (nI 0) (nI t) τ = gM_link_122 K K (nI f) (nI 0) (nI t) (nI t) (m_pringLength τ (0 : Int32)) := by
  rw [mTail_yes hK hm hL h60 hlv hf (by omega) ht hr, if_pos (show nI 0 = 0 from rfl), h, Option.bind_some, if_neg (show ¬ (1 : Int32) = 0 by decide)]
/-- what stands before a link: the moment is one on -/
def LkC (K : Nat) (σ1 : XSt) (τ1 : MSt) (R : Nat) (lv : Nat → Bool) (hs : Nat → Int32) (ho hh cc : Nat → Nat) (cm : Nat → Int32) (L : List Lk) (g : List Nat) (mo : Int32) : Prop := 300 ≤ K ∧ rX σ1 R lv hs ho cc cm L g mo ∧ rM τ1 R lv hs hh cc cm L g mo ∧ IL R lv L ∧ IH lv ho L ∧ IN R lv ho hh cc g
theorem LkC.rel {σ1 : XSt} {τ1 : MSt} (h : LkC K σ1 τ1 R lv hs ho hh cc cm L g mo) : Rel σ1 τ1 := ⟨R, lv, hs, ho, hh, cc, cm, L, g, mo, h.2⟩
set_option maxHeartbeats 40000 in
theorem add_rel {σ1 : XSt} {τ1 : MSt} {f d t : Nat} {ho' : Nat → Nat} (h : LkC K σ1 τ1 R lv hs ho hh cc cm L g mo) (hf : lv f = true) (hd : d ≤ 9) (ht4 : d < 4 → 1 ≤ t ∧ t ≤ R ∧ lv t = true ∧ ¬ t = f) (ht5 : 4 ≤ d → 1 ≤ t ∧ t ≤ 99) (hroom : roomP L f d t) (he : (if d = 0 then up ho f t else ho) = ho') (hH' : IH lv ho' (L ++ [(f, d, t)])) (hN' : IN R lv ho' hh cc g) :
    ∃ σ2 τ2, ((fX_addLink K (nI f) (nI d) (nI t) σ1).bind fun q_4 => ((fX_noteChange K (nI f) q_4.2).bind fun q_5 => some ((1 : Int32), q_5.2))) = some (1, σ2) ∧ mAdd K (nI f) (nI d) (nI t) τ1 = some (1, τ2) ∧ Rel σ2 τ2 := by
  obtain ⟨hK, hx, hm, hL, hH, hN⟩ := h
  have h60 := hN.1
  have hf1 := hN.2.1 f hf
  have hccf := hN.2.2.1 f
  obtain ⟨σ2, w1, w2⟩ := xAdd (K := K) (f := f) (d := d) (t := t) (by omega) hd hroom.2.2 hx
  obtain ⟨τ2, v1, v2⟩ := mAdd_ok (K := K) (f := f) (d := d) (t := t) (by omega) hccf hroom.2.2 hm
  rw [he] at w2
  obtain ⟨σ3, u1, u2⟩ := xNote (K := K) (r := f) (by omega) hccf w2
  refine ⟨σ3, τ2, ?_, v1, R, lv, hs, ho', hh, ntC mo cc cm f, ntM mo cc cm f, L ++ [(f, d, t)], g, mo, u2, v2, IL_app hL hf hd (fun h => ⟨(ht4 h).1, (ht4 h).2.1⟩) ht5 hroom, hH', IN_note hN'⟩
  rw [w1, Option.bind_some]
  dsimp only
  rw [u1, Option.bind_some]
set_option maxHeartbeats 40000 in
theorem way_rel {σ1 : XSt} {τ1 : MSt} {f t : Nat} {ct : List Nat} (h : LkC K σ1 τ1 R lv hs ho hh cc cm L g mo) (hf : lv f = true) (hct : Chn ho t ct) (hcl : ∀ x ∈ ct, lv x = true) (c7 : f ∈ ct) :
    ∃ σ2 τ2, fX_keepRefusedWay K (nI t) (nI f) σ1 = some (0, σ2) ∧ gM_link_122 K K (nI f) (nI 0) (nI t) (nI t) (m_pringLength τ1 (0 : Int32)) = some (0, τ2) ∧ Rel σ2 τ2 := by
  obtain ⟨hK, hx, hm, hL, hH, hN⟩ := h
  have h60 := hN.1
  have hlv := hN.2.1
  have hf1 := hN.2.1 f hf
  obtain ⟨a, b, rfl, e2⟩ := split_first c7
  have hlen := Chn_len h60 hlv hct hcl
  rw [List.length_append, List.length_cons] at hlen
  have hxr : rX (x_prefusedWayLength σ1 0) R lv hs ho cc cm L [] mo := by
    obtain ⟨a1, a2, a3, a4, a5, a6, a7, a8, a9⟩ := hx
    exact ⟨a1, a2, a3, a4, a5, a6, a7, ⟨rfl, fun k v h => by simp at h⟩, a9⟩
  have hmr : rM (m_pringLength τ1 0) R lv hs hh cc cm L [] mo := by
    obtain ⟨a1, a2, a3, a4, a5, a6, a7, a8, a9⟩ := hm
    exact ⟨a1, a2, a3, a4, a5, a6, a7, ⟨rfl, fun k v h => by simp at h⟩, a9⟩
  have hal : ∀ x ∈ a, lv x = true := fun x hx => hcl x (List.mem_append_left _ hx)
  obtain ⟨σ3, y1, y2⟩ := xRing (K := K) (p := nI t) (by omega) hf1.1 a t K [] _ hxr hct e2 (fun x hx => by have := hlv x (hal x hx); omega) (by simp; omega) (by omega)
  obtain ⟨τ3, z1, z2⟩ := mRing (K := K) (p2 := nI 0) (p3 := nI t) hK (by omega) hf1.1 hL hH h60 hlv a t K [] _ hmr hct e2 hal (by simp; omega) (by omega)
  refine ⟨σ3, τ3, ?_, z1, R, lv, hs, ho, hh, cc, cm, L, [] ++ (a ++ [f]), mo, y2, z2, hL, hH, ?_⟩
  · unfold fX_keepRefusedWay
    exact y1
  · obtain ⟨n1, n2, n3, n4, n5, n6, n7, n8⟩ := hN
    refine ⟨n1, n2, n3, n4, n5, n6, n7, ?_⟩
    rw [List.nil_append, List.length_append, List.length_singleton]
    omega
set_option maxHeartbeats 40000 in
theorem room_rel {f d t : Nat} (h : LkC K (x_pmoment σ (x_moment σ + 1)) (mT1 τ) R lv hs ho hh cc cm L g mo) (hf : lv f = true) (hd : d ≤ 9) (ht99 : t ≤ 99) (ht4 : d < 4 → 1 ≤ t ∧ t ≤ R ∧ lv t = true ∧ ¬ t = f) (ht5 : 4 ≤ d → 1 ≤ t ∧ t ≤ 99) (hroom : roomP L f d t) (hX : fX_hasRoomFor K (nI f) (nI d) (nI t) (-1) (x_pmoment σ (x_moment σ + 1)) = some (1, x_pmoment σ (x_moment σ + 1))) (hM : fM_link K (nI f) (nI d) (nI t) τ = mTail K (nI f) (nI d) (nI t) (mT1 τ)) : Sim (fX_link K (nI f) (nI d) (nI t) σ) (fM_link K (nI f) (nI d) (nI t) τ) := by
  obtain ⟨hK, hx, hm, hL, hH, hN⟩ := id h
  have h60 := hN.1
  have hlv := hN.2.1
  have hf1 := hlv f hf
  by_cases c6 : d = 0
  · obtain ⟨t1, t2, t3, t4⟩ := ht4 (by omega)
    obtain ⟨ct, hct, hcl⟩ := hH.2.2 t t3
    have l1 := xLiesIn (K := K) (b := f) hK (by omega) hx h60 hlv t3 hct hcl t4
    have l2 := mLiesIn (K := K) (b := f) hK (by omega) (by omega) hm hL hH h60 hlv hct hcl
    have hd0 : nI d = 0 := by rw [c6]; rfl
    by_cases c7 : f ∈ ct
    · rw [decide_eq_true c7, b2i_t] at l1 l2
      obtain ⟨σ3, τ3, y1, z1, hrel⟩ := way_rel h hf hct hcl c7
      refine ⟨0, σ3, τ3, xLink_w hX hd0 l1 y1, ?_, hrel⟩
      rw [hM]
      subst c6
      rw [mTail_way hK hm hL h60 hlv hf ht99 hroom l2]
      exact z1
    · rw [decide_eq_false c7, b2i_f] at l1 l2
      obtain ⟨σ2, τ2, y1, z1, hrel⟩ := add_rel h hf hd ht4 ht5 hroom (if_pos c6) (by subst c6; exact IH_app0 hL hH hlv hf hroom hct hcl c7) (IN_host hN hf t2)
      refine ⟨1, σ2, τ2, (xLink_a hX hd0 l1).trans y1, ?_, hrel⟩
      rw [hM, mTail_add hK hm hL h60 hlv hf hd ht99 hroom (Or.inr l2)]
      exact z1
  · obtain ⟨σ2, τ2, y1, z1, hrel⟩ := add_rel h hf hd ht4 ht5 hroom (if_neg c6) (IH_app c6 hH) hN
    refine ⟨1, σ2, τ2, (xLink_1 hX (nI_ne0 (by omega) (by omega))).trans y1, ?_, hrel⟩
    rw [hM, mTail_add hK hm hL h60 hlv hf hd ht99 hroom (Or.inl c6)]
    exact z1
set_option maxHeartbeats 40000 in
theorem sim_link (hK : 300 ≤ K) (hR : Rel σ τ) (p q w : Int32) : Sim (fX_link K p q w σ) (fM_link K p q w τ) := by
  obtain ⟨R, lv, hs, ho, hh, cc, cm, L, g, mo, hx, hm, hL, hH, hN⟩ := hR
  have h60 := hN.1
  have hlv := hN.2.1
  have h200 : L.length ≤ 200 := hL.2.2.1
  have hx' : rX (x_pmoment σ (x_moment σ + 1)) R lv hs ho cc cm L g (mo + 1) := by
    rw [hx.2.2.2.2.2.2.2.2]; exact rX_mom hx (mo + 1)
  have hm' : rM (mT1 τ) R lv hs hh cc cm L g (mo + 1) := by
    unfold mT1
    rw [hm.2.2.2.2.2.2.2.2]; exact rM_mom hm 0 (mo + 1)
  have hc : LkC K (x_pmoment σ (x_moment σ + 1)) (mT1 τ) R lv hs ho hh cc cm L g (mo + 1) := ⟨hK, hx', hm', hL, hH, hN⟩
  rcases link_args (lv := lv) h60 p q w with hbad | ⟨f, d, t, e1, e2, e3, hf, hd, ht99, ht4, ht5, htg⟩
  · exact ⟨0, _, _, xLink_0 (xHas_bad hx' h60 hbad), mLink_bad hm' h60 hbad, hc.rel⟩
  · subst e1
    subst e2
    subst e3
    have hX := xHas (K := K) (w := -1) hK hx' hL h60 hlv hf hd ht99 (Classical.propDecidable _)
    rw [htg, Bool.true_and, erS_m1 L 0 (by omega)] at hX
    have hM := mLink_good (K := K) hm' h60 h200 hlv hf hd ht4 htg
    by_cases hroom : roomP L f d t
    · rw [@decide_eq_true _ (Classical.propDecidable _) hroom, b2i_t] at hX
      rw [if_neg (show ¬ L.length = 200 by have := hroom.2.2; omega)] at hM
      exact room_rel hc hf hd ht99 ht4 ht5 hroom hX hM
    · rw [@decide_eq_false _ (Classical.propDecidable _) hroom, b2i_f] at hX
      refine ⟨0, _, _, xLink_0 hX, hM.trans ?_, hc.rel⟩
      by_cases c5 : L.length = 200
      · rw [if_pos c5]
      · rw [if_neg c5]
        exact mTail_no hK hm' hL h60 hlv hf hd ht99 c5 hroom
end SL
