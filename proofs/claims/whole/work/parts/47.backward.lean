/-! ===== the class goes backward ===== -/
def AB (a : AG) : Prop := a.1 ≤ 1000 ∧ a.2.2.1 < 1024 ∧ a.2.2.2 < 1024
theorem AB_ac {x y : AG} (hx : AB x) (hy : AB y) : AB (ac x y) := by
  rcases Nat.lt_trichotomy x.1 y.1 with q | q | q
  · rw [ac_lt q]; exact hy
  · rw [ac_eq q]; exact ⟨hx.1, Nat.lt_of_le_of_lt Nat.and_le_left hx.2.1, Nat.or_lt_two_pow (n := 10) hx.2.2 hy.2.2⟩
  · rw [ac_gt q]; exact hx
theorem GG_ok {h : HS} {n : Nat} (hb : HB h n) : ∀ (r k : Nat) (q : SG), k + r ≤ n → (GG h r k q).1 ≤ 18 * r ∧ AB (GG h r k q)
  | 0, _, _, _ => ⟨Nat.zero_le _, show AB ((0, 1, 0, 0) : AG) from ⟨by decide, by decide, by decide⟩⟩
  | r + 1, k, q, hk => by
    have hn := hb.1
    have e := GG_succ h r k q
    obtain ⟨d1, d2⟩ := GG_ok hb r (k + 1) q (by omega)
    have hc : ∀ s a, cand h (GG h r (k + 1)) q k s = some a → a.1 ≤ 18 * (r + 1) ∧ AB a := by
      intro s a e
      unfold cand at e
      cases hs : stp h q k s with
      | none => rw [hs] at e; cases e
      | some f =>
        rw [hs] at e
        have e' : sh (gd h k s) (2 ^ k) (GG h r (k + 1) (some (k, f))) = a := Option.some.inj e
        subst e'
        obtain ⟨g1, g2⟩ := GG_ok hb r (k + 1) (some (k, f)) (by omega)
        have hg := gd_le (s := s) hb (show k < n by omega)
        have hp : 2 ^ k < 1024 := Nat.lt_of_lt_of_le (Nat.pow_lt_pow_right (by decide) (show k < 10 by omega)) (by decide)
        refine ⟨by rw [sh_1]; omega, ?_, ?_, ?_⟩
        · rw [sh_1]; omega
        · exact Nat.or_lt_two_pow (n := 10) g2.2.1 hp
        · exact Nat.or_lt_two_pow (n := 10) g2.2.2 hp
    have h0 := hc 0
    have h1 := hc 1
    generalize GG h (r + 1) k q = z at e ⊢
    generalize GG h r (k + 1) q = d at e d1 d2
    generalize cand h (GG h r (k + 1)) q k 0 = c0 at e h0
    generalize cand h (GG h r (k + 1)) q k 1 = c1 at e h1
    have step : ∀ (x : Option AG) (y w : AG), (∀ a, x = some a → a.1 ≤ 18 * (r + 1) ∧ AB a) → y.1 ≤ 18 * (r + 1) ∧ AB y → some w = oc x (some y) → w.1 ≤ 18 * (r + 1) ∧ AB w := by
      intro x y w hx hy e
      cases x with
      | none => cases e; exact hy
      | some a =>
        have e' : w = ac a y := Option.some.inj e
        subst e'
        obtain ⟨a1, a2⟩ := hx a rfl
        exact ⟨by rw [ac_1]; omega, AB_ac a2 hy.2⟩
    obtain ⟨z1, hz1⟩ := oc_some_r c1 d
    have hz1' := step c1 d z1 h1 ⟨by omega, d2⟩ hz1.symm
    rw [hz1] at e
    exact step c0 z1 z h0 hz1' e
def gdx (h : HS) (y : Nat) : Nat := if y = 0 then 0 else gd h (y / 8 - 1) (y / 4 % 2)
def bx (y : Nat) : Nat := if y = 0 then 0 else 2 ^ (y / 8 - 1)
def SV (h : HS) (n : Nat) (r : Nat → Int32) (w : Nat → Int64) (e a : Nat → Int32) (y : Nat) : Prop := r y = nI ((GG h (n - y / 8) (y / 8) (sgm h y)).1 + gdx h y) ∧ w y = lN (GG h (n - y / 8) (y / 8) (sgm h y)).2.1 ∧ e y = nI ((GG h (n - y / 8) (y / 8) (sgm h y)).2.2.1 ||| bx y) ∧ a y = nI ((GG h (n - y / 8) (y / 8) (sgm h y)).2.2.2 ||| bx y)
theorem SV_ix {h : HS} {n : Nat} {r : Nat → Int32} {w : Nat → Int64} {e a : Nat → Int32} {k s t : Nat} (hs : s < 2) (ht : t < 4) (hv : SV h n r w e a (ix k s t)) : r (ix k s t) = nI (sh (gd h k s) (2 ^ k) (GG h (n - (k + 1)) (k + 1) (some (k, ct h k s + t * hWrap h)))).1 ∧ w (ix k s t) = lN (sh (gd h k s) (2 ^ k) (GG h (n - (k + 1)) (k + 1) (some (k, ct h k s + t * hWrap h)))).2.1 ∧ e (ix k s t) = nI (sh (gd h k s) (2 ^ k) (GG h (n - (k + 1)) (k + 1) (some (k, ct h k s + t * hWrap h)))).2.2.1 ∧ a (ix k s t) = nI (sh (gd h k s) (2 ^ k) (GG h (n - (k + 1)) (k + 1) (some (k, ct h k s + t * hWrap h)))).2.2.2 := by
  obtain ⟨i1, i2, i3, i4⟩ := ix_8 (k := k) hs ht
  have hg : gdx h (ix k s t) = gd h k s := by unfold gdx; rw [if_neg i4, i1, i2]; rfl
  have hbx : bx (ix k s t) = 2 ^ k := by unfold bx; rw [if_neg i4, i1]; rfl
  unfold SV at hv
  rw [hg, hbx, sgm_ix h hs ht, i1] at hv
  exact hv
theorem upL_s (f : Nat → Int64) (k : Nat) (x : Int64) : vp_updL f k x k = x := pk_uLs
theorem upL_n {f : Nat → Int64} {k j : Nat} {x : Int64} (h : j ≠ k) : vp_updL f k x j = f j := pk_uLn h
section
variable {h : HS} {n : Nat} {rate size : Int32} {sd sf sg : Nat → Int32}
theorem x_gather (hb : HB h n) (hr : rate = nI (hRate h)) (hS : SR h n sd sf sg) {r : Nat → Int32} {w : Nat → Int64} {e a : Nat → Int32} {x : Nat} (hx : XV n x) (hnx : ∀ k s t, x / 8 ≤ k → k < n → s < 2 → stt h (sgm h x) k s = some t → SV h n r w e a (ix k s t)) {Q : (Nat → Int32) → (Nat → Int64) → (Nat → Int32) → (Nat → Int32) → Prop}
    (hQ : ∀ (r' : Nat → Int32) (w' : Nat → Int64) (e' a' : Nat → Int32), (∀ y, y ≠ x → r' y = r y ∧ w' y = w y ∧ e' y = e y ∧ a' y = a y) → SV h n r' w' e' a' x → Q r' w' e' a') : wp_X5_gather rate (nI n) sd sf sg r w e a (nI x) Q := by
  have hn := hb.1
  have hx8 : x / 8 ≤ n := by unfold XV at hx; omega
  have hxl : x < 88 := by unfold XV at hx; omega
  generalize hq : sgm h x = q at hnx
  obtain ⟨t1, t2⟩ := GG_ok hb (n - x / 8) (x / 8) q (by omega)
  -- the end, with all readings gone through
  have hend : ∀ acc : AG, acc = GG h (n - x / 8) (x / 8) q → ((¬ nI x = 0 → wp_X6_readingOf (nI x) (fun r9 => wp_X5_gather_b203 rate (nI n) sd sf sg Q ((1 : Int32) <<< (r9 &&& 31)) (nI x) (nI acc.1) (lN acc.2.1) (nI acc.2.2.1) (nI acc.2.2.2) r w e a)) ∧ (nI x = 0 → wp_X5_gather_b203 rate (nI n) sd sf sg Q (0 : Int32) (nI x) (nI acc.1) (lN acc.2.1) (nI acc.2.2.1) (nI acc.2.2.2) r w e a)) := by
    intro acc hacc
    have hgo : ∀ (k0 : Int32), k0 = nI (bx x) → sg x = nI (gdx h x) → gdx h x ≤ 18 → bx x < 1024 → wp_X5_gather_b203 rate (nI n) sd sf sg Q k0 (nI x) (nI acc.1) (lN acc.2.1) (nI acc.2.2.1) (nI acc.2.2.2) r w e a := by
      intro k0 hk0 hsg hgl hbl
      unfold wp_X5_gather_b203
      have hv : vp_in (nI x) 88 := vin hxl (by decide)
      rw [nI_cl (by omega), hsg]
      refine ⟨hv, ?_⟩
      intro y1 hy1
      refine ⟨hv, hv, ?_⟩
      intro y2 hy2
      refine ⟨hv, ?_⟩
      intro y3 hy3
      refine ⟨hv, ?_⟩
      subst hacc
      rw [nI_add] at hy1
      rw [hk0, nI_or (by have := t2.2.1; omega) (by omega)] at hy2
      rw [hk0, nI_or (by have := t2.2.2; omega) (by omega)] at hy3
      refine hQ _ _ _ _ (fun y hy => ⟨upd_n hy, upL_n hy, upd_n hy, upd_n hy⟩) ?_
      unfold SV
      rw [hq, upd_s, upL_s, upd_s, upd_s]
      exact ⟨hy1, rfl, hy2, hy3⟩
    refine bNE x 0 rfl rfl (by omega) (by decide) (fun e0 => ?_) (fun e0 => ?_)
    · refine x_readingOf (by omega) ?_
      obtain ⟨k, s, t, hk, hs, ht, ex⟩ := XV_dec hx e0
      obtain ⟨i1, i2, i3, i4⟩ := ix_8 (k := k) hs ht
      have hgx : gdx h x = gd h k s := by unfold gdx; rw [if_neg e0, ex, i1, i2]; rfl
      have hbxx : bx x = 2 ^ k := by unfold bx; rw [if_neg e0, ex, i1]; rfl
      refine hgo _ ?_ ?_ ?_ ?_
      · rw [hbxx, ex, i1, nI_subL (by omega)]
        exact shl1 k (by omega)
      · rw [hgx, ex]; exact (hS.2 k s t hk hs ht).2.2
      · rw [hgx]; exact gd_le hb hk
      · rw [hbxx]; exact Nat.lt_of_lt_of_le (Nat.pow_lt_pow_right (by decide) (show k < 10 by omega)) (by decide)
    · subst e0
      exact hgo 0 rfl hS.1 (by unfold gdx; rw [if_pos rfl]; omega) (by decide)
  have hin : ∀ (K : Int32 → Int32 → Int64 → Int32 → Int32 → Int32 → (Nat → Int32) → (Nat → Int64) → (Nat → Int32) → (Nat → Int32) → Prop) (k : Nat), x / 8 ≤ k → k < n →
      (∀ acc X, AB acc → oc (some (0, 1, 0, 0)) X = some acc → some (GG h (n - x / 8) (x / 8) q) = oc (some (GG h (n - (k + 1)) (k + 1) q)) X → K (nI x) (nI acc.1) (lN acc.2.1) (nI acc.2.2.1) (nI acc.2.2.2) (nI (k + 1)) r w e a) →
      ∀ (d s : Nat) (acc : AG) (X : Option AG) (rem : Option AG), s + d = 2 → (d = 2 → rem = oc (cand h (GG h (n - (k + 1)) (k + 1)) q k 0) (cand h (GG h (n - (k + 1)) (k + 1)) q k 1)) → (d = 1 → rem = cand h (GG h (n - (k + 1)) (k + 1)) q k 1) → (d = 0 → rem = none) → AB acc → oc (some (0, 1, 0, 0)) X = some acc → some (GG h (n - x / 8) (x / 8) q) = oc (oc rem (some (GG h (n - (k + 1)) (k + 1) q))) X → wp_X5_gather_h33 rate (nI n) sd sf sg Q K (d + 1) (nI x) (nI acc.1) (lN acc.2.1) (nI acc.2.2.1) (nI acc.2.2.2) (nI k) (nI s) r w e a := by
    intro K k hk1 hk2 hK d
    induction d with
    | zero =>
      intro s acc X rem hs _ _ hr0 hab hX htot
      have : s = 2 := by omega
      subst this
      rw [wp_X5_gather_h33]
      dsimp only
      refine bLE 2 2 rfl rfl (by decide) (by decide) (fun _ => ?_) (fun e => by omega)
      intro y hy
      have hy' : y = nI (k + 1) := by rw [hy]; exact nI_1 k
      subst hy'
      rw [hr0 rfl, oc_none_l] at htot
      exact hK acc X hab hX htot
    | succ d ih =>
      intro s acc X rem hs hr2 hr1 _ hab hX htot
      -- the next candidate and what remains
      obtain ⟨rem', hrem, hc2, hc1, hc0⟩ : ∃ rem', rem = oc (cand h (GG h (n - (k + 1)) (k + 1)) q k s) rem' ∧ (d = 2 → rem' = oc (cand h (GG h (n - (k + 1)) (k + 1)) q k 0) (cand h (GG h (n - (k + 1)) (k + 1)) q k 1)) ∧ (d = 1 → rem' = cand h (GG h (n - (k + 1)) (k + 1)) q k 1) ∧ (d = 0 → rem' = none) := by
        rcases (show d = 1 ∨ d = 0 by omega) with rfl | rfl
        · have : s = 0 := by omega
          subst this
          exact ⟨_, hr2 rfl, fun e => absurd e (by decide), fun _ => rfl, fun e => absurd e (by decide)⟩
        · have : s = 1 := by omega
          subst this
          exact ⟨none, by rw [hr1 rfl, oc_none_r], fun e => absurd e (by decide), fun e => absurd e (by decide), fun _ => rfl⟩
      have hstep : ∀ (acc' : AG), AB acc' → oc (some acc) (cand h (GG h (n - (k + 1)) (k + 1)) q k s) = some acc' → wp_X5_gather_b177 rate (nI n) sd sf sg Q K (fun y0 y1 y2 y3 y4 y5 y6 y7 y8 y9 y10 => wp_X5_gather_h33 rate (nI n) sd sf sg Q K (d + 1) y0 y1 y2 y3 y4 y5 y6 y7 y8 y9 y10) (nI x) (nI acc'.1) (lN acc'.2.1) (nI acc'.2.2.1) (nI acc'.2.2.2) (nI k) (nI s) r w e a := by
        intro acc' hab' hacc'
        unfold wp_X5_gather_b177
        intro y hy
        have hy' : y = nI (s + 1) := by rw [hy]; exact nI_1 s
        subst hy'
        refine ih (s + 1) acc' (oc X (cand h (GG h (n - (k + 1)) (k + 1)) q k s)) rem' (by omega) hc2 hc1 hc0 hab' ?_ ?_
        · rw [← oc_assoc, hX, hacc']
        · rw [htot, hrem]
          generalize cand h (GG h (n - (k + 1)) (k + 1)) q k s = cs
          generalize some (GG h (n - (k + 1)) (k + 1) q) = gs
          rw [oc_assoc cs rem' gs, oc_comm cs, oc_assoc (oc rem' gs) cs X, oc_comm cs X]
      rw [wp_X5_gather_h33]
      dsimp only
      refine bLE 2 s rfl rfl (by decide) (by omega) (fun e => by omega) (fun _ => ?_)
      have hfo := x_following hb hr hS hx hk2 (show s < 2 by omega) (Q := fun r48_7 => (r48_7 < 0 → wp_X5_gather_b177 rate (nI n) sd sf sg Q K (fun y0 y1 y2 y3 y4 y5 y6 y7 y8 y9 y10 => wp_X5_gather_h33 rate (nI n) sd sf sg Q K (d + 1) y0 y1 y2 y3 y4 y5 y6 y7 y8 y9 y10) (nI x) (nI acc.1) (lN acc.2.1) (nI acc.2.2.1) (nI acc.2.2.2) (nI k) (nI s) r w e a) ∧ (¬ r48_7 < 0 → vp_in r48_7 88 ∧ (nI acc.1 ≤ (r r48_7.toNatClampNeg) → vp_in r48_7 88 ∧ ((r r48_7.toNatClampNeg) ≤ nI acc.1 → wp_X5_gather_b88 rate (nI n) sd sf sg Q K (fun y0 y1 y2 y3 y4 y5 y6 y7 y8 y9 y10 => wp_X5_gather_h33 rate (nI n) sd sf sg Q K (d + 1) y0 y1 y2 y3 y4 y5 y6 y7 y8 y9 y10) (0 : Int32) (nI x) (lN acc.2.1) (nI acc.2.2.1) (nI acc.2.2.2) (nI k) (nI s) r48_7 r w e a) ∧ (¬ (r r48_7.toNatClampNeg) ≤ nI acc.1 → wp_X5_gather_b88 rate (nI n) sd sf sg Q K (fun y0 y1 y2 y3 y4 y5 y6 y7 y8 y9 y10 => wp_X5_gather_h33 rate (nI n) sd sf sg Q K (d + 1) y0 y1 y2 y3 y4 y5 y6 y7 y8 y9 y10) (1 : Int32) (nI x) (lN acc.2.1) (nI acc.2.2.1) (nI acc.2.2.2) (nI k) (nI s) r48_7 r w e a)) ∧ (¬ nI acc.1 ≤ (r r48_7.toNatClampNeg) → wp_X5_gather_b177 rate (nI n) sd sf sg Q K (fun y0 y1 y2 y3 y4 y5 y6 y7 y8 y9 y10 => wp_X5_gather_h33 rate (nI n) sd sf sg Q K (d + 1) y0 y1 y2 y3 y4 y5 y6 y7 y8 y9 y10) (nI x) (nI acc.1) (lN acc.2.1) (nI acc.2.2.1) (nI acc.2.2.2) (nI k) (nI s) r w e a)))
      refine hfo ?_
      rw [hq]
      cases hst : stt h q k s with
      | none =>
        have hcn : cand h (GG h (n - (k + 1)) (k + 1)) q k s = none := by unfold cand stp; rw [hst]; rfl
        exact ⟨fun _ => hstep acc hab (by rw [hcn]; rfl), fun e2 => absurd (fol_none hst) e2⟩
      | some t =>
        have ht := stt_le hst
        have hixv : XV n (ix k s t) := XV_ix hk2 (by omega) (by omega)
        have hixl : ix k s t < 88 := by unfold XV at hixv; omega
        obtain ⟨v1, v2, v3, v4⟩ := SV_ix (show s < 2 by omega) (show t < 4 by omega) (hnx k s t hk1 hk2 (by omega) hst)
        have hcs : cand h (GG h (n - (k + 1)) (k + 1)) q k s = some (sh (gd h k s) (2 ^ k) (GG h (n - (k + 1)) (k + 1) (some (k, ct h k s + t * hWrap h)))) := by unfold cand; rw [stp_of_stt hst]; rfl
        have hyab : AB (sh (gd h k s) (2 ^ k) (GG h (n - (k + 1)) (k + 1) (some (k, ct h k s + t * hWrap h)))) := by
          obtain ⟨g1, g2⟩ := GG_ok hb (n - (k + 1)) (k + 1) (some (k, ct h k s + t * hWrap h)) (by omega)
          have hg := gd_le (s := s) hb hk2
          have hp : 2 ^ k < 1024 := Nat.lt_of_lt_of_le (Nat.pow_lt_pow_right (by decide) (show k < 10 by omega)) (by decide)
          exact ⟨by rw [sh_1]; omega, Nat.or_lt_two_pow (n := 10) g2.2.1 hp, Nat.or_lt_two_pow (n := 10) g2.2.2 hp⟩
        generalize sh (gd h k s) (2 ^ k) (GG h (n - (k + 1)) (k + 1) (some (k, ct h k s + t * hWrap h))) = y at hcs hyab v1 v2 v3 v4
        rw [hcs] at hstep
        rw [fol_some hst]
        refine ⟨fun e2 => absurd e2 (nI_pos (by omega)), fun _ => ?_⟩
        have hv : vp_in (nI (ix k s t)) 88 := vin hixl (by decide)
        have ha1 := hab.1
        have hy1 := hyab.1
        rw [nI_cl (by omega), v1]
        refine ⟨hv, bLE acc.1 y.1 rfl rfl (by omega) (by omega) (fun q1 => ⟨hv, bLE y.1 acc.1 rfl rfl (by omega) (by omega) (fun q2 => ?_) (fun q2 => ?_)⟩) (fun q1 => ?_)⟩
        · have heq : acc.1 = y.1 := by omega
          have hres := hstep (ac acc y) (AB_ac hab hyab) rfl
          rw [ac_eq heq] at hres
          dsimp only at hres
          unfold wp_X5_gather_b88
          rw [nI_cl (by omega), v1, v2]
          refine ⟨hv, ?_⟩
          intro z hz
          refine ⟨fun _ => ⟨hv, ?_⟩, fun e2 => absurd rfl e2⟩
          unfold wp_X5_gather_b122
          rw [nI_cl (by omega), v3]
          refine ⟨fun _ => ⟨hv, ?_⟩, fun e2 => absurd rfl e2⟩
          unfold wp_X5_gather_b148
          rw [nI_cl (by omega), v4]
          refine ⟨fun _ => ⟨hv, ?_⟩, fun e2 => absurd rfl e2⟩
          unfold wp_X5_gather_b175
          rw [lN_add, nI_and (by have := hab.2.1; omega) (by have := hyab.2.1; omega), nI_or (by have := hab.2.2; omega) (by have := hyab.2.2; omega), hz, ← heq]
          exact hres
        · have hres := hstep (ac acc y) (AB_ac hab hyab) rfl
          rw [ac_lt (by omega)] at hres
          unfold wp_X5_gather_b88
          rw [nI_cl (by omega), v1, v2]
          refine ⟨hv, ?_⟩
          intro z hz
          refine ⟨fun e2 => absurd e2 (by decide), fun _ => ⟨hv, ?_⟩⟩
          unfold wp_X5_gather_b122
          rw [nI_cl (by omega), v3]
          refine ⟨fun e2 => absurd e2 (by decide), fun _ => ⟨hv, ?_⟩⟩
          unfold wp_X5_gather_b148
          rw [nI_cl (by omega), v4]
          refine ⟨fun e2 => absurd e2 (by decide), fun _ => ⟨hv, ?_⟩⟩
          unfold wp_X5_gather_b175
          rw [hz]
          exact hres
        · have hres := hstep (ac acc y) (AB_ac hab hyab) rfl
          rw [ac_gt (by omega)] at hres
          exact hres
  have hout : ∀ (d k : Nat) (acc : AG) (X : Option AG), k + d = n → x / 8 ≤ k → AB acc → oc (some (0, 1, 0, 0)) X = some acc → some (GG h (n - x / 8) (x / 8) q) = oc (some (GG h (n - k) k q)) X → wp_X5_gather_h18 rate (nI n) sd sf sg Q (d + 1) (nI x) (nI acc.1) (lN acc.2.1) (nI acc.2.2.1) (nI acc.2.2.2) (nI k) r w e a := by
    intro d
    induction d with
    | zero =>
      intro k acc X hk hk1 hab hX htot
      have : k = n := by omega
      subst this
      rw [wp_X5_gather_h18]
      dsimp only
      unfold wp_X6_size
      refine bLE k k rfl rfl (by omega) (by omega) (fun _ => ?_) (fun e2 => by omega)
      refine hend acc ?_
      rw [Nat.sub_self] at htot
      have h2 : some (GG h (k - x / 8) (x / 8) q) = some acc := by rw [htot]; exact hX
      exact (Option.some.inj h2).symm
    | succ d ih =>
      intro k acc X hk hk1 hab hX htot
      rw [wp_X5_gather_h18]
      dsimp only
      unfold wp_X6_size
      refine bLE n k rfl rfl (by omega) (by omega) (fun e2 => by omega) (fun _ => ?_)
      refine ⟨3, hin _ k hk1 (by omega) (fun acc X b1 b2 b3 => ih (k + 1) acc X (by omega) (by omega) b1 b2 b3) 2 0 acc X _ rfl (fun _ => rfl) (fun e2 => absurd e2 (by decide)) (fun e2 => absurd e2 (by decide)) hab hX ?_⟩
      rw [htot, show n - k = (n - (k + 1)) + 1 by omega, GG_succ]
      simp only [oc_assoc]
  unfold wp_X5_gather
  refine x_readingOf (by omega) ?_
  intro y hy
  have hy' : y = nI (x / 8) := by
    rw [hy, zI_nI, show (1 : Int32) = zI 1 from rfl, zI_sub, zI_add]; congr 1; omega
  subst hy'
  exact ⟨n - x / 8 + 1, hout (n - x / 8) (x / 8) (0, 1, 0, 0) none (by omega) (Nat.le_refl _) ⟨by decide, by decide, by decide⟩ rfl (by rw [oc_none_r])⟩
/-- the rows of the class behind goBackward -/
def BF (h : HS) (n : Nat) (U : Nat → Int32) (r : Nat → Int32) (w : Nat → Int64) (e a : Nat → Int32) : Prop := ∀ y, XV n y → (∃ u, U y = nI u ∧ u ≤ 180) → SV h n r w e a y
theorem x_backward (hb : HB h n) (hr : rate = nI (hRate h)) (hS : SR h n sd sf sg) {U : Nat → Int32} (hU : UF h n U) (hU8 : ∀ y, y < 8 → 0 < y → U y = -1) {r : Nat → Int32} {w : Nat → Int64} {e a : Nat → Int32} {Q : (Nat → Int32) → (Nat → Int64) → (Nat → Int32) → (Nat → Int32) → Prop} (hQ : ∀ r w e a, BF h n U r w e a → Q r w e a) : wp_X5_goBackward rate (nI n) sd sf sg U r w e a Q := by
  have hn := hb.1
  have hneg : ∀ u, u ≤ 180 → ¬ (-1 : Int32) = nI u := by
    intro u hu
    rw [m1, zI_nI, zI_eq (by omega) (by omega) (by omega) (by omega)]; omega
  have hloop : ∀ (x : Nat) (r : Nat → Int32) (w : Nat → Int64) (e a : Nat → Int32), x ≤ 8 * (n + 1) → (∀ y, x ≤ y → XV n y → (∃ u, U y = nI u ∧ u ≤ 180) → SV h n r w e a y) → wp_X5_goBackward_h10 rate (nI n) sd sf sg U Q (x + 1) (nI x - 1) r w e a := by
    intro x
    induction x with
    | zero =>
      intro r w e a _ hi
      rw [wp_X5_goBackward_h10]
      dsimp only
      refine ⟨fun _ => hQ r w e a (fun y hy hu => hi y (Nat.zero_le y) hy hu), fun e2 => absurd (show nI 0 - 1 < 0 by decide) e2⟩
    | succ x ih =>
      intro r w e a hx hi
      rw [wp_X5_goBackward_h10]
      dsimp only
      rw [nI_pred]
      refine ⟨fun e2 => absurd e2 (nI_pos (by omega)), fun _ => ?_⟩
      rw [nI_cl (by omega)]
      refine ⟨vin (by omega) (by decide), ?_⟩
      have hnext : ∀ (r : Nat → Int32) (w : Nat → Int64) (e a : Nat → Int32), (∀ y, x ≤ y → XV n y → (∃ u, U y = nI u ∧ u ≤ 180) → SV h n r w e a y) → wp_X5_goBackward_b28 rate (nI n) sd sf sg U Q (fun y0 y1 y2 y3 y4 => wp_X5_goBackward_h10 rate (nI n) sd sf sg U Q (x + 1) y0 y1 y2 y3 y4) (nI x) r w e a := by
        intro r w e a hi
        unfold wp_X5_goBackward_b28
        intro y hy
        have hy' : y = nI x - 1 := by rw [hy, Int32.sub_eq_add_neg]
        subst hy'
        exact ih r w e a (by omega) hi
      have hskip : U x = -1 → wp_X5_goBackward_b28 rate (nI n) sd sf sg U Q (fun y0 y1 y2 y3 y4 => wp_X5_goBackward_h10 rate (nI n) sd sf sg U Q (x + 1) y0 y1 y2 y3 y4) (nI x) r w e a := by
        intro e1
        refine hnext r w e a (fun y hy1 hy2 hy3 => ?_)
        by_cases e2 : y = x
        · subst e2
          obtain ⟨u, q1, q2⟩ := hy3
          rw [e1] at q1
          exact absurd q1 (hneg u q2)
        · exact hi y (by omega) hy2 hy3
      by_cases hxv : XV n x
      · rcases hU.1 x hxv with e1 | ⟨u0, e1, hrx⟩
        · exact ⟨fun _ => hskip e1, fun e2 => absurd (by rw [e1]; decide) e2⟩
        · have hx8 : x / 8 ≤ n := by unfold XV at hxv; omega
          have hu0 : u0 ≤ 180 := by
            have := RX_g hb _ _ _ hx8 hrx
            omega
          rw [e1]
          refine ⟨fun e2 => absurd e2 (nI_pos (by omega)), fun _ => ?_⟩
          refine x_gather hb hr hS hxv (fun k s t h1 h2 h3 h4 => ?_) (fun r' w' e' a' q1 q2 => hnext r' w' e' a' (fun y hy1 hy2 hy3 => ?_))
          · have ht := stt_le h4
            have hrx2 : RX h (k + 1) (ix k s t) (u0 + gd h k s) := Or.inr ⟨x, u0, s, t, RX_le hrx h1, h3, h4, rfl, rfl⟩
            obtain ⟨u, b1, b2, b3⟩ := hU.2 (k + 1) _ _ (by omega) hrx2
            exact hi _ (by unfold XV at hxv; unfold ix; omega) (XV_ix h2 h3 (by omega)) ⟨u, b1, b3⟩
          · by_cases e2 : y = x
            · subst e2; exact q2
            · have := hi y (by omega) hy2 hy3
              unfold SV at this ⊢
              rw [(q1 y e2).1, (q1 y e2).2.1, (q1 y e2).2.2.1, (q1 y e2).2.2.2]
              exact this
      · have e1 := hU8 x (by unfold XV at hxv; omega) (by unfold XV at hxv; omega)
        exact ⟨fun _ => hskip e1, fun e2 => absurd (by rw [e1]; decide) e2⟩
  unfold wp_X5_goBackward wp_X6_end wp_X6_size
  refine x_standOf (s := 0) ?_
  intro y hy
  have : ix n 0 0 = 8 * (n + 1) := by unfold ix; omega
  rw [this] at hy
  subst hy
  exact ⟨8 * (n + 1) + 1, hloop (8 * (n + 1)) r w e a (Nat.le_refl _) (fun y h1 h2 => by unfold XV at h2; omega)⟩
end
