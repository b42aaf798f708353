/-! ===== one house: cnt, day, wor of the readings, rate, wrap; a step, a code, all codes ===== -/
abbrev HS : Type := (Nat → Nat) × (Nat → Nat) × (Nat → Nat) × Nat × Nat
def hCnt (h : HS) : Nat → Nat := h.1
def hDay (h : HS) : Nat → Nat := h.2.1
def hWor (h : HS) : Nat → Nat := h.2.2.1
def hRate (h : HS) : Nat := h.2.2.2.1
def hWrap (h : HS) : Nat := h.2.2.2.2
/-- the count of a reading as it is kept (0 as read, 1 slipped) -/
def ct (h : HS) (k s : Nat) : Nat := if s = 1 then hCnt h k * 5 / 8 else hCnt h k
def gd (h : HS) (k s : Nat) : Nat := if s = 0 then 2 * hWor h k else hWor h k
/-- how many turns -/
def trn (c f w : Nat) : Option Nat := if f ≤ c then some 0 else if f ≤ c + w then some 1 else if f ≤ c + 2 * w then some 2 else if f ≤ c + 3 * w then some 3 else none
abbrev SG : Type := Option (Nat × Nat)
def race (h : HS) (j f k f2 : Nat) : Prop := (hRate h : Int) * ((hDay h k : Int) - (hDay h j : Int)) < (f2 : Int) - (f : Int)
def raceb (h : HS) (j f k f2 : Nat) : Bool := decide ((hRate h : Int) * ((hDay h k : Int) - (hDay h j : Int)) < (f2 : Int) - (f : Int))
/-- the turns by which a reading can be kept so behind what is kept -/
def stt (h : HS) (q : SG) (k s : Nat) : Option Nat := match q with
  | none => some 0
  | some (j, f) => match trn (ct h k s) f (hWrap h) with
    | none => none
    | some t => if raceb h j f k (ct h k s + t * hWrap h) then none else some t
def stp (h : HS) (q : SG) (k s : Nat) : Option Nat := (stt h q k s).map (fun t => ct h k s + t * hWrap h)
def cand (h : HS) (X : SG → AG) (q : SG) (k s : Nat) : Option AG := (stp h q k s).map (fun f => sh (gd h k s) (2 ^ k) (X (some (k, f))))
/-- best, how many, each, any of the codes of the r readings from k on -/
def GG (h : HS) : Nat → Nat → SG → AG
  | 0, _, _ => (0, 1, 0, 0)
  | r + 1, k, q => (oc (cand h (GG h r (k + 1)) q k 0) (oc (cand h (GG h r (k + 1)) q k 1) (some (GG h r (k + 1) q)))).getD (0, 1, 0, 0)
theorem oc_some_r (x : Option AG) (y : AG) : ∃ z, oc x (some y) = some z := by cases x; exact ⟨_, rfl⟩; exact ⟨_, rfl⟩
theorem GG_succ (h : HS) (r k : Nat) (q : SG) : some (GG h (r + 1) k q) = oc (cand h (GG h r (k + 1)) q k 0) (oc (cand h (GG h r (k + 1)) q k 1) (some (GG h r (k + 1) q))) := by
  obtain ⟨z, hz⟩ := oc_some_r (cand h (GG h r (k + 1)) q k 1) (GG h r (k + 1) q)
  obtain ⟨y, hy⟩ := oc_some_r (cand h (GG h r (k + 1)) q k 0) z
  show some (Option.getD _ _) = _
  rw [hz, hy]
  rfl
/-- what a code of the r readings from k on gives: good and set -/
def sv (h : HS) : Nat → Nat → SG → Nat → Option (Nat × Nat)
  | 0, _, _, _ => some (0, 0)
  | r + 1, k, q, c => if c / 3 ^ r = 2 then sv h r (k + 1) q (c % 3 ^ r) else
    match stp h q k (c / 3 ^ r) with
    | none => none
    | some f => (sv h r (k + 1) (some (k, f)) (c % 3 ^ r)).map (fun v => (v.1 + gd h k (c / 3 ^ r), v.2 ||| 2 ^ k))
theorem p3 : ∀ (r : Nat), 0 < 3 ^ r
  | 0 => by decide
  | r + 1 => by rw [Nat.pow_succ]; have := p3 r; omega
theorem sv_blk (h : HS) (r k : Nat) (q : SG) (d c : Nat) (hd : d < 2) (hc : c < 3 ^ r) : sv h (r + 1) k q (d * 3 ^ r + c) = match stp h q k d with
    | none => none
    | some f => (sv h r (k + 1) (some (k, f)) c).map (fun v => (v.1 + gd h k d, v.2 ||| 2 ^ k)) := by
  have h1 : (d * 3 ^ r + c) / 3 ^ r = d := by rw [Nat.add_comm, Nat.add_mul_div_right _ _ (p3 r), Nat.div_eq_of_lt hc, Nat.zero_add]
  have h2 : (d * 3 ^ r + c) % 3 ^ r = c := by rw [Nat.add_comm, Nat.add_mul_mod_self_right, Nat.mod_eq_of_lt hc]
  show (if (d * 3 ^ r + c) / 3 ^ r = 2 then _ else _) = _
  rw [h1, h2, if_neg (by omega)]
theorem sv_blk2 (h : HS) (r k : Nat) (q : SG) (c : Nat) (hc : c < 3 ^ r) : sv h (r + 1) k q (2 * 3 ^ r + c) = sv h r (k + 1) q c := by
  have h1 : (2 * 3 ^ r + c) / 3 ^ r = 2 := by rw [Nat.add_comm, Nat.add_mul_div_right _ _ (p3 r), Nat.div_eq_of_lt hc, Nat.zero_add]
  have h2 : (2 * 3 ^ r + c) % 3 ^ r = c := by rw [Nat.add_comm, Nat.add_mul_mod_self_right, Nat.mod_eq_of_lt hc]
  show (if (2 * 3 ^ r + c) / 3 ^ r = 2 then _ else _) = _
  rw [h1, h2, if_pos rfl]
/-- all codes together give GG -/
theorem af_sv (h : HS) : ∀ (r k : Nat) (q : SG), af (sv h r k q) (3 ^ r) = some (GG h r k q)
  | 0, _, _ => rfl
  | r + 1, k, q => by
    have e3 : 3 ^ (r + 1) = 3 ^ r + (3 ^ r + 3 ^ r) := by rw [Nat.pow_succ]; omega
    rw [e3, af_add, af_add, GG_succ]
    have hb : ∀ d, d < 2 → af (fun c => sv h (r + 1) k q (d * 3 ^ r + c)) (3 ^ r) = cand h (GG h r (k + 1)) q k d := by
      intro d hd
      rw [af_congr (w := fun c => match stp h q k d with
        | none => none
        | some f => (sv h r (k + 1) (some (k, f)) c).map (fun v => (v.1 + gd h k d, v.2 ||| 2 ^ k))) (3 ^ r) (fun c hc => sv_blk h r k q d c hd hc)]
      unfold cand
      cases hs : stp h q k d with
      | none => exact af_none _
      | some f =>
        show af (fun c => (sv h r (k + 1) (some (k, f)) c).map _) _ = _
        rw [af_sh, af_sv h r (k + 1) (some (k, f))]
        rfl
    have h0 := hb 0 (by decide)
    have h1 := hb 1 (by decide)
    simp only [Nat.zero_mul, Nat.zero_add, Nat.one_mul] at h0 h1
    have h2 : af (fun c => sv h (r + 1) k q (3 ^ r + (3 ^ r + c))) (3 ^ r) = some (GG h r (k + 1) q) := by
      rw [← af_sv h r (k + 1) q]
      apply af_congr
      intro c hc
      rw [← sv_blk2 h r k q c hc]
      congr 1
      omega
    rw [h2, h1]
    congr 1
/-- the first of the best -/
def fc (h : HS) : Nat → Nat → SG → Nat
  | 0, _, _ => 0
  | r + 1, k, q => match stp h q k 0 with
    | some f => if (GG h r (k + 1) (some (k, f))).1 + gd h k 0 = (GG h (r + 1) k q).1 then fc h r (k + 1) (some (k, f)) else
      (match stp h q k 1 with
      | some f1 => if (GG h r (k + 1) (some (k, f1))).1 + gd h k 1 = (GG h (r + 1) k q).1 then 3 ^ r + fc h r (k + 1) (some (k, f1)) else 3 ^ r + 3 ^ r + fc h r (k + 1) q
      | none => 3 ^ r + 3 ^ r + fc h r (k + 1) q)
    | none => (match stp h q k 1 with
      | some f1 => if (GG h r (k + 1) (some (k, f1))).1 + gd h k 1 = (GG h (r + 1) k q).1 then 3 ^ r + fc h r (k + 1) (some (k, f1)) else 3 ^ r + 3 ^ r + fc h r (k + 1) q
      | none => 3 ^ r + 3 ^ r + fc h r (k + 1) q)
theorem fc_succ (h : HS) (r k : Nat) (q : SG) : fc h (r + 1) k q = match stp h q k 0 with
    | some f => if (GG h r (k + 1) (some (k, f))).1 + gd h k 0 = (GG h (r + 1) k q).1 then fc h r (k + 1) (some (k, f)) else
      (match stp h q k 1 with
      | some f1 => if (GG h r (k + 1) (some (k, f1))).1 + gd h k 1 = (GG h (r + 1) k q).1 then 3 ^ r + fc h r (k + 1) (some (k, f1)) else 3 ^ r + 3 ^ r + fc h r (k + 1) q
      | none => 3 ^ r + 3 ^ r + fc h r (k + 1) q)
    | none => (match stp h q k 1 with
      | some f1 => if (GG h r (k + 1) (some (k, f1))).1 + gd h k 1 = (GG h (r + 1) k q).1 then 3 ^ r + fc h r (k + 1) (some (k, f1)) else 3 ^ r + 3 ^ r + fc h r (k + 1) q
      | none => 3 ^ r + 3 ^ r + fc h r (k + 1) q) := rfl
/-- which of two comes first, by their bests -/
def fl (x : Option AG) (c : Nat) (y : Option AG) (d : Nat) : Nat := match x, y with
  | _, none => c
  | none, some _ => d
  | some x, some y => if x.1 < y.1 then d else c
/-- the first code below N whose good is the best -/
def ff (v : Nat → Option (Nat × Nat)) : Nat → Nat
  | 0 => 0
  | N + 1 => fl (af v N) (ff v N) ((v N).map (fun q => (q.1, 1, q.2, q.2))) N
theorem fl_pos {x y : AG} {c d : Nat} (h : x.1 < y.1) : fl (some x) c (some y) d = d := if_pos h
theorem fl_neg {x y : AG} {c d : Nat} (h : ¬ x.1 < y.1) : fl (some x) c (some y) d = c := if_neg h
theorem sh_1 (g b : Nat) (x : AG) : (sh g b x).1 = x.1 + g := rfl
theorem oc_ss (x y : AG) : oc (some x) (some y) = some (ac x y) := rfl
theorem fl_ns (c d : Nat) (y : AG) : fl none c (some y) d = d := rfl
theorem fl_none (x : Option AG) (c d : Nat) : fl x c none d = c := by cases x <;> rfl
theorem fl_assoc (x y z : Option AG) (c d e : Nat) : fl (oc x y) (fl x c y d) z e = fl x c (oc y z) (fl y d z e) := by
  cases x with
  | none => cases y <;> cases z <;> rfl
  | some x => cases y with
    | none => cases z <;> rfl
    | some y => cases z with
      | none => rfl
      | some z =>
        show (if (ac x y).1 < z.1 then e else if x.1 < y.1 then d else c) = (if x.1 < (ac y z).1 then (if y.1 < z.1 then e else d) else c)
        rw [ac_1, ac_1]
        repeat' split
        all_goals first | rfl | omega
theorem fl_shift (x y : Option AG) (c d A : Nat) : A + fl x c y d = fl x (A + c) y (A + d) := by
  cases x <;> cases y <;> first | rfl | (simp only [fl]; split <;> rfl)
theorem ff_add (v : Nat → Option (Nat × Nat)) (A : Nat) : ∀ B, ff v (A + B) = fl (af v A) (ff v A) (af (fun c => v (A + c)) B) (A + ff (fun c => v (A + c)) B)
  | 0 => (fl_none _ _ _).symm
  | B + 1 => by
    show fl (af v (A + B)) (ff v (A + B)) ((v (A + B)).map _) (A + B) = fl (af v A) (ff v A) (oc _ _) (A + fl _ _ _ _)
    rw [fl_shift, ff_add v A B, af_add, fl_assoc]
theorem ff_congr {v w : Nat → Option (Nat × Nat)} : ∀ (N : Nat), (∀ c, c < N → v c = w c) → ff v N = ff w N
  | 0, _ => rfl
  | N + 1, h => by
    show fl (af v N) (ff v N) _ _ = fl (af w N) (ff w N) _ _
    rw [ff_congr N (fun c hc => h c (by omega)), af_congr N (fun c hc => h c (by omega)), h N (by omega)]
theorem fl_sh (g b : Nat) (x y : Option AG) (c d : Nat) : fl (x.map (sh g b)) c (y.map (sh g b)) d = fl x c y d := by
  cases x <;> cases y <;> first | rfl | (simp only [fl, Option.map, sh]; split <;> split <;> first | rfl | omega)
theorem ff_sh (g b : Nat) (v : Nat → Option (Nat × Nat)) : ∀ (N : Nat), ff (fun c => (v c).map (fun q => (q.1 + g, q.2 ||| b))) N = ff v N
  | 0 => rfl
  | N + 1 => by
    show fl (af _ N) (ff _ N) _ _ = fl (af v N) (ff v N) _ _
    rw [ff_sh g b v N, af_sh]
    have : Option.map (fun q : Nat × Nat => ((q.1, 1, q.2, q.2) : AG)) ((v N).map (fun q => (q.1 + g, q.2 ||| b))) = ((v N).map (fun q => ((q.1, 1, q.2, q.2) : AG))).map (sh g b) := by
      cases v N <;> rfl
    dsimp only
    rw [this, fl_sh]
theorem ff_none : ∀ (N : Nat), ff (fun _ => none) N = 0
  | 0 => rfl
  | N + 1 => by
    show fl _ _ none _ = 0
    rw [fl_none, ff_none N]
theorem ff_sv (h : HS) : ∀ (r k : Nat) (q : SG), ff (sv h r k q) (3 ^ r) = fc h r k q
  | 0, _, _ => rfl
  | r + 1, k, q => by
    have e3 : 3 ^ (r + 1) = 3 ^ r + (3 ^ r + 3 ^ r) := by rw [Nat.pow_succ]; omega
    have hall := af_sv h (r + 1) k q
    rw [e3, af_add, af_add] at hall
    rw [e3, ff_add, ff_add, af_add]
    have hb : ∀ d, d < 2 → af (fun c => sv h (r + 1) k q (d * 3 ^ r + c)) (3 ^ r) = cand h (GG h r (k + 1)) q k d ∧ (∀ f, stp h q k d = some f → ff (fun c => sv h (r + 1) k q (d * 3 ^ r + c)) (3 ^ r) = fc h r (k + 1) (some (k, f))) := by
      intro d hd
      have hc : ∀ c, c < 3 ^ r → sv h (r + 1) k q (d * 3 ^ r + c) = match stp h q k d with
        | none => none
        | some f => (sv h r (k + 1) (some (k, f)) c).map (fun v => (v.1 + gd h k d, v.2 ||| 2 ^ k)) := fun c hc => sv_blk h r k q d c hd hc
      constructor
      · rw [af_congr (3 ^ r) hc]
        unfold cand
        cases hs : stp h q k d with
        | none => exact af_none _
        | some f =>
          show af (fun c => (sv h r (k + 1) (some (k, f)) c).map _) _ = _
          rw [af_sh, af_sv h r (k + 1) (some (k, f))]
          rfl
      · intro f hs
        rw [ff_congr (3 ^ r) hc, hs]
        show ff (fun c => (sv h r (k + 1) (some (k, f)) c).map _) _ = _
        rw [ff_sh, ff_sv h r (k + 1) (some (k, f))]
    obtain ⟨h0, g0⟩ := hb 0 (by decide)
    obtain ⟨h1, g1⟩ := hb 1 (by decide)
    simp only [Nat.zero_mul, Nat.zero_add, Nat.one_mul] at h0 h1 g0 g1
    have h2' : ∀ c, c < 3 ^ r → sv h (r + 1) k q (3 ^ r + (3 ^ r + c)) = sv h r (k + 1) q c := fun c hc => by
      rw [← sv_blk2 h r k q c hc]
      congr 1
      omega
    have h2 : af (fun c => sv h (r + 1) k q (3 ^ r + (3 ^ r + c))) (3 ^ r) = some (GG h r (k + 1) q) := by rw [← af_sv h r (k + 1) q]; exact af_congr _ h2'
    have g2 : ff (fun c => sv h (r + 1) k q (3 ^ r + (3 ^ r + c))) (3 ^ r) = fc h r (k + 1) q := by rw [← ff_sv h r (k + 1) q]; exact ff_congr _ h2'
    have h0' : af (sv h (r + 1) k q) (3 ^ r) = cand h (GG h r (k + 1)) q k 0 := h0
    rw [h0', h1, h2] at hall
    rw [h0', h1, h2, g2]
    have g0' : ∀ f, stp h q k 0 = some f → ff (sv h (r + 1) k q) (3 ^ r) = fc h r (k + 1) (some (k, f)) := g0
    rw [fc_succ]
    cases e0 : stp h q k 0 with
    | none =>
      have c0 : cand h (GG h r (k + 1)) q k 0 = none := by unfold cand; rw [e0]; rfl
      rw [c0] at hall ⊢
      cases e1 : stp h q k 1 with
      | none =>
        have c1 : cand h (GG h r (k + 1)) q k 1 = none := by unfold cand; rw [e1]; rfl
        rw [c1]
        show 3 ^ r + (3 ^ r + fc h r (k + 1) q) = 3 ^ r + 3 ^ r + fc h r (k + 1) q
        omega
      | some f1 =>
        have c1 : cand h (GG h r (k + 1)) q k 1 = some (sh (gd h k 1) (2 ^ k) (GG h r (k + 1) (some (k, f1)))) := by unfold cand; rw [e1]; rfl
        rw [c1] at hall ⊢
        rw [g1 f1 e1]
        have hm : max ((GG h r (k + 1) (some (k, f1))).1 + gd h k 1) (GG h r (k + 1) q).1 = (GG h (r + 1) k q).1 := by
          have := congrArg Prod.fst (Option.some.inj hall)
          rw [ac_1] at this
          exact this
        rw [oc_ss, fl_ns]
        show _ = if (GG h r (k + 1) (some (k, f1))).1 + gd h k 1 = (GG h (r + 1) k q).1 then 3 ^ r + fc h r (k + 1) (some (k, f1)) else 3 ^ r + 3 ^ r + fc h r (k + 1) q
        by_cases q1 : (sh (gd h k 1) (2 ^ k) (GG h r (k + 1) (some (k, f1)))).1 < (GG h r (k + 1) q).1
        · rw [fl_pos q1]
          rw [sh_1] at q1
          rw [if_neg (by omega)]; omega
        · rw [fl_neg q1]
          rw [sh_1] at q1
          rw [if_pos (by omega)]
    | some f0 =>
      have c0 : cand h (GG h r (k + 1)) q k 0 = some (sh (gd h k 0) (2 ^ k) (GG h r (k + 1) (some (k, f0)))) := by unfold cand; rw [e0]; rfl
      rw [c0] at hall ⊢
      rw [g0' f0 e0]
      cases e1 : stp h q k 1 with
      | none =>
        have c1 : cand h (GG h r (k + 1)) q k 1 = none := by unfold cand; rw [e1]; rfl
        rw [c1] at hall ⊢
        have hm : max ((GG h r (k + 1) (some (k, f0))).1 + gd h k 0) (GG h r (k + 1) q).1 = (GG h (r + 1) k q).1 := by
          have := congrArg Prod.fst (Option.some.inj hall)
          rw [ac_1] at this
          exact this
        rw [oc_none_l]
        show _ = if (GG h r (k + 1) (some (k, f0))).1 + gd h k 0 = (GG h (r + 1) k q).1 then fc h r (k + 1) (some (k, f0)) else 3 ^ r + 3 ^ r + fc h r (k + 1) q
        by_cases q1 : (sh (gd h k 0) (2 ^ k) (GG h r (k + 1) (some (k, f0)))).1 < (GG h r (k + 1) q).1
        · rw [fl_pos q1, fl_ns]
          rw [sh_1] at q1
          rw [if_neg (by omega)]; omega
        · rw [fl_neg q1]
          rw [sh_1] at q1
          rw [if_pos (by omega)]
      | some f1 =>
        have c1 : cand h (GG h r (k + 1)) q k 1 = some (sh (gd h k 1) (2 ^ k) (GG h r (k + 1) (some (k, f1)))) := by unfold cand; rw [e1]; rfl
        rw [c1] at hall ⊢
        rw [g1 f1 e1]
        have hm : max ((GG h r (k + 1) (some (k, f0))).1 + gd h k 0) (max ((GG h r (k + 1) (some (k, f1))).1 + gd h k 1) (GG h r (k + 1) q).1) = (GG h (r + 1) k q).1 := by
          have := congrArg Prod.fst (Option.some.inj hall)
          rw [ac_1, ac_1] at this
          exact this
        rw [oc_ss]
        show _ = if (GG h r (k + 1) (some (k, f0))).1 + gd h k 0 = (GG h (r + 1) k q).1 then fc h r (k + 1) (some (k, f0)) else if (GG h r (k + 1) (some (k, f1))).1 + gd h k 1 = (GG h (r + 1) k q).1 then 3 ^ r + fc h r (k + 1) (some (k, f1)) else 3 ^ r + 3 ^ r + fc h r (k + 1) q
        by_cases q0 : (sh (gd h k 0) (2 ^ k) (GG h r (k + 1) (some (k, f0)))).1 < (ac (sh (gd h k 1) (2 ^ k) (GG h r (k + 1) (some (k, f1)))) (GG h r (k + 1) q)).1
        · rw [fl_pos q0]
          rw [ac_1, sh_1, sh_1] at q0
          rw [if_neg (show ¬ (GG h r (k + 1) (some (k, f0))).1 + gd h k 0 = (GG h (r + 1) k q).1 by omega)]
          by_cases q1 : (sh (gd h k 1) (2 ^ k) (GG h r (k + 1) (some (k, f1)))).1 < (GG h r (k + 1) q).1
          · rw [fl_pos q1]
            rw [sh_1] at q1
            rw [if_neg (by omega)]; omega
          · rw [fl_neg q1]
            rw [sh_1] at q1
            rw [if_pos (by omega)]
        · rw [fl_neg q0]
          rw [ac_1, sh_1, sh_1] at q0
          rw [if_pos (by omega)]
