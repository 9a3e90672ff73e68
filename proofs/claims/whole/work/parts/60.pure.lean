/-! the pure reader of TEXTS: bytes b below n; a place p is where the next TOKEN is looked for -/
def isBl (x : Int32) : Bool := decide (x = 32) || decide (x = 10)
def isLt (x : Int32) : Bool := decide (97 ≤ x.toInt) && decide (x.toInt ≤ 122)
def isDg (x : Int32) : Bool := decide (48 ≤ x.toInt) && decide (x.toInt ≤ 57)
def isSg (x : Int32) : Bool := decide (x = 40) || decide (x = 41) || decide (x = 59) || decide (x = 43) || decide (x = 45) || decide (x = 42) || decide (x = 60) || decide (x = 61)
def spn (P : Int32 → Bool) (b : Nat → Int32) : Nat → Nat → Nat
  | 0, p => p
  | m + 1, p => if P (b p) then spn P b m (p + 1) else p
def sp (P : Int32 → Bool) (b : Nat → Int32) (n p : Nat) : Nat := spn P b (n - p) p
theorem sp_end {P : Int32 → Bool} {b : Nat → Int32} {n p : Nat} (h : n ≤ p) : sp P b n p = p := by
  unfold sp
  rw [show n - p = 0 by omega]
  rfl
theorem sp_no {P : Int32 → Bool} {b : Nat → Int32} {n p : Nat} (h : P (b p) = false) : sp P b n p = p := by
  unfold sp
  cases e : n - p with
  | zero => rfl
  | succ m => show (if P (b p) = true then _ else _) = _; rw [h]; rfl
theorem sp_yes {P : Int32 → Bool} {b : Nat → Int32} {n p : Nat} (hp : p < n) (h : P (b p) = true) : sp P b n p = sp P b n (p + 1) := by
  unfold sp
  rw [show n - p = (n - (p + 1)) + 1 by omega]
  show (if P (b p) = true then _ else _) = _
  rw [if_pos h]
theorem spn_le {P : Int32 → Bool} {b : Nat → Int32} : ∀ (m p : Nat), p ≤ spn P b m p ∧ spn P b m p ≤ p + m ∧ ∀ i, p ≤ i → i < spn P b m p → P (b i) = true := by
  intro m
  induction m with
  | zero => intro p; exact ⟨Nat.le_refl _, Nat.le_refl _, fun i h1 h2 => absurd h2 (Nat.not_lt.mpr h1)⟩
  | succ m ih =>
    intro p
    unfold spn
    by_cases h : P (b p) = true
    · rw [if_pos h]
      have h9 := ih (p + 1)
      refine ⟨by omega, by omega, fun i h1 h2 => ?_⟩
      by_cases e : i = p
      · rw [e]; exact h
      · exact h9.2.2 i (by omega) h2
    · rw [if_neg h]
      exact ⟨Nat.le_refl _, by omega, fun i h1 h2 => absurd h2 (Nat.not_lt.mpr h1)⟩
theorem sp_le {P : Int32 → Bool} {b : Nat → Int32} {n p : Nat} (h : p ≤ n) : p ≤ sp P b n p ∧ sp P b n p ≤ n := by
  have h9 := spn_le (P := P) (b := b) (n - p) p
  unfold sp
  omega
theorem sp_all {P : Int32 → Bool} {b : Nat → Int32} {n p : Nat} : ∀ i, p ≤ i → i < sp P b n p → P (b i) = true := (spn_le (P := P) (b := b) (n - p) p).2.2
def lxA (b : Nat → Int32) (n p : Nat) : Nat := sp isBl b n p
def ltA (b : Nat → Int32) (a e i : Nat) : Int32 := if a + i < e then b (a + i) else 0
def okW (b : Nat → Int32) (a e i : Nat) : Bool := decide (e ≤ a + 8) && (List.range 8).all (fun j => decide (ltA b a e j = strAt i j))
theorem okW_t {b : Nat → Int32} {a e i : Nat} : okW b a e i = true ↔ (e ≤ a + 8 ∧ ∀ j, j < 8 → ltA b a e j = strAt i j) := by
  unfold okW
  rw [Bool.and_eq_true, decide_eq_true_iff, List.all_eq_true]
  constructor
  · intro h
    refine ⟨h.1, fun j hj => ?_⟩
    have := h.2 j (List.mem_range.mpr hj)
    exact of_decide_eq_true this
  · intro h
    exact ⟨h.1, fun j hj => decide_eq_true (h.2 j (List.mem_range.mp hj))⟩
def wtk (ok : Nat → Bool) : Nat → Int32
  | 0 => 1
  | m + 1 => if ok m then nI (300 + m) else wtk ok m
def tkA (b : Nat → Int32) (n a : Nat) : Int32 := if n ≤ a then 0 else if isLt (b a) then wtk (okW b a (sp isLt b n a)) 12 else if isDg (b a) then (if sp isDg b n a - a ≤ 4 then 2 else 1) else if isSg (b a) then b a else 1
def nxA (b : Nat → Int32) (n a : Nat) : Nat := if n ≤ a then a else if isLt (b a) then sp isLt b n a else if isDg (b a) then sp isDg b n a else a + 1
def nuf (b : Nat → Int32) : Nat → Nat → Int32 → Int32
  | 0, _, v => v
  | m + 1, i, v => nuf b m (i + 1) (v * 10 + b i - 48)
def nuA (b : Nat → Int32) (n a : Nat) : Int32 := nuf b (sp isDg b n a - a) a 0
def tkP (b : Nat → Int32) (n p : Nat) : Int32 := tkA b n (lxA b n p)
def nxP (b : Nat → Int32) (n p : Nat) : Nat := nxA b n (lxA b n p)
def nuP (b : Nat → Int32) (n p : Nat) : Int32 := nuA b n (lxA b n p)
theorem lx_le {b : Nat → Int32} {n p : Nat} (h : p ≤ n) : p ≤ lxA b n p ∧ lxA b n p ≤ n := sp_le h
theorem nxA_le {b : Nat → Int32} {n a : Nat} (h : a ≤ n) : a ≤ nxA b n a ∧ nxA b n a ≤ n := by
  unfold nxA
  by_cases c : n ≤ a
  · rw [if_pos c]; omega
  · rw [if_neg c]
    split
    · exact sp_le h
    · split
      · exact sp_le h
      · omega
theorem nxA_lt {b : Nat → Int32} {n a : Nat} (h : a < n) : a + 1 ≤ nxA b n a := by
  unfold nxA
  rw [if_neg (by omega)]
  by_cases c : isLt (b a) = true
  · rw [if_pos c, sp_yes h c]
    exact (sp_le (by omega)).1
  · rw [if_neg c]
    by_cases d : isDg (b a) = true
    · rw [if_pos d, sp_yes h d]
      exact (sp_le (by omega)).1
    · rw [if_neg d]
      omega
theorem nx_le {b : Nat → Int32} {n p : Nat} (h : p ≤ n) : p ≤ nxP b n p ∧ nxP b n p ≤ n := by
  have h1 := lx_le (b := b) h
  have h2 := nxA_le (b := b) h1.2
  unfold nxP
  omega
theorem tk_lt {b : Nat → Int32} {n p : Nat} (h : p ≤ n) (ht : ¬ tkP b n p = 0) : lxA b n p < n ∧ p + 1 ≤ nxP b n p := by
  have h1 := lx_le (b := b) h
  have h2 : ¬ n ≤ lxA b n p := by
    intro q
    apply ht
    unfold tkP tkA
    rw [if_pos q]
  have h3 := nxA_lt (b := b) (n := n) (a := lxA b n p) (by omega)
  unfold nxP
  omega
theorem tk_end {b : Nat → Int32} {n p : Nat} (h : n ≤ p) : tkP b n p = 0 := by
  unfold tkP tkA lxA
  rw [sp_end h, if_pos h]
/-! the reader itself: (whether it stands, the steps, the place behind) -/
abbrev PR : Type := Bool × List Int32 × Nat
def lpP (tk : Nat → Int32) (nx : Nat → Nat) (is : Int32 → Bool) (ac : Int32 → Int32) (sub : Nat → PR) : Nat → PR → PR
  | 0, r => r
  | m + 1, r => if (r.1 && is (tk r.2.2)) = true then lpP tk nx is ac sub m ((sub (nx r.2.2)).1, r.2.1 ++ ((sub (nx r.2.2)).2.1 ++ [ac (tk r.2.2)]), (sub (nx r.2.2)).2.2) else r
def isT (t : Int32) : Bool := decide (t = 42)
def acT (_ : Int32) : Int32 := -27
def isU (t : Int32) : Bool := decide (t = 43) || decide (t = 45)
def acU (t : Int32) : Int32 := if t = 43 then -25 else -26
def isC (t : Int32) : Bool := decide (t = 60) || decide (t = 61)
def acC (t : Int32) : Int32 := if t = 60 then -23 else -24
def isB (t : Int32) : Bool := decide (t = 304)
def acB (_ : Int32) : Int32 := -22
def isE (t : Int32) : Bool := decide (t = 303)
def acE (_ : Int32) : Int32 := -21
def pSi (tk : Nat → Int32) (nx : Nat → Nat) (nu : Nat → Int32) (dp : Bool) (s e : Nat → PR) (p : Nat) : PR :=
  if tk p = 2 then (true, [nu p], nx p) else if ¬ tk p < 306 then (true, [-1 - (tk p - 306)], nx p) else
  if tk p = 45 then (if dp then ((s (nx p)).1, (s (nx p)).2.1 ++ [-11], (s (nx p)).2.2) else (false, [], p)) else
  if tk p = 40 then (if dp then (if ((e (nx p)).1 && decide (tk (e (nx p)).2.2 = 41)) = true then (true, (e (nx p)).2.1, nx (e (nx p)).2.2) else (false, (e (nx p)).2.1, (e (nx p)).2.2)) else (false, [], p)) else (false, [], p)
def pLo (tk : Nat → Int32) (nx : Nat → Nat) (is : Int32 → Bool) (ac : Int32 → Int32) (m : Nat) (sub : Nat → PR) (p : Nat) : PR := lpP tk nx is ac sub m (sub p)
def pNe (tk : Nat → Int32) (nx : Nat → Nat) (dp : Bool) (ng co : Nat → PR) (p : Nat) : PR :=
  if tk p = 305 then (if dp then ((ng (nx p)).1, (ng (nx p)).2.1 ++ [-12], (ng (nx p)).2.2) else (false, [], p)) else co p
def levN (tk : Nat → Int32) (nx : Nat → Nat) (dp : Bool) (ng s : Nat → PR) : Nat → PR := pNe tk nx dp ng (pLo tk nx isC acC 1 (pLo tk nx isU acU 160 (pLo tk nx isT acT 160 s)))
def levE (tk : Nat → Int32) (nx : Nat → Nat) (ng : Nat → PR) : Nat → PR := pLo tk nx isE acE 160 (pLo tk nx isB acB 160 ng)
def lev (tk : Nat → Int32) (nx : Nat → Nat) (nu : Nat → Int32) (dp : Bool) (q : (Nat → PR) × (Nat → PR) × (Nat → PR)) : (Nat → PR) × (Nat → PR) × (Nat → PR) :=
  (levE tk nx (levN tk nx dp q.2.1 (pSi tk nx nu dp q.2.2 q.1)), levN tk nx dp q.2.1 (pSi tk nx nu dp q.2.2 q.1), pSi tk nx nu dp q.2.2 q.1)
def noP (p : Nat) : PR := (false, [], p)
def pP (tk : Nat → Int32) (nx : Nat → Nat) (nu : Nat → Int32) : Nat → (Nat → PR) × (Nat → PR) × (Nat → PR)
  | 0 => lev tk nx nu false (noP, noP, noP)
  | d + 1 => lev tk nx nu true (pP tk nx nu d)
/-- places only grow, steps are no more than places -/
def Gd (n : Nat) (f : Nat → PR) : Prop := ∀ p, p ≤ n → p ≤ (f p).2.2 ∧ (f p).2.2 ≤ n ∧ ((f p).1 = true → (f p).2.1.length + p ≤ (f p).2.2)
def Lx (n : Nat) (tk : Nat → Int32) (nx : Nat → Nat) : Prop := (∀ p, p ≤ n → p ≤ nx p ∧ nx p ≤ n) ∧ (∀ p, p ≤ n → ¬ tk p = 0 → p + 1 ≤ nx p) ∧ ∀ p, n ≤ p → tk p = 0
theorem Lx_of (b : Nat → Int32) (n : Nat) : Lx n (tkP b n) (nxP b n) := ⟨fun _ h => nx_le h, fun _ h ht => (tk_lt h ht).2, fun _ h => tk_end h⟩
theorem Gd_lp {n : Nat} {tk : Nat → Int32} {nx : Nat → Nat} {is : Int32 → Bool} {ac : Int32 → Int32} {sub : Nat → PR} (hL : Lx n tk nx) (hi : is 0 = false) (hs : Gd n sub) : ∀ (m p : Nat) (r : PR), p ≤ r.2.2 → r.2.2 ≤ n → (r.1 = true → r.2.1.length + p ≤ r.2.2) → p ≤ (lpP tk nx is ac sub m r).2.2 ∧ (lpP tk nx is ac sub m r).2.2 ≤ n ∧ ((lpP tk nx is ac sub m r).1 = true → (lpP tk nx is ac sub m r).2.1.length + p ≤ (lpP tk nx is ac sub m r).2.2) := by
  intro m
  induction m with
  | zero => intro p r h1 h2 h3; exact ⟨h1, h2, h3⟩
  | succ m ih =>
    intro p r h1 h2 h3
    unfold lpP
    by_cases c : (r.1 && is (tk r.2.2)) = true
    · rw [if_pos c]
      rw [Bool.and_eq_true] at c
      have ht : ¬ tk r.2.2 = 0 := fun q => by rw [q, hi] at c; exact absurd c.2 (by decide)
      have h4 := hL.2.1 r.2.2 h2 ht
      have h5 := hs (nx r.2.2) (hL.1 r.2.2 h2).2
      refine ih p _ ?_ ?_ ?_
      · show p ≤ (sub (nx r.2.2)).2.2
        omega
      · exact h5.2.1
      · intro q
        have h6 := h5.2.2 q
        have h7 := h3 c.1
        show (r.2.1 ++ ((sub (nx r.2.2)).2.1 ++ [ac (tk r.2.2)])).length + p ≤ (sub (nx r.2.2)).2.2
        rw [List.length_append, List.length_append, List.length_singleton]
        omega
    · rw [if_neg c]
      exact ⟨h1, h2, h3⟩
theorem Gd_lo {n m : Nat} {tk : Nat → Int32} {nx : Nat → Nat} {is : Int32 → Bool} {ac : Int32 → Int32} {sub : Nat → PR} (hL : Lx n tk nx) (hi : is 0 = false) (hs : Gd n sub) : Gd n (pLo tk nx is ac m sub) := by
  intro p hp
  have h := hs p hp
  exact Gd_lp hL hi hs m p (sub p) h.1 h.2.1 h.2.2
theorem Gd_ne {n : Nat} {tk : Nat → Int32} {nx : Nat → Nat} {dp : Bool} {ng co : Nat → PR} (hL : Lx n tk nx) (hng : dp = true → Gd n ng) (hco : Gd n co) : Gd n (pNe tk nx dp ng co) := by
  intro p hp
  unfold pNe
  by_cases c : tk p = 305
  · rw [if_pos c]
    by_cases d : dp = true
    · rw [if_pos d]
      have h1 := hL.2.1 p hp (by rw [c]; decide)
      have h2 := hng d (nx p) (hL.1 p hp).2
      refine ⟨?_, h2.2.1, fun q => ?_⟩
      · show p ≤ (ng (nx p)).2.2
        omega
      · have h3 := h2.2.2 q
        show ((ng (nx p)).2.1 ++ [-12]).length + p ≤ (ng (nx p)).2.2
        rw [List.length_append, List.length_singleton]
        omega
    · rw [if_neg d]
      exact ⟨Nat.le_refl _, hp, fun q => absurd q Bool.false_ne_true⟩
  · rw [if_neg c]
    exact hco p hp
theorem Gd_si {n : Nat} {tk : Nat → Int32} {nx : Nat → Nat} {nu : Nat → Int32} {dp : Bool} {s e : Nat → PR} (hL : Lx n tk nx) (hs : dp = true → Gd n s) (he : dp = true → Gd n e) : Gd n (pSi tk nx nu dp s e) := by
  intro p hp
  have h0 := hL.1 p hp
  unfold pSi
  by_cases c : tk p = 2
  · rw [if_pos c]
    have h1 := hL.2.1 p hp (by rw [c]; decide)
    exact ⟨h0.1, h0.2, fun _ => by show 1 + p ≤ nx p; omega⟩
  · rw [if_neg c]
    by_cases d : ¬ tk p < 306
    · rw [if_pos d]
      have h1 := hL.2.1 p hp (fun q => d (by rw [q]; decide))
      exact ⟨h0.1, h0.2, fun _ => by show 1 + p ≤ nx p; omega⟩
    · rw [if_neg d]
      by_cases f : tk p = 45
      · rw [if_pos f]
        by_cases g : dp = true
        · rw [if_pos g]
          have h1 := hL.2.1 p hp (by rw [f]; decide)
          have h2 := hs g (nx p) h0.2
          refine ⟨?_, h2.2.1, fun q => ?_⟩
          · show p ≤ (s (nx p)).2.2
            omega
          · have h3 := h2.2.2 q
            show ((s (nx p)).2.1 ++ [-11]).length + p ≤ (s (nx p)).2.2
            rw [List.length_append, List.length_singleton]
            omega
        · rw [if_neg g]
          exact ⟨Nat.le_refl _, hp, fun q => absurd q Bool.false_ne_true⟩
      · rw [if_neg f]
        by_cases k : tk p = 40
        · rw [if_pos k]
          by_cases g : dp = true
          · rw [if_pos g]
            have h1 := hL.2.1 p hp (by rw [k]; decide)
            have h2 := he g (nx p) h0.2
            by_cases j : ((e (nx p)).1 && decide (tk (e (nx p)).2.2 = 41)) = true
            · rw [if_pos j]
              have h4 := hL.1 _ h2.2.1
              rw [Bool.and_eq_true] at j
              have h3 := h2.2.2 j.1
              refine ⟨?_, h4.2, fun _ => ?_⟩
              · show p ≤ nx (e (nx p)).2.2
                omega
              · show (e (nx p)).2.1.length + p ≤ nx (e (nx p)).2.2
                omega
            · rw [if_neg j]
              refine ⟨?_, h2.2.1, fun q => absurd q Bool.false_ne_true⟩
              show p ≤ (e (nx p)).2.2
              omega
          · rw [if_neg g]
            exact ⟨Nat.le_refl _, hp, fun q => absurd q Bool.false_ne_true⟩
        · rw [if_neg k]
          exact ⟨Nat.le_refl _, hp, fun q => absurd q Bool.false_ne_true⟩
theorem Gd_lev {n : Nat} {tk : Nat → Int32} {nx : Nat → Nat} {nu : Nat → Int32} {dp : Bool} {q : (Nat → PR) × (Nat → PR) × (Nat → PR)} (hL : Lx n tk nx) (h : dp = true → Gd n q.1 ∧ Gd n q.2.1 ∧ Gd n q.2.2) : Gd n (lev tk nx nu dp q).1 ∧ Gd n (lev tk nx nu dp q).2.1 ∧ Gd n (lev tk nx nu dp q).2.2 := by
  have h1 : Gd n (pSi tk nx nu dp q.2.2 q.1) := Gd_si hL (fun e => (h e).2.2) (fun e => (h e).1)
  have h2 : Gd n (levN tk nx dp q.2.1 (pSi tk nx nu dp q.2.2 q.1)) := Gd_ne hL (fun e => (h e).2.1) (Gd_lo hL (by decide) (Gd_lo hL (by decide) (Gd_lo hL (by decide) h1)))
  exact ⟨Gd_lo hL (by decide) (Gd_lo hL (by decide) h2), h2, h1⟩
theorem Gd_P {n : Nat} {tk : Nat → Int32} {nx : Nat → Nat} {nu : Nat → Int32} (hL : Lx n tk nx) : ∀ d, Gd n (pP tk nx nu d).1 ∧ Gd n (pP tk nx nu d).2.1 ∧ Gd n (pP tk nx nu d).2.2 := by
  intro d
  induction d with
  | zero => exact Gd_lev hL (fun q => absurd q Bool.false_ne_true)
  | succ d ih => exact Gd_lev hL (fun _ => ih)
