/-! pure: the reference's load -/
def mix (n : Nat) (f g : zN') : zN' := fun j => if j < n then f j else g j
theorem mix_s {n : Nat} {f g : zN'} : va_up (mix n f g) n (f n) = mix (n + 1) f g := by
  funext j
  unfold va_up mix
  by_cases c : j = n
  · rw [if_pos c, if_pos (by omega), c]
  · rw [if_neg c]
    by_cases d : j < n
    · rw [if_pos d, if_pos (by omega)]
    · rw [if_neg d, if_neg (by omega)]
def ldρ (bu : Nat) (B : zBd) (n : Nat) : zN' := fun j => if j = 3 then bu else if 4 ≤ j ∧ j < 4 + n then bco B (j - 4) else 0
theorem ldρ_s {bu n : Nat} {B : zBd} : va_up (ldρ bu B n) (4 + n) (bco B n) = ldρ bu B (n + 1) := by
  funext j
  unfold va_up ldρ
  by_cases c : j = 4 + n
  · rw [if_pos c, if_neg (by omega), if_pos (by omega), c, Nat.add_sub_cancel_left]
  · rw [if_neg c]
    by_cases d : j = 3
    · rw [if_pos d, if_pos d]
    · rw [if_neg d, if_neg d]
      by_cases e : 4 ≤ j ∧ j < 4 + n
      · rw [if_pos e, if_pos (by omega)]
      · rw [if_neg e, if_neg (by omega)]
def loadA (A : zSt) (f bu : Nat) (B : zBd) (ac li : zN') : zSt := ((aT A, an A), (f, bnc B, bnp B, mix (bnc B) (bfr B) (afr A), mix (bnc B) (btt B) (att A), mix (bnc B) (bgr B) (agr A), mix (bnc B) (blo B) (alo A), ac, li), ldρ bu B (bnc B), 0, aH A, fun _ => false, aK A)
/-- what load may answer: rows of places beyond their number are not said -/
def loadR (A : zSt) (S : zAn) : Prop := match ptext (aT A) (an A) with
  | .inl _ => S = (1, 0, A)
  | .inr (f, bu, B) => ∃ ac li : zN', (∀ p, p < bnp B → ac p = bac B p ∧ li p = bli B p) ∧ S = (0, nI (bnc B), loadA A f bu B ac li)
theorem mix_lt {n j : Nat} {f g : zN'} (h : j < n) : mix n f g j = f j := if_pos h
theorem AI_load {t : Nat} {A : zSt} {S : zAn} (hA : AI t A) (hS : loadR A S) : AI t S.2.2 := by
  unfold loadR at hS
  cases hp : ptext (aT A) (an A) with
  | inl p =>
    rw [hp] at hS
    have hS' : S = (1, 0, A) := hS
    rw [hS']
    exact hA
  | inr w =>
    obtain ⟨f, bu, B⟩ := w
    rw [hp] at hS
    have hS' : ∃ ac li : zN', (∀ p, p < bnp B → ac p = bac B p ∧ li p = bli B p) ∧ S = (0, nI (bnc B), loadA A f bu B ac li) := hS
    obtain ⟨ac, li, h1, h2⟩ := hS'
    rw [h2]
    obtain ⟨p1, p2, p3, p4, ⟨⟨k1, k1', k2, k3⟩, k4, k5, k6⟩⟩ := ptext_ok hA.1.1 hp
    refine ⟨hA.1, ⟨⟨p2, k1', fun c hc => ?_, fun c d hc hd => ?_⟩, p1, k4, fun c hc => ?_, fun p hp => ?_⟩, ⟨⟨?_, ?_, ?_, ?_⟩, ?_⟩, Nat.zero_le _, fun i hi => absurd hi (Nat.not_lt_zero _), fun k _ z => (by cases z)⟩
    · show mix (bnc B) (bfr B) (afr A) c < f ∧ mix (bnc B) (btt B) (att A) c < f ∧ mix (bnc B) (bfr B) (afr A) c ≠ mix (bnc B) (btt B) (att A) c
      have hc' : c < bnc B := hc
      rw [mix_lt hc', mix_lt hc']
      exact k2 c hc
    · show mix (bnc B) (bfr B) (afr A) c = mix (bnc B) (bfr B) (afr A) d → mix (bnc B) (btt B) (att A) c = mix (bnc B) (btt B) (att A) d → c = d
      have hc' : c < bnc B := hc
      have hd' : d < bnc B := hd
      rw [mix_lt hc', mix_lt hc', mix_lt hd', mix_lt hd']
      exact k3 c d hc hd
    · show 1 ≤ mix (bnc B) (bgr B) (agr A) c ∧ mix (bnc B) (bgr B) (agr A) c ≤ 99 ∧ mix (bnc B) (blo B) (alo A) c ≤ 9
      have hc' : c < bnc B := hc
      rw [mix_lt hc', mix_lt hc']
      exact (k5 c hc).2
    · show ac p < 256 ∧ ac p ≠ 0 ∧ ac p < 2 ^ f ∧ 1 ≤ li p ∧ li p ≤ 99999
      rw [(h1 p hp).1, (h1 p hp).2]
      exact k6 p hp
    · refine ⟨?_, ?_, ?_, ?_, fun e he => ?_⟩
      · show ldρ bu B (bnc B) 0 ≤ 12
        unfold ldρ; rw [if_neg (by omega), if_neg (by omega)]; omega
      · show ldρ bu B (bnc B) 1 < 10000
        unfold ldρ; rw [if_neg (by omega), if_neg (by omega)]; omega
      · exact p3
      · exact p4
      · have he' : e < ldρ bu B (bnc B) 0 := he
        unfold ldρ at he'
        rw [if_neg (by omega), if_neg (by omega)] at he'
        omega
    · intro j hj
      show ldρ bu B (bnc B) j = 0
      unfold ldρ; rw [if_neg (by omega), if_neg (by omega)]
    · intro c hc
      show 1 ≤ ldρ bu B (bnc B) (4 + c) ∧ ldρ bu B (bnc B) (4 + c) ≤ 99
      have hc' : c < bnc B := hc
      unfold ldρ; rw [if_neg (by omega), if_pos (by omega), Nat.add_sub_cancel_left]
      exact (k5 c hc).1
    · intro e g he
      have he' : e < ldρ bu B (bnc B) 0 := he
      unfold ldρ at he'
      rw [if_neg (by omega), if_neg (by omega)] at he'
      omega
    · show ldρ bu B (bnc B) 1 ≤ t
      unfold ldρ; rw [if_neg (by omega), if_neg (by omega)]; omega
/-- the last steps of load -/
def fX7_load_t (a0 : Nat) (h18 : zH) : Option (Int32 × zH) :=
    (zgP h18 7 a0 22).bind fun w20 =>
    (zgP h18 7 a0 11).bind fun w21 =>
    (fX7_copyRow h18 (w20) (0) (w21) (0) (6)).bind fun h22 =>
    (zgP h22 7 a0 23).bind fun w23 =>
    (zgP h22 7 a0 12).bind fun w24 =>
    (fX7_copyRow h22 (w23) (0) (w24) (0) (6)).bind fun h25 =>
    (zpI h25 7 a0 28 0).bind fun h26 =>
    (zgP h26 7 a0 30).bind fun w27 =>
    (zbZ h26 w27 (0) (0)).bind fun h28 =>
    (zgP h28 7 a0 30).bind fun w29 =>
    (zbZ h28 w29 (1) (0)).bind fun h30 =>
    (zgI h30 7 a0 5).bind fun w31 =>
    some (w31, h30)
/-- the steps between the loops -/
def fX7_load_s (a0 : Nat) (h7 : zH) : Option (Int32 × zH) :=
    (zgI h7 7 a0 13).bind fun w9 =>
    (zpI h7 7 a0 4 w9).bind fun h10 =>
    (zgI h10 7 a0 14).bind fun w11 =>
    (zpI h10 7 a0 5 w11).bind fun h12 =>
    (zgI h12 7 a0 15).bind fun w13 =>
    (zpI h12 7 a0 6 w13).bind fun h14 =>
    (zgP h14 7 a0 24).bind fun w15 =>
    (zgI h14 7 a0 16).bind fun w16 =>
    (zbI h14 w15 (3) (w16)).bind fun h17 =>
    fX7_load_L81 (fun h18 y19 => fX7_load_t a0 h18) (a0) zF h17 (0)
def fX7_load_b (a0 : Nat) (w4 : Int32) (h5 : zH) : Option (Int32 × zH) :=
    if (w4 : Int32) = 0 then
    fX7_load_L25 (fun h7 y8 => fX7_load_s a0 h7) (a0) zF h5 (0)
    else
    some (0, h5)
theorem fX7_load_e {h : zH} {a0 : Nat} : fX7_load h a0 = (
    if zkd h a0 = 8 then
    zb2 (fX7_readText h (a0)) fun w1 h2 =>
    if (w1 : Int32) = (-9) then
    zb2 (fX7_refused h2 (a0) (0)) fun w4 h5 => fX7_load_b a0 w4 h5
    else
    zb2 (fX7_refused h2 (a0) (1)) fun w4 h5 => fX7_load_b a0 w4 h5
    else none) := rfl
