/-! an export is as the document writes one -/
theorem ltS_ge (f : Nat → Nat) : ∀ n, n ≤ (ltS f n).length
  | 0 => Nat.zero_le _
  | n + 1 => by
    have := ltS_ge f n
    have h2 : 1 ≤ (lS (f n)).length := by unfold lS; split <;> simp
    show _ ≤ (ltS f n ++ lS (f n)).length
    rw [List.length_append]
    omega
theorem ltS_59 (f : Nat → Nat) : ∀ n x, x ∈ ltS f n → x ≠ 59
  | 0, x, h => by cases h
  | n + 1, x, h => by
    have h' : x ∈ ltS f n ++ lS (f n) := h
    rcases List.mem_append.mp h' with q | q
    · exact ltS_59 f n x q
    · unfold lS at q
      split at q
      · simp at q
        omega
      · simp at q
        omega
theorem ltS_lt (f : Nat → Nat) : ∀ n, (∀ i, i < n → f i ≤ 26) → ∀ x, x ∈ ltS f n → x < 65536
  | 0, _, x, h => by cases h
  | n + 1, hf, x, h => by
    have h' : x ∈ ltS f n ++ lS (f n) := h
    rcases List.mem_append.mp h' with q | q
    · exact ltS_lt f n (fun i hi => hf i (by omega)) x q
    · have := hf n (by omega)
      unfold lS at q
      split at q
      · simp at q
        omega
      · simp at q
        omega
theorem alS_pre (th : Nat) (N : Nat → Nat → Int32) (len : Nat → Nat) (trn : Nat → Bool) (txt : Nat → Nat → Nat) (k : Nat) : ∀ d, ∃ R, alS th N len trn txt (k + d) = alS th N len trn txt k ++ R
  | 0 => ⟨[], (List.append_nil _).symm⟩
  | d + 1 => by
    obtain ⟨R, h⟩ := alS_pre th N len trn txt k d
    refine ⟨R ++ (if th.testBit (k + d) = true then shS N len trn txt (k + d) else []), ?_⟩
    rw [← List.append_assoc, ← h]
    rfl
theorem alS_ns {th ns : Nat} (N : Nat → Nat → Int32) (len : Nat → Nat) (trn : Nat → Bool) (txt : Nat → Nat → Nat) (h : ∀ k, th.testBit k = true → k < ns) : ∀ d, alS th N len trn txt (ns + d) = alS th N len trn txt ns
  | 0 => rfl
  | d + 1 => by
    show alS th N len trn txt (ns + d) ++ (if th.testBit (ns + d) = true then shS N len trn txt (ns + d) else []) = _
    rw [alS_ns N len trn txt h d, if_neg (fun q => by have := h (ns + d) q; omega), List.append_nil]
theorem ruS_pre (fo k : Nat) : ∀ d, ∃ R, ruS fo (k + d) = ruS fo k ++ R
  | 0 => ⟨[], (List.append_nil _).symm⟩
  | d + 1 => by
    obtain ⟨R, h⟩ := ruS_pre fo k d
    refine ⟨R ++ (if fo.testBit (k + d) = true then [114] ++ (nS (nI (k + d)) ++ [59]) else []), ?_⟩
    rw [← List.append_assoc, ← h]
    rfl
theorem ruS_nr {fo nr : Nat} (h : fok fo nr) : ∀ d, ruS fo (nr + d) = ruS fo nr
  | 0 => rfl
  | d + 1 => by
    show ruS fo (nr + d) ++ (if fo.testBit (nr + d) = true then [114] ++ (nS (nI (nr + d)) ++ [59]) else []) = _
    rw [ruS_nr h d, if_neg (fun q => by have := h (nr + d) q; omega), List.append_nil]
/-- the middle of a shape: what stands between its numbers and the end -/
def mdS (len : Nat → Nat) (trn : Nat → Bool) (txt : Nat → Nat → Nat) (s : Nat) : List Nat := (if 0 < len s then [44] else []) ++ ltS (fun i => txt s (if trn s = true then len s - 1 - i else i)) (len s)
theorem shS_md (N : Nat → Nat → Int32) (len : Nat → Nat) (trn : Nat → Bool) (txt : Nat → Nat → Nat) (s : Nat) : shS N len trn txt s = (if 0 < len s then 116 else 98) :: (nS (nI s) ++ (nmS (N s) 4 ++ (mdS len trn txt s ++ [59]))) := by
  unfold shS mdS
  rw [List.append_assoc]
  rfl
section
variable {S : HS} {sp ns nr na ne nm : Nat} {lt len fr to sj dr ab st lby se : Nat → Nat} {trn : Nat → Bool} {txt : Nat → Nat → Nat} {kd dd : Nat → Int32} {qq : Nat → Nat → Int32} {e k : Nat}
theorem k_XP (h : CI S sp ns nr na ne nm lt len fr to sj dr ab st lby se trn txt kd dd qq) (he : e < nm) (hse : se e = cset st ab) : XP S (TX (rep kd fr to (lbL len) dd sj qq (cset st ab) na).1 len trn txt) e := by
  rw [← hse]
  exact ⟨fun j hj => k_charAt h he hj, (text_ok h he).1, k_charAt_n h he⟩
variable {T R : List Nat} {p : Nat}
/-- a shape's last part -/
theorem x_mid {rec12 : HS × Int32 × Int32 × Int32 → Option (HS × Int32)} {x3 : Int32} (h : CI S sp ns nr na ne nm lt len fr to sj dr ab st lby se trn txt kd dd qq) (hX : XP S T e) (hk : k < ns) (ht : (rep kd fr to (lbL len) dd sj qq (cset st ab) na).1.1.testBit k = true) (hw : 0 < len k → (rep kd fr to (lbL len) dd sj qq (cset st ab) na).1.2.2.1 k 2 = nI (2 * len k)) (hP : Pos T p (mdS len trn txt k ++ (59 :: R))) : f_L_isExport_b149 (nI e) rec12 S x3 (nI p) (nI k) (if 0 < len k then 116 else 98) = rec12 (S, x3, nI (p + (mdS len trn txt k).length + 1), nI (k + 1)) := by
  have hl5 : len k ≤ 5 := (h.2.2.1.2.2.1.1 k).1
  have hT := hX.2.1
  have hle := hP.le
  rw [List.length_append, List.length_cons] at hle
  have h236 : f_L_isExport_b236 (nI e) rec12 S x3 (nI (p + (mdS len trn txt k).length)) (nI k) = rec12 (S, x3, nI (p + (mdS len trn txt k).length + 1), nI (k + 1)) := by
    unfold f_L_isExport_b236 f_L_isExport_b261 f_L_isExport_b263
    rw [x_ask hX hP.ap, bsm]
    dsimp only
    rw [if_pos rfl, if_pos (show nI 59 = (59 : Int32) from rfl), nI_1, nI_1]
  unfold f_L_isExport_b149 f_L_isExport_b152
  by_cases hl : 0 < len k
  · rw [if_pos hl]
    have hln : (mdS len trn txt k).length = 1 + (ltS (fun i => txt k (if trn k = true then len k - 1 - i else i)) (len k)).length := by
      unfold mdS
      rw [if_pos hl, List.length_append, List.length_singleton]
    have hge := ltS_ge (fun i => txt k (if trn k = true then len k - 1 - i else i)) (len k)
    have hlt := ltS_len (fun i => txt k (if trn k = true then len k - 1 - i else i)) (len k)
    have h59 : ∀ i, i < (mdS len trn txt k).length → (mdS len trn txt k).getD i 0 ≠ 59 := by
      intro i hi
      have hm : (mdS len trn txt k).getD i 0 ∈ mdS len trn txt k := by
        rw [List.getD_eq_getElem?_getD, List.getElem?_eq_getElem hi]
        exact List.getElem_mem hi
      unfold mdS at hm ⊢
      rw [if_pos hl] at hm ⊢
      rcases List.mem_append.mp hm with q | q
      · rw [List.mem_singleton] at q
        rw [q]
        decide
      · exact ltS_59 _ _ _ q
    have h197 : f_L_isExport_b197 (nI e) rec12 S x3 (nI (p + (mdS len trn txt k).length)) (nI k) 116 (nI (mdS len trn txt k).length) = rec12 (S, x3, nI (p + (mdS len trn txt k).length + 1), nI (k + 1)) := by
      unfold f_L_isExport_b197
      rw [if_neg (nI_pos (by omega)), if_neg (by decide), if_neg (by rw [show (1 : Int32) = nI 1 from rfl, nI_leI (by omega) (by omega)]; omega), if_neg (by rw [show (11 : Int32) = nI 11 from rfl, nI_ltI (by omega) (by omega)]; omega), show (2 : Int32) = nI 2 from rfl, k_number_y h hk (by omega) ht, bsm]
      dsimp only
      rw [if_pos rfl, if_neg (by decide), hw hl, pk_div (by omega) (by omega) (by omega), show 2 * len k / 2 = len k by omega, if_neg (by rw [nI_leI (by omega) (by omega)]; omega)]
      exact h236
    refine fx_run (mdS len trn txt k).length (fun i => (S, x3, nI (p + i), nI k, 116, nI i)) ?_ ?_ (FU_gt (by omega)) rfl
    · intro i rec hi
      have hPi : Pos T (p + i) ((mdS len trn txt k).getD i 0 :: ((mdS len trn txt k).drop (i + 1) ++ 59 :: R)) := by
        have hsp : mdS len trn txt k = (mdS len trn txt k).take i ++ ((mdS len trn txt k).getD i 0 :: (mdS len trn txt k).drop (i + 1)) := by
          rw [List.getD_eq_getElem?_getD, List.getElem?_eq_getElem hi, Option.getD_some, ← List.drop_eq_getElem_cons hi, List.take_append_drop]
        rw [hsp, List.append_assoc] at hP
        have := hP.ap
        rw [List.length_take, Nat.min_eq_left (by omega)] at this
        exact this
      unfold F_L_isExport_b152
      dsimp only
      rw [if_neg (nI_pos (by omega)), if_pos rfl, if_neg (by rw [show (11 : Int32) = nI 11 from rfl, nI_leI (by omega) (by omega)]; omega), x_ask hX hPi, bsm]
      dsimp only
      have hb : (mdS len trn txt k).getD i 0 < 2 ^ 31 := by
        have hm : (mdS len trn txt k).getD i 0 ∈ mdS len trn txt k := by
          rw [List.getD_eq_getElem?_getD, List.getElem?_eq_getElem hi]
          exact List.getElem_mem hi
        unfold mdS at hm
        rw [if_pos hl] at hm
        rcases List.mem_append.mp hm with q | q
        · rw [List.mem_singleton] at q
          unfold mdS
          rw [if_pos hl, q]
          decide
        · have := ltS_lt _ _ (fun i hi => ?_) _ q
          · unfold mdS
            rw [if_pos hl]
            omega
          · obtain ⟨ts, -, -, hts⟩ := h.2.2.1.2.2.1.2
            refine ((hts k hk).2 _ ?_).2
            split <;> omega
      have hne : nI ((mdS len trn txt k).getD i 0) ≠ (59 : Int32) := fun q => h59 i hi ((nI_eq hb (by omega)).mp (show _ = nI 59 from q))
      rw [if_pos rfl, if_neg hne, nI_1, nI_1, Nat.add_assoc]
    · intro rec
      unfold F_L_isExport_b152
      dsimp only
      rw [if_neg (nI_pos (by omega)), if_pos rfl]
      by_cases e11 : (11 : Int32) ≤ nI (mdS len trn txt k).length
      · rw [if_pos e11]
        exact h197
      · rw [if_neg e11, x_ask hX hP.ap, bsm]
        dsimp only
        rw [if_pos rfl, if_pos (show nI 59 = (59 : Int32) from rfl)]
        exact h197
  · rw [if_neg hl]
    have hm0 : mdS len trn txt k = [] := by
      unfold mdS
      rw [if_neg hl, show len k = 0 by omega]
      rfl
    rw [hm0] at h236 ⊢
    rw [show FU = 999 + 1 from rfl, fx_s]
    unfold F_L_isExport_b152 f_L_isExport_b197
    dsimp only
    rw [if_neg (nI_pos (by omega)), if_neg (by decide), if_neg (nI_pos (by omega)), if_pos rfl]
    exact h236
/-- a shape -/
theorem x_shape {rec12 : HS × Int32 × Int32 × Int32 → Option (HS × Int32)} {x3 : Int32} (h : CI S sp ns nr na ne nm lt len fr to sj dr ab st lby se trn txt kd dd qq) (hX : XP S T e) (hk : k < ns) (ht : (rep kd fr to (lbL len) dd sj qq (cset st ab) na).1.1.testBit k = true) (hw : 0 < len k → (rep kd fr to (lbL len) dd sj qq (cset st ab) na).1.2.2.1 k 2 = nI (2 * len k)) (hP : Pos T p (shS (rep kd fr to (lbL len) dd sj qq (cset st ab) na).1.2.2.1 len trn txt k ++ R)) : f_L_isExport_b72 (nI e) rec12 S x3 (nI k) (if 0 < len k then 116 else 98) (nI e) (nI (p + 1)) = rec12 (S, x3, nI (p + (shS (rep kd fr to (lbL len) dd sj qq (cset st ab) na).1.2.2.1 len trn txt k).length), nI (k + 1)) := by
  have hT := hX.2.1
  have hns := h.1.2.1.2.1
  have hrg := (rep_ok (set := cset st ab) h.1.2.1 h.1.2.2.1 na (Nat.le_refl _)).1.2.2.2.1
  have hle := hP.le
  rw [shS_md] at hP hle ⊢
  rw [List.cons_append] at hP
  have hP1 := hP.s
  rw [List.append_assoc] at hP1
  have hP2 := hP1.ap
  rw [List.append_assoc] at hP2
  have hP3 := hP2.ap
  rw [List.append_assoc] at hP3
  unfold f_L_isExport_b72
  rw [x_reads hX (rngI (by omega)) hP1, bsm]
  dsimp only
  simp only [List.length_append, List.length_cons, List.length_nil] at hle ⊢
  unfold f_L_isExport_b82
  refine fx_run 4 (fun w => (S, x3, nI (p + 1 + (nS (nI k)).length + (nmS ((rep kd fr to (lbL len) dd sj qq (cset st ab) na).1.2.2.1 k) w).length), nI k, (if 0 < len k then 116 else 98), nI w)) ?_ ?_ (FU_gt (by omega)) rfl
  · intro w rec hw4
    have hPw : ∃ R', Pos T (p + 1 + (nS (nI k)).length + (nmS ((rep kd fr to (lbL len) dd sj qq (cset st ab) na).1.2.2.1 k) w).length) ((if w = 0 then 58 else 44) :: (nS ((rep kd fr to (lbL len) dd sj qq (cset st ab) na).1.2.2.1 k w) ++ R')) := by
      have key : ∀ d, ∃ R', nmS ((rep kd fr to (lbL len) dd sj qq (cset st ab) na).1.2.2.1 k) (w + 1 + d) = nmS ((rep kd fr to (lbL len) dd sj qq (cset st ab) na).1.2.2.1 k) w ++ ((if w = 0 then 58 else 44) :: (nS ((rep kd fr to (lbL len) dd sj qq (cset st ab) na).1.2.2.1 k w) ++ R')) := by
        intro d
        induction d with
        | zero => exact ⟨[], by show nmS _ w ++ ([_] ++ nS _) = _; rw [List.append_nil]; rfl⟩
        | succ d ih =>
          obtain ⟨R', h'⟩ := ih
          refine ⟨R' ++ ([if w + 1 + d = 0 then 58 else 44] ++ nS ((rep kd fr to (lbL len) dd sj qq (cset st ab) na).1.2.2.1 k (w + 1 + d))), ?_⟩
          show nmS _ (w + 1 + d) ++ ([if w + 1 + d = 0 then 58 else 44] ++ nS ((rep kd fr to (lbL len) dd sj qq (cset st ab) na).1.2.2.1 k (w + 1 + d))) = _
          rw [h']
          simp only [List.append_assoc, List.cons_append]
      obtain ⟨R', h'⟩ := key (3 - w)
      rw [show w + 1 + (3 - w) = 4 by omega] at h'
      rw [h', List.append_assoc, List.cons_append, List.append_assoc] at hP2
      exact ⟨_, hP2.ap⟩
    obtain ⟨R', hPw⟩ := hPw
    have hlw := hPw.le
    rw [List.length_cons, List.length_append] at hlw
    have h117 : ∀ c : Int32, c = (if w = 0 then 58 else 44) → f_L_isExport_b117 (nI e) rec12 rec S x3 (nI (p + 1 + (nS (nI k)).length + (nmS ((rep kd fr to (lbL len) dd sj qq (cset st ab) na).1.2.2.1 k) w).length)) (nI k) (if 0 < len k then 116 else 98) (nI w) c c = rec (S, x3, nI (p + 1 + (nS (nI k)).length + (nmS ((rep kd fr to (lbL len) dd sj qq (cset st ab) na).1.2.2.1 k) (w + 1)).length), nI k, (if 0 < len k then 116 else 98), nI (w + 1)) := by
      intro c hc
      unfold f_L_isExport_b117 f_L_isExport_b141
      rw [if_pos rfl, k_number_y h hk hw4 ht, bsm]
      dsimp only
      rw [if_pos rfl, nI_1, x_reads hX (rng20 hw4 (hrg w hw4 k ht)) hPw.s, bsm, nI_1]
      dsimp only
      congr 5
      show _ = p + 1 + (nS (nI k)).length + (nmS _ w ++ ([_] ++ nS _)).length
      simp only [List.length_append, List.length_cons, List.length_nil]
      omega
    unfold F_L_isExport_b82
    dsimp only
    rw [if_neg (le4n hw4), if_neg (nI_pos (by omega)), x_ask hX hPw, bsm]
    dsimp only
    rw [if_pos rfl]
    by_cases w0 : w = 0
    · rw [if_pos (by rw [w0]; rfl), if_pos w0]
      exact h117 (nI 58) (by rw [if_pos w0]; rfl)
    · rw [if_neg (show ¬ nI w = (0 : Int32) from fun q => w0 ((nI_eq (by omega) (by omega)).mp (show nI w = nI 0 from q))), if_neg w0]
      exact h117 (nI 44) (by rw [if_neg w0]; rfl)
  · intro rec
    unfold F_L_isExport_b82
    dsimp only
    rw [if_pos (by decide), x_mid h hX hk ht hw hP3]
    congr 5
    omega
end
