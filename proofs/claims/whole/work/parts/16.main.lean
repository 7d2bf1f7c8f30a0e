/-! calls and returns; the whole run -/
section
variable {q : ab_Q} {n0 y : Nat} {p : Program} {l : Launch} {e : Env} {R : Room} {s : State} {m : MethodId} {args : Array Value} {below : List Frame} {meth : Method} {c : Code} {Q : State → Prop} {pc : Nat} {L L' : ab_L} {st st' : List Value} {h h' : ab_H} {v : Int32} {w : Int64} {nx a b t pc' : Nat} {is : List Nat}
theorem ab_sws_at {pc : Nat} : ∀ (os : List Int) (ts : List Nat), ab_sws pc os ts = true → os.length = ts.length ∧ ∀ (j tgt : Nat), ts[j]? = some tgt → ∃ o, os[j]? = some o ∧ (pc : Int) + o = (tgt : Int)
  | [], [], _ => ⟨rfl, fun j tgt h => by simp at h⟩
  | [], _ :: _, h => by cases h
  | _ :: _, [], h => by cases h
  | o :: os, t :: ts, h => by
    simp only [ab_sws, Bool.and_eq_true, decide_eq_true_eq] at h
    obtain ⟨h1, h2⟩ := ab_sws_at os ts h.2
    refine ⟨by simp [h1], fun j tgt hj => ?_⟩
    cases j with
    | zero => simp only [List.getElem?_cons_zero, Option.some.injEq] at hj; subst hj; exact ⟨o, rfl, h.1⟩
    | succ j => simp only [List.getElem?_cons_succ] at hj ⊢; exact h2 j tgt hj
theorem sx_tableswitch {d lo hi : Int} {offs : Array Int} (F : ab_Fr q n0 y p R s m args meth c) (ho : ab_ok y pc (.tableswitch d lo hi offs, v, w, nx, a, b, t, is) = true) (hd : ab_st1 (.tableswitch d lo hi offs, v, w, nx, a, b, t, is) L st h = some (.inl (pc', L', st', h'))) (kk : ab_W q n0 y p l e R s m args below meth c Q pc' L' st' h') : ab_W q n0 y p l e R s m args below meth c Q pc L st h := by
  intro H locs ls hl hC hS
  obtain ⟨hx, hb, -⟩ := F
  have ho2 : decode (byT y) pc = .ok (.tableswitch d lo hi offs, nx - pc) ∧ ab_ok1 y pc (plT y pc) (.tableswitch d lo hi offs, v, w, nx, a, b, t, is) = true := by
    simpa only [ab_ok, ab_isw, if_true, Bool.and_eq_true, decide_eq_true_eq] using ho
  obtain ⟨hdc, h1⟩ := ho2
  simp only [ab_ok1, Bool.and_eq_true, decide_eq_true_eq] at h1
  obtain ⟨⟨⟨⟨⟨⟨g1, g2⟩, g3⟩, g4⟩, g5⟩, g6⟩, g7⟩ := h1
  obtain ⟨gl, gs⟩ := ab_sws_at _ _ g7
  obtain ⟨x, r1, rfl, hd1⟩ := ab_pi_inv hd
  obtain ⟨n, rfl⟩ : ∃ n : Nat, lo = (n : Int) := ⟨lo.toNat, by omega⟩
  have hv : v = nI n := Int32.toInt_inj.mp (by rw [nI_toInt (by omega)]; exact g2)
  rcases ab_sw_inv _ _ hd1 with ⟨j, tgt, k1, k2, k3⟩ | ⟨k1, k2⟩
  · cases k3
    obtain ⟨o, k4, k5⟩ := gs j _ k1
    have hj : j < is.length := (List.getElem?_eq_some_iff.mp k1).1
    have gl2 : offs.toList.length = is.length := gl
    have hxi : x.toInt = (n : Int) + j := by
      have k2 : x = v + nI j := k2
      rw [k2, hv, nI_add, nI_toInt (by omega)]
      omega
    exact lv_tableIn hx hb hdc (by omega) (by omega) (by rw [show (x.toInt - (n : Int)).toNat = j by omega, ← Array.getElem?_toList]; exact k4) k5 (kk H locs ls hl hC hS)
  · cases k2
    refine lv_tableOut hx hb hdc ?_ g1 (kk H locs ls hl hC hS)
    have gl2 : offs.toList.length = is.length := gl
    by_cases hlt : x.toInt < (n : Int)
    · exact Or.inl hlt
    · by_cases hgt : hi < x.toInt
      · exact Or.inr hgt
      · exfalso
        refine k1 (x.toInt - n).toNat (show _ < is.length by omega) ?_
        have hv2 : ab_iv (Instr.tableswitch d (n : Int) hi offs, v, w, nx, a, b, t, is) = nI n := hv
        rw [hv2, nI_add]
        refine Int32.toInt_inj.mp ?_
        rw [nI_toInt (by omega)]
        omega
/-- what a frame does at its return -/
def ab_Rt (q : ab_Q) (n0 y : Nat) (p : Program) (l : Launch) (e : Env) (R : Room) (s : State) (m : MethodId) (args : Array Value) (below : List Frame) (meth : Method) (c : Code) (Q : State → Prop) (v : Option Value) (h' : ab_H) : Prop :=
  ∀ (H : Heap) (locs : List Loc) (ls : Array Slot) (pc : Nat), ab_C q h' H → va_S (ab_A q) s.heap H locs →
    (∀ x, v = some (.int x) → decode (byT y) pc = .ok (.ireturn, 1) → (∃ t, ab_rtk t (rtT y) = true ∧ (t = 0 ∨ ab_nar t x = true)) → W p l e R s m args below meth c H locs (h'.1 - n0) (200 * (h'.1 - n0)) Q (F0 m pc ls [.int x])) ∧
    (∀ x, v = some (.long x) → decode (byT y) pc = .ok (.lreturn, 1) → rtT y = some .long → W p l e R s m args below meth c H locs (h'.1 - n0) (200 * (h'.1 - n0)) Q (F0 m pc ls [.long x])) ∧
    (v = none → decode (byT y) pc = .ok (.return_, 1) → rtT y = none → W p l e R s m args below meth c H locs (h'.1 - n0) (200 * (h'.1 - n0)) Q (F0 m pc ls []))
theorem ab_ret {i : ab_I} {v1 : Option Value} (ho : ab_ok y pc i = true) (hd : ab_st1 i L st h = some (.inr (.inl (v1, h')))) (hr : ab_Rt q n0 y p l e R s m args below meth c Q v1 h') : ab_W q n0 y p l e R s m args below meth c Q pc L st h := by
  obtain ⟨ins, v, w, nx, a, b, t, is⟩ := i
  have no : ∀ {P : Prop} {x : Nat × ab_L × List Value × ab_H}, (some (Sum.inl x) : Option ab_D) = some (.inr (.inl (v1, h'))) → P := fun e => by cases e
  have no2 : ∀ {P : Prop} {x : Nat × List Value × ab_H × Nat × Nat × ab_L × List Value}, (some (Sum.inr (Sum.inr x)) : Option ab_D) = some (.inr (.inl (v1, h'))) → P := fun e => by cases e
  revert hd
  unfold ab_st1 ab_stp
  split
  all_goals try (repeat' first
    | (refine al_pi (fun _ _ => ?_))
    | (refine al_pl (fun _ _ => ?_))
    | (refine al_pr (fun _ _ => ?_))
    | (refine al_ldi (fun _ => ?_))
    | (refine al_lda (fun _ => ?_))
    | (refine al_ldl (fun _ => ?_))
    | (refine al_gfi (fun _ => ?_))
    | (refine al_gfr (fun _ => ?_))
    | (refine al_gfl (fun _ => ?_))
    | (refine al_pf (fun _ hh => ?_))
    | (refine al_iald (fun _ => ?_))
    | (refine al_bald (fun _ => ?_))
    | (refine al_iast (fun _ hh => ?_))
    | (refine al_bast (fun _ hh => ?_))
    | (refine al_alen (fun _ => ?_))
    | (refine al_aald (fun _ => ?_))
    | (refine al_aast (fun _ hh => ?_))
    | (refine al_acp (fun _ hh => ?_))
    | (refine al_few ?_)
    | (refine al_fit ?_)
    | (refine al_ckc ?_)
    | (refine al_popn (fun _ _ => ?_))
    | (refine al_sw (fun _ => ?_))
    | (refine al_ite ?_ ?_)
    | exact no
    | exact no2
    | (intro e; cases e; done))
  · -- dup
    split
    · exact no
    · exact no
    · intro e; cases e
  · rename_i hi
    have hi : ins = .ireturn := hi
    subst hi
    split
    · rename_i x
      intro hd
      obtain ⟨hn, hd⟩ := ab_chk_inv hd
      cases hd
      obtain ⟨hdc, -, h1⟩ := ab_ok_inv ho rfl
      intro H locs ls hl hC hS
      exact (hr H locs ls pc hC hS).1 x rfl hdc ⟨t, h1, hn⟩
    · intro e; cases e
  · rename_i hi
    have hi : ins = .lreturn := hi
    subst hi
    split
    · rename_i x
      intro hd
      cases hd
      obtain ⟨hdc, -, h1⟩ := ab_ok_inv ho rfl
      intro H locs ls hl hC hS
      exact (hr H locs ls pc hC hS).2.1 x rfl hdc (of_decide_eq_true h1)
    · intro e; cases e
  · rename_i hi
    have hi : ins = .return_ := hi
    subst hi
    split
    · intro hd
      cases hd
      obtain ⟨hdc, -, h1⟩ := ab_ok_inv ho rfl
      intro H locs ls hl hC hS
      exact (hr H locs ls pc hC hS).2.2 rfl hdc (of_decide_eq_true h1)
    · intro e; cases e
end
