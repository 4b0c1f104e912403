/-! What a transaction that comes spends: the reference finds it. -/
/-- no value is below nothing -/
def p_vn (tb : List UInt8) (y : w_y) : Prop := ∀ k, k < y.2.1.length → ¬ Int64.ofNat (zho (fun i => tb.getD i 0) ((y.2.1.getD k (0, 0)).1 + 8) 8) < 0
theorem ztm_nn : ∀ {vs : List Int64} {a : Int64}, ztm vs a = false → ∀ v ∈ vs, ¬ v < 0
  | [], _, _, v, h => by cases h
  | w :: r, a, h, v, hv => by
    unfold ztm at h
    by_cases c : w < 0
    · rw [if_pos c] at h
      cases h
    · rw [if_neg c] at h
      rcases List.mem_cons.mp hv with rfl | hv
      · exact c
      · by_cases c2 : w ≤ 2100000000000000
        · rw [if_pos c2] at h
          exact ztm_nn h v hv
        · rw [if_neg c2] at h
          cases h
theorem p_vn_of {tb : List UInt8} {y : w_y} (h : ztm (zvs (fun i => tb.getD i 0) y.2.1) 0 = false) : p_vn tb y := fun k hk => by
  refine ztm_nn h _ ?_
  unfold zvs
  rw [← zle_zho, List.getD_eq_getElem?_getD, List.getElem?_eq_getElem hk]
  exact List.mem_map_of_mem (List.getElem_mem hk)
def p_bvn (bs : List b_k) : Prop := ∀ k, k < bs.length → ∀ x ∈ b_tx bs k, p_vn x.2.1 x.2.2
def p_okv (ps : List p_e) : Prop := ∀ (k : Nat) (e : p_e), ps[k]? = some e → p_vn e.1.2.1 e.1.2.2
