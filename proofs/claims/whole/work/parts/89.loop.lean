/-! The law's loop. -/
section
variable {G : Gm} {p : Program} {e : Env} {s : State} {m : MethodId} {below : List Frame} {meth : Method} {c : Code} {b L k n pc : Nat} {xs : Nat → Int32} {M : Hm} {lv : List (Nat × Value)} {st : List Value}
theorem L_tabIn {x : Int32} {dflt lo hi off : Int} {offs : Array Int} {len tgt : Nat} (hx : Lx G p s m meth c b L xs) (hd : decode code pc = .ok (.tableswitch dflt lo hi offs, len)) (h1 : ¬ x.toInt < lo) (h2 : ¬ hi < x.toInt) (ho : offs[(x.toInt - lo).toNat]? = some off) (ht : (pc : Int) + off = (tgt : Int)) (kk : LW G p e s m below meth c b k n M lv tgt st) : LW G p e s m below meth c b k n M lv pc (.int x :: st) := fun H locs ls hR hS hL => lv_tableIn hx.1.1 hx.1.2.1 hd h1 h2 ho ht (kk H locs ls hR hS hL)
theorem L_tabOut {x : Int32} {dflt lo hi : Int} {offs : Array Int} {len tgt : Nat} (hx : Lx G p s m meth c b L xs) (hd : decode code pc = .ok (.tableswitch dflt lo hi offs, len)) (h : x.toInt < lo ∨ hi < x.toInt) (ht : (pc : Int) + dflt = (tgt : Int)) (kk : LW G p e s m below meth c b k n M lv tgt st) : LW G p e s m below meth c b k n M lv pc (.int x :: st) := fun H locs ls hR hS hL => lv_tableOut hx.1.1 hx.1.2.1 hd h ht (kk H locs ls hR hS hL)
end
theorem L_switch {G : Gm} {p : Program} {e : Env} {s : State} {m : MethodId} {below : List Frame} {meth : Method} {c : Code} {b L k n v t K w : Nat} {xs : Nat → Int32} {S : St} (hx : Lx G p s m meth c b L xs) (hv : v + 6 ≤ L) (hL3 : L ≤ 3072) (hQ : QA S K) (hK : K + 1000000 < 2147483648) (hk : k + 10 ≤ 600000) (hn : n + 10 ≤ 7302250) (hw : w < 64) (back : ∀ k2 n2 t2 S2 K2, QA S2 K2 → K ≤ K2 → K2 ≤ K + 600000 → k2 ≤ k + 1 → n2 ≤ n + 3 → LW G p e s m below meth c b k2 n2 (MM t2 S2) (lvI G b v) 1414 []) : LW G p e s m below meth c b k n (MM t S) (lvI G b v) 33 [.int (zI w)] := by
  by_cases h35 : 35 ≤ w
  · refine L_tabOut (tgt := 1414) hx dL_law_33 (Or.inr ?_) (by decide) ?_
    · rw [zI_toInt (by omega)]
      omega
    · exact back _ _ _ S K hQ (by omega) (by omega) (by omega) (by omega)
  · have h : w = 0 ∨ w = 1 ∨ w = 2 ∨ w = 3 ∨ w = 4 ∨ w = 5 ∨ w = 6 ∨ w = 7 ∨ w = 8 ∨ w = 9 ∨ w = 10 ∨ w = 11 ∨ w = 12 ∨ w = 13 ∨ w = 14 ∨ w = 15 ∨ w = 16 ∨ w = 17 ∨ w = 18 ∨ w = 19 ∨ w = 20 ∨ w = 21 ∨ w = 22 ∨ w = 23 ∨ w = 24 ∨ w = 25 ∨ w = 26 ∨ w = 27 ∨ w = 28 ∨ w = 29 ∨ w = 30 ∨ w = 31 ∨ w = 32 ∨ w = 33 ∨ w = 34 := by omega
    rcases h with rfl | rfl | rfl | rfl | rfl | rfl | rfl | rfl | rfl | rfl | rfl | rfl | rfl | rfl | rfl | rfl | rfl | rfl | rfl | rfl | rfl | rfl | rfl | rfl | rfl | rfl | rfl | rfl | rfl | rfl | rfl | rfl | rfl | rfl | rfl
    · exact L_tabIn (off := 155) (tgt := 188) hx dL_law_33 (by decide) (by decide) (by decide) (by decide) (lk_language hx hv hL3 hQ hK hk hn back)
    · exact L_tabIn (off := 178) (tgt := 211) hx dL_law_33 (by decide) (by decide) (by decide) (by decide) (lk_of hx hv hL3 hQ hK hk hn back)
    · exact L_tabIn (off := 211) (tgt := 244) hx dL_law_33 (by decide) (by decide) (by decide) (by decide) (lk_part hx hv hL3 hQ hK hk hn back)
    · exact L_tabIn (off := 254) (tgt := 287) hx dL_law_33 (by decide) (by decide) (by decide) (by decide) (lk_clear hx hv hL3 hQ hK hk hn back)
    · exact L_tabIn (off := 267) (tgt := 300) hx dL_law_33 (by decide) (by decide) (by decide) (by decide) (lk_add hx hv hL3 hQ hK hk hn back)
    · exact L_tabIn (off := 290) (tgt := 323) hx dL_law_33 (by decide) (by decide) (by decide) (by decide) (lk_order hx hv hL3 hQ hK hk hn back)
    · exact L_tabIn (off := 313) (tgt := 346) hx dL_law_33 (by decide) (by decide) (by decide) (by decide) (lk_size hx hv hL3 hQ hK hk hn back)
    · exact L_tabIn (off := 336) (tgt := 369) hx dL_law_33 (by decide) (by decide) (by decide) (by decide) (lk_read hx hv hL3 hQ hK hk hn back)
    · exact L_tabIn (off := 379) (tgt := 412) hx dL_law_33 (by decide) (by decide) (by decide) (by decide) (lk_run hx hv hL3 hQ hK hk hn back)
    · exact L_tabIn (off := 422) (tgt := 455) hx dL_law_33 (by decide) (by decide) (by decide) (by decide) (lk_ran hx hv hL3 hQ hK hk hn back)
    · exact L_tabIn (off := 445) (tgt := 478) hx dL_law_33 (by decide) (by decide) (by decide) (by decide) (lk_next hx hv hL3 hQ hK hk hn back)
    · exact L_tabIn (off := 468) (tgt := 501) hx dL_law_33 (by decide) (by decide) (by decide) (by decide) (lk_feed hx hv hL3 hQ hK hk hn back)
    · exact L_tabIn (off := 501) (tgt := 534) hx dL_law_33 (by decide) (by decide) (by decide) (by decide) (lk_task hx hv hL3 hQ hK hk hn back)
    · exact L_tabIn (off := 524) (tgt := 557) hx dL_law_33 (by decide) (by decide) (by decide) (by decide) (lk_passes hx hv hL3 hQ hK hk hn back)
    · exact L_tabIn (off := 567) (tgt := 600) hx dL_law_33 (by decide) (by decide) (by decide) (by decide) (lk_search hx hv hL3 hQ hK hk hn back)
    · exact L_tabIn (off := 610) (tgt := 643) hx dL_law_33 (by decide) (by decide) (by decide) (by decide) (lk_searched hx hv hL3 hQ hK hk hn back)
    · exact L_tabIn (off := 633) (tgt := 666) hx dL_law_33 (by decide) (by decide) (by decide) (by decide) (lk_say hx hv hL3 hQ hK hk hn back)
    · exact L_tabIn (off := 656) (tgt := 689) hx dL_law_33 (by decide) (by decide) (by decide) (by decide) (lk_unsay hx hv hL3 hQ hK hk hn back)
    · exact L_tabIn (off := 669) (tgt := 702) hx dL_law_33 (by decide) (by decide) (by decide) (by decide) (lk_votes hx hv hL3 hQ hK hk hn back)
    · exact L_tabIn (off := 722) (tgt := 755) hx dL_law_33 (by decide) (by decide) (by decide) (by decide) (lk_shortest hx hv hL3 hQ hK hk hn back)
    · exact L_tabIn (off := 765) (tgt := 798) hx dL_law_33 (by decide) (by decide) (by decide) (by decide) (lk_census hx hv hL3 hQ hK hk hn back)
    · exact L_tabIn (off := 818) (tgt := 851) hx dL_law_33 (by decide) (by decide) (by decide) (by decide) (lk_helped hx hv hL3 hQ hK hk hn back)
    · exact L_tabIn (off := 841) (tgt := 874) hx dL_law_33 (by decide) (by decide) (by decide) (by decide) (lk_learn hx hv hL3 hQ hK hk hn back)
    · exact L_tabIn (off := 894) (tgt := 927) hx dL_law_33 (by decide) (by decide) (by decide) (by decide) (lk_cheaper hx hv hL3 hQ hK hk hn back)
    · exact L_tabIn (off := 947) (tgt := 980) hx dL_law_33 (by decide) (by decide) (by decide) (by decide) (lk_price hx hv hL3 hQ hK hk hn back)
    · exact L_tabIn (off := 980) (tgt := 1013) hx dL_law_33 (by decide) (by decide) (by decide) (by decide) (lk_translated hx hv hL3 hQ hK hk hn back)
    · exact L_tabIn (off := 1013) (tgt := 1046) hx dL_law_33 (by decide) (by decide) (by decide) (by decide) (lk_act hx hv hL3 hQ hK hk hn back)
    · exact L_tabIn (off := 1056) (tgt := 1089) hx dL_law_33 (by decide) (by decide) (by decide) (by decide) (lk_trace hx hv hL3 hQ hK hk hn back)
    · exact L_tabIn (off := 1079) (tgt := 1112) hx dL_law_33 (by decide) (by decide) (by decide) (by decide) (lk_keep hx hv hL3 hQ hK hk hn back)
    · exact L_tabIn (off := 1112) (tgt := 1145) hx dL_law_33 (by decide) (by decide) (by decide) (by decide) (lk_row hx hv hL3 hQ hK hk hn back)
    · exact L_tabIn (off := 1155) (tgt := 1188) hx dL_law_33 (by decide) (by decide) (by decide) (by decide) (lk_put hx hv hL3 hQ hK hk hn back)
    · exact L_tabIn (off := 1228) (tgt := 1261) hx dL_law_33 (by decide) (by decide) (by decide) (by decide) (lk_element hx hv hL3 hQ hK hk hn back)
    · exact L_tabIn (off := 1262) (tgt := 1295) hx dL_law_33 (by decide) (by decide) (by decide) (by decide) (lk_shift hx hv hL3 hQ hK hk hn back)
    · exact L_tabIn (off := 1325) (tgt := 1358) hx dL_law_33 (by decide) (by decide) (by decide) (by decide) (lk_taken hx hv hL3 hQ hK hk hn back)
    · exact L_tabIn (off := 1358) (tgt := 1391) hx dL_law_33 (by decide) (by decide) (by decide) (by decide) (lk_count hx hv hL3 hQ hK hk hn back)
theorem L_loop {G : Gm} {p : Program} {e : Env} {s : State} {m : MethodId} {below : List Frame} {meth : Method} {c : Code} {b L : Nat} {xs : Nat → Int32} (hx : Lx G p s m meth c b L xs) (hL3 : L ≤ 3072) : ∀ (f v k n t K : Nat) (S : St), L ≤ v + 6 * f → v ≤ 3078 → QA S K → K ≤ 100000 * v → k ≤ 174 + v → n ≤ 87901 + 3 * v → LW G p e s m below meth c b k n (MM t S) (lvI G b v) 18 [] := by
  intro f
  induction f with
  | zero =>
    intro v k n t K S hf hv hQ hK hk hn
    refine L_iload (j := 0) hx dL_law_18 rfl rfl ?_
    refine L_aload (j := 3) hx dL_law_19 rfl rfl ?_
    refine L_slen hx dL_law_20 ?_
    refine L_bipush (v := zI ((6 : Nat) : Int)) hx dL_law_21 (by decide) ?_
    refine L_isub hx dL_law_23 ?_
    have e1 : Int32.ofNat L - zI ((6 : Nat) : Int) = zI ((L : Int) - ((6 : Nat) : Int)) := by
      rw [show Int32.ofNat L = zI (L : Int) from nI_z L, zI_sub]
    rw [e1]
    refine L_gt (tgt := 1420) hx dL_law_24 (by decide) (fun _ => ?_) (fun q => ?_)
    · exact L_end hx (by omega) (by omega) dL_law_1420 dL_law_1421
    · rw [zI_lt (by omega) (by omega)] at q
      omega
  | succ f ih =>
    intro v k n t K S hf hv hQ hK hk hn
    refine L_iload (j := 0) hx dL_law_18 rfl rfl ?_
    refine L_aload (j := 3) hx dL_law_19 rfl rfl ?_
    refine L_slen hx dL_law_20 ?_
    refine L_bipush (v := zI ((6 : Nat) : Int)) hx dL_law_21 (by decide) ?_
    refine L_isub hx dL_law_23 ?_
    have e1 : Int32.ofNat L - zI ((6 : Nat) : Int) = zI ((L : Int) - ((6 : Nat) : Int)) := by
      rw [show Int32.ofNat L = zI (L : Int) from nI_z L, zI_sub]
    rw [e1]
    refine L_gt (tgt := 1420) hx dL_law_24 (by decide) (fun _ => ?_) (fun q => ?_)
    · exact L_end hx (by omega) (by omega) dL_law_1420 dL_law_1421
    · rw [zI_lt (by omega) (by omega)] at q
      have hv6 : v + 6 ≤ L := by omega
      refine L_aload (j := 3) hx dL_law_27 rfl rfl ?_
      refine L_iload (j := 0) hx dL_law_28 rfl rfl ?_
      refine L_sld hx (by omega) hL3 dL_law_29 ?_
      refine L_bipush (v := 63) hx dL_law_30 (by decide) ?_
      refine L_iand hx dL_law_32 ?_
      obtain ⟨w, hw, ew⟩ := and63 (xs v)
      rw [ew]
      refine L_switch hx hv6 hL3 hQ (by omega) (by omega) (by omega) hw (fun k2 n2 t2 S2 K2 q2 g1 g2 g3 g4 => ?_)
      refine L_iinc (v := zI ((v + 6 : Nat) : Int)) (lvI G b (v + 6)) hx dL_law_1414 (j := 0) rfl (by
        show zI (v : Int) + zI ((6 : Nat) : Int) = _
        rw [zI_add]
        rfl) (by omega) rfl ?_
      refine L_goto (tgt := 18) hx dL_law_1417 (by decide) ?_
      exact ih (v + 6) k2 n2 t2 K2 S2 (by omega) (by omega) q2 (by omega) (by omega) (by omega)
