def jd_length (j : Nat) : Option Int := some ((sLen.getD j 0 : Nat) : Int)
def jd_charAt (j : Nat) (i : Int) : Option Int := chk (0 ≤ wr i ∧ wr i < ((sLen.getD j 0 : Nat) : Int)) (some (((sByt.getD j []).getD (wr i).toNat 0).toInt))
section STRX
variable {g : GT} {cc : ByteArray} {own : String} {d nL : Nat} {rt : Option FieldType} {Pt : Nat → List (Nat × Value) → List Value → Hp → Prop} {En : Option Value → Hp → Prop} {pc : Nat} {L : List (Nat × Value)} {st : List Value} {h : Hp}
theorem s_call_length (A : Amb g cc own (d + 6) nL rt Pt En) {idx j : Nat} {r : Int} (hl0 : Cond.methodLink own idx yJ0_length_8abf5 ∈ GW) (hj : j < 8) (hcat : (st.map fun v => v.category).sum ≤ 8) (hdg : decode cc pc = .ok (.invokevirtual idx, 3)) (hr : jd_length j = some r) (kk : Pt (pc + 3) L (iV r :: st) h) : Pt pc L (sV g j :: st) h := sorry
theorem s_call_charAt (A : Amb g cc own (d + 6) nL rt Pt En) {idx j : Nat} {i r : Int} (hl0 : Cond.methodLink own idx yJ0_charAt_5068e ∈ GW) (hj : j < 8) (hcat : (st.map fun v => v.category).sum ≤ 8) (hdg : decode cc pc = .ok (.invokevirtual idx, 3)) (hr : jd_charAt j i = some r) (kk : Pt (pc + 3) L (iV r :: st) h) : Pt pc L (iV i :: sV g j :: st) h := sorry
end STRX
