/-! THE PURE LAYER: what calls do to a planner -/
theorem put_s {A : Type} (g : Nat → A) (k : Nat) (v : A) : put g k v k = v := by unfold put; rw [if_pos rfl]
theorem put_n {A : Type} (g : Nat → A) {k j : Nat} (v : A) (h : j ≠ k) : put g k v j = g j := by unfold put; rw [if_neg h]
theorem put_if {A : Type} (g : Nat → A) (k j : Nat) (v : A) : put g k v j = if j = k then v else g j := rfl
def xB (d w : Nat) : Ab := (fun k => if k = 0 then d else if k = 1 then w else 0, fun _ _ => 0, fun _ _ => false, fun _ => [])
theorem xB_nD (d w : Nat) : nD (xB d w) = d := rfl
theorem xB_nW (d w : Nat) : nW (xB d w) = w := rfl
theorem xB_nF (d w : Nat) : nF (xB d w) = 0 := rfl
theorem xB_nR (d w : Nat) : nR (xB d w) = 0 := rfl
theorem xB_nL (d w : Nat) : nL (xB d w) = 0 := rfl
theorem xB_e1 (d w : Nat) (j : Nat) : e1 (xB d w) j = 0 := rfl
theorem xB_e2 (d w : Nat) (j : Nat) : e2 (xB d w) j = 0 := rfl
theorem xB_el (d w : Nat) (j : Nat) : el (xB d w) j = 0 := rfl
theorem xB_ca (d w : Nat) (j : Nat) : ca (xB d w) j = 0 := rfl
theorem xB_de (d w : Nat) (j : Nat) : de (xB d w) j = 0 := rfl
theorem xB_sn (d w : Nat) (j : Nat) : sn (xB d w) j = 0 := rfl
theorem xB_en (d w : Nat) (j : Nat) : en (xB d w) j = 0 := rfl
theorem xB_cv (d w : Nat) (j : Nat) : cv (xB d w) j = false := rfl
theorem xB_ct (d w : Nat) (j : Nat) : ct (xB d w) j = false := rfl
theorem xB_wy (d w : Nat) (j : Nat) : wy (xB d w) j = [] := rfl
def xF (a : Ab) (x y z : Nat) : Ab := (put a.1 2 (nF a + 1), put (put (put a.2.1 0 (put (e1 a) (nF a) x)) 1 (put (e2 a) (nF a) y)) 2 (put (el a) (nF a) z), a.2.2)
theorem xF_nD (a : Ab) (x y z : Nat) : nD (xF a x y z) = nD a := rfl
theorem xF_nW (a : Ab) (x y z : Nat) : nW (xF a x y z) = nW a := rfl
theorem xF_nF (a : Ab) (x y z : Nat) : nF (xF a x y z) = nF a + 1 := rfl
theorem xF_nR (a : Ab) (x y z : Nat) : nR (xF a x y z) = nR a := rfl
theorem xF_nL (a : Ab) (x y z : Nat) : nL (xF a x y z) = nL a := rfl
theorem xF_e1 (a : Ab) (x y z : Nat) (j : Nat) : e1 (xF a x y z) j = put (e1 a) (nF a) x j := rfl
theorem xF_e2 (a : Ab) (x y z : Nat) (j : Nat) : e2 (xF a x y z) j = put (e2 a) (nF a) y j := rfl
theorem xF_el (a : Ab) (x y z : Nat) (j : Nat) : el (xF a x y z) j = put (el a) (nF a) z j := rfl
theorem xF_ca (a : Ab) (x y z : Nat) (j : Nat) : ca (xF a x y z) j = ca a j := rfl
theorem xF_de (a : Ab) (x y z : Nat) (j : Nat) : de (xF a x y z) j = de a j := rfl
theorem xF_sn (a : Ab) (x y z : Nat) (j : Nat) : sn (xF a x y z) j = sn a j := rfl
theorem xF_en (a : Ab) (x y z : Nat) (j : Nat) : en (xF a x y z) j = en a j := rfl
theorem xF_cv (a : Ab) (x y z : Nat) (j : Nat) : cv (xF a x y z) j = cv a j := rfl
theorem xF_ct (a : Ab) (x y z : Nat) (j : Nat) : ct (xF a x y z) j = ct a j := rfl
theorem xF_wy (a : Ab) (x y z : Nat) (j : Nat) : wy (xF a x y z) j = wy a j := rfl
def xC (a : Ab) (v : Nat) (b : Bool) : Ab := (a.1, a.2.1, put a.2.2.1 0 (put (cv a) v b), a.2.2.2)
theorem xC_nD (a : Ab) (v : Nat) (b : Bool) : nD (xC a v b) = nD a := rfl
theorem xC_nW (a : Ab) (v : Nat) (b : Bool) : nW (xC a v b) = nW a := rfl
theorem xC_nF (a : Ab) (v : Nat) (b : Bool) : nF (xC a v b) = nF a := rfl
theorem xC_nR (a : Ab) (v : Nat) (b : Bool) : nR (xC a v b) = nR a := rfl
theorem xC_nL (a : Ab) (v : Nat) (b : Bool) : nL (xC a v b) = nL a := rfl
theorem xC_e1 (a : Ab) (v : Nat) (b : Bool) (j : Nat) : e1 (xC a v b) j = e1 a j := rfl
theorem xC_e2 (a : Ab) (v : Nat) (b : Bool) (j : Nat) : e2 (xC a v b) j = e2 a j := rfl
theorem xC_el (a : Ab) (v : Nat) (b : Bool) (j : Nat) : el (xC a v b) j = el a j := rfl
theorem xC_ca (a : Ab) (v : Nat) (b : Bool) (j : Nat) : ca (xC a v b) j = ca a j := rfl
theorem xC_de (a : Ab) (v : Nat) (b : Bool) (j : Nat) : de (xC a v b) j = de a j := rfl
theorem xC_sn (a : Ab) (v : Nat) (b : Bool) (j : Nat) : sn (xC a v b) j = sn a j := rfl
theorem xC_en (a : Ab) (v : Nat) (b : Bool) (j : Nat) : en (xC a v b) j = en a j := rfl
theorem xC_cv (a : Ab) (v : Nat) (b : Bool) (j : Nat) : cv (xC a v b) j = put (cv a) v b j := rfl
theorem xC_ct (a : Ab) (v : Nat) (b : Bool) (j : Nat) : ct (xC a v b) j = ct a j := rfl
theorem xC_wy (a : Ab) (v : Nat) (b : Bool) (j : Nat) : wy (xC a v b) j = wy a j := rfl
def xK (a : Ab) (f : Nat) (b : Bool) : Ab := (a.1, a.2.1, put a.2.2.1 1 (put (ct a) f b), a.2.2.2)
theorem xK_nD (a : Ab) (f : Nat) (b : Bool) : nD (xK a f b) = nD a := rfl
theorem xK_nW (a : Ab) (f : Nat) (b : Bool) : nW (xK a f b) = nW a := rfl
theorem xK_nF (a : Ab) (f : Nat) (b : Bool) : nF (xK a f b) = nF a := rfl
theorem xK_nR (a : Ab) (f : Nat) (b : Bool) : nR (xK a f b) = nR a := rfl
theorem xK_nL (a : Ab) (f : Nat) (b : Bool) : nL (xK a f b) = nL a := rfl
theorem xK_e1 (a : Ab) (f : Nat) (b : Bool) (j : Nat) : e1 (xK a f b) j = e1 a j := rfl
theorem xK_e2 (a : Ab) (f : Nat) (b : Bool) (j : Nat) : e2 (xK a f b) j = e2 a j := rfl
theorem xK_el (a : Ab) (f : Nat) (b : Bool) (j : Nat) : el (xK a f b) j = el a j := rfl
theorem xK_ca (a : Ab) (f : Nat) (b : Bool) (j : Nat) : ca (xK a f b) j = ca a j := rfl
theorem xK_de (a : Ab) (f : Nat) (b : Bool) (j : Nat) : de (xK a f b) j = de a j := rfl
theorem xK_sn (a : Ab) (f : Nat) (b : Bool) (j : Nat) : sn (xK a f b) j = sn a j := rfl
theorem xK_en (a : Ab) (f : Nat) (b : Bool) (j : Nat) : en (xK a f b) j = en a j := rfl
theorem xK_cv (a : Ab) (f : Nat) (b : Bool) (j : Nat) : cv (xK a f b) j = cv a j := rfl
theorem xK_ct (a : Ab) (f : Nat) (b : Bool) (j : Nat) : ct (xK a f b) j = put (ct a) f b j := rfl
theorem xK_wy (a : Ab) (f : Nat) (b : Bool) (j : Nat) : wy (xK a f b) j = wy a j := rfl
def xR (a : Ab) (l d : Nat) : Ab := (put a.1 3 (nR a + 1), put (put a.2.1 3 (put (ca a) (nR a) l)) 4 (put (de a) (nR a) d), a.2.2)
theorem xR_nD (a : Ab) (l d : Nat) : nD (xR a l d) = nD a := rfl
theorem xR_nW (a : Ab) (l d : Nat) : nW (xR a l d) = nW a := rfl
theorem xR_nF (a : Ab) (l d : Nat) : nF (xR a l d) = nF a := rfl
theorem xR_nR (a : Ab) (l d : Nat) : nR (xR a l d) = nR a + 1 := rfl
theorem xR_nL (a : Ab) (l d : Nat) : nL (xR a l d) = nL a := rfl
theorem xR_e1 (a : Ab) (l d : Nat) (j : Nat) : e1 (xR a l d) j = e1 a j := rfl
theorem xR_e2 (a : Ab) (l d : Nat) (j : Nat) : e2 (xR a l d) j = e2 a j := rfl
theorem xR_el (a : Ab) (l d : Nat) (j : Nat) : el (xR a l d) j = el a j := rfl
theorem xR_ca (a : Ab) (l d : Nat) (j : Nat) : ca (xR a l d) j = put (ca a) (nR a) l j := rfl
theorem xR_de (a : Ab) (l d : Nat) (j : Nat) : de (xR a l d) j = put (de a) (nR a) d j := rfl
theorem xR_sn (a : Ab) (l d : Nat) (j : Nat) : sn (xR a l d) j = sn a j := rfl
theorem xR_en (a : Ab) (l d : Nat) (j : Nat) : en (xR a l d) j = en a j := rfl
theorem xR_cv (a : Ab) (l d : Nat) (j : Nat) : cv (xR a l d) j = cv a j := rfl
theorem xR_ct (a : Ab) (l d : Nat) (j : Nat) : ct (xR a l d) j = ct a j := rfl
theorem xR_wy (a : Ab) (l d : Nat) (j : Nat) : wy (xR a l d) j = wy a j := rfl
def xL (a : Ab) (x y : Nat) (ws : List Wy) : Ab := (put a.1 4 (nL a + 1), put (put a.2.1 5 (put (sn a) (nL a) x)) 6 (put (en a) (nL a) y), a.2.2.1, put a.2.2.2 (nL a) ws)
theorem xL_nD (a : Ab) (x y : Nat) (ws : List Wy) : nD (xL a x y ws) = nD a := rfl
theorem xL_nW (a : Ab) (x y : Nat) (ws : List Wy) : nW (xL a x y ws) = nW a := rfl
theorem xL_nF (a : Ab) (x y : Nat) (ws : List Wy) : nF (xL a x y ws) = nF a := rfl
theorem xL_nR (a : Ab) (x y : Nat) (ws : List Wy) : nR (xL a x y ws) = nR a := rfl
theorem xL_nL (a : Ab) (x y : Nat) (ws : List Wy) : nL (xL a x y ws) = nL a + 1 := rfl
theorem xL_e1 (a : Ab) (x y : Nat) (ws : List Wy) (j : Nat) : e1 (xL a x y ws) j = e1 a j := rfl
theorem xL_e2 (a : Ab) (x y : Nat) (ws : List Wy) (j : Nat) : e2 (xL a x y ws) j = e2 a j := rfl
theorem xL_el (a : Ab) (x y : Nat) (ws : List Wy) (j : Nat) : el (xL a x y ws) j = el a j := rfl
theorem xL_ca (a : Ab) (x y : Nat) (ws : List Wy) (j : Nat) : ca (xL a x y ws) j = ca a j := rfl
theorem xL_de (a : Ab) (x y : Nat) (ws : List Wy) (j : Nat) : de (xL a x y ws) j = de a j := rfl
theorem xL_sn (a : Ab) (x y : Nat) (ws : List Wy) (j : Nat) : sn (xL a x y ws) j = put (sn a) (nL a) x j := rfl
theorem xL_en (a : Ab) (x y : Nat) (ws : List Wy) (j : Nat) : en (xL a x y ws) j = put (en a) (nL a) y j := rfl
theorem xL_cv (a : Ab) (x y : Nat) (ws : List Wy) (j : Nat) : cv (xL a x y ws) j = cv a j := rfl
theorem xL_ct (a : Ab) (x y : Nat) (ws : List Wy) (j : Nat) : ct (xL a x y ws) j = ct a j := rfl
theorem xL_wy (a : Ab) (x y : Nat) (ws : List Wy) (j : Nat) : wy (xL a x y ws) j = put (wy a) (nL a) ws j := rfl
def xZ (a : Ab) (r : Nat) : Ab := (a.1, put a.2.1 4 (put (de a) r 0), a.2.2)
theorem xZ_nD (a : Ab) (r : Nat) : nD (xZ a r) = nD a := rfl
theorem xZ_nW (a : Ab) (r : Nat) : nW (xZ a r) = nW a := rfl
theorem xZ_nF (a : Ab) (r : Nat) : nF (xZ a r) = nF a := rfl
theorem xZ_nR (a : Ab) (r : Nat) : nR (xZ a r) = nR a := rfl
theorem xZ_nL (a : Ab) (r : Nat) : nL (xZ a r) = nL a := rfl
theorem xZ_e1 (a : Ab) (r : Nat) (j : Nat) : e1 (xZ a r) j = e1 a j := rfl
theorem xZ_e2 (a : Ab) (r : Nat) (j : Nat) : e2 (xZ a r) j = e2 a j := rfl
theorem xZ_el (a : Ab) (r : Nat) (j : Nat) : el (xZ a r) j = el a j := rfl
theorem xZ_ca (a : Ab) (r : Nat) (j : Nat) : ca (xZ a r) j = ca a j := rfl
theorem xZ_de (a : Ab) (r : Nat) (j : Nat) : de (xZ a r) j = put (de a) r 0 j := rfl
theorem xZ_sn (a : Ab) (r : Nat) (j : Nat) : sn (xZ a r) j = sn a j := rfl
theorem xZ_en (a : Ab) (r : Nat) (j : Nat) : en (xZ a r) j = en a j := rfl
theorem xZ_cv (a : Ab) (r : Nat) (j : Nat) : cv (xZ a r) j = cv a j := rfl
theorem xZ_ct (a : Ab) (r : Nat) (j : Nat) : ct (xZ a r) j = ct a j := rfl
theorem xZ_wy (a : Ab) (r : Nat) (j : Nat) : wy (xZ a r) j = wy a j := rfl
def xW (a : Ab) (l : Nat) (ws : List Wy) : Ab := (a.1, a.2.1, a.2.2.1, put a.2.2.2 l ws)
theorem xW_nD (a : Ab) (l : Nat) (ws : List Wy) : nD (xW a l ws) = nD a := rfl
theorem xW_nW (a : Ab) (l : Nat) (ws : List Wy) : nW (xW a l ws) = nW a := rfl
theorem xW_nF (a : Ab) (l : Nat) (ws : List Wy) : nF (xW a l ws) = nF a := rfl
theorem xW_nR (a : Ab) (l : Nat) (ws : List Wy) : nR (xW a l ws) = nR a := rfl
theorem xW_nL (a : Ab) (l : Nat) (ws : List Wy) : nL (xW a l ws) = nL a := rfl
theorem xW_e1 (a : Ab) (l : Nat) (ws : List Wy) (j : Nat) : e1 (xW a l ws) j = e1 a j := rfl
theorem xW_e2 (a : Ab) (l : Nat) (ws : List Wy) (j : Nat) : e2 (xW a l ws) j = e2 a j := rfl
theorem xW_el (a : Ab) (l : Nat) (ws : List Wy) (j : Nat) : el (xW a l ws) j = el a j := rfl
theorem xW_ca (a : Ab) (l : Nat) (ws : List Wy) (j : Nat) : ca (xW a l ws) j = ca a j := rfl
theorem xW_de (a : Ab) (l : Nat) (ws : List Wy) (j : Nat) : de (xW a l ws) j = de a j := rfl
theorem xW_sn (a : Ab) (l : Nat) (ws : List Wy) (j : Nat) : sn (xW a l ws) j = sn a j := rfl
theorem xW_en (a : Ab) (l : Nat) (ws : List Wy) (j : Nat) : en (xW a l ws) j = en a j := rfl
theorem xW_cv (a : Ab) (l : Nat) (ws : List Wy) (j : Nat) : cv (xW a l ws) j = cv a j := rfl
theorem xW_ct (a : Ab) (l : Nat) (ws : List Wy) (j : Nat) : ct (xW a l ws) j = ct a j := rfl
theorem xW_wy (a : Ab) (l : Nat) (ws : List Wy) (j : Nat) : wy (xW a l ws) j = put (wy a) l ws j := rfl
def xM (a : Ab) (l h : Nat) : Ab := (a.1, put a.2.1 3 (fun r => if ca a r = h ∧ de a r ≠ 0 then l else ca a r), a.2.2.1, put a.2.2.2 h [])
theorem xM_nD (a : Ab) (l h : Nat) : nD (xM a l h) = nD a := rfl
theorem xM_nW (a : Ab) (l h : Nat) : nW (xM a l h) = nW a := rfl
theorem xM_nF (a : Ab) (l h : Nat) : nF (xM a l h) = nF a := rfl
theorem xM_nR (a : Ab) (l h : Nat) : nR (xM a l h) = nR a := rfl
theorem xM_nL (a : Ab) (l h : Nat) : nL (xM a l h) = nL a := rfl
theorem xM_e1 (a : Ab) (l h : Nat) (j : Nat) : e1 (xM a l h) j = e1 a j := rfl
theorem xM_e2 (a : Ab) (l h : Nat) (j : Nat) : e2 (xM a l h) j = e2 a j := rfl
theorem xM_el (a : Ab) (l h : Nat) (j : Nat) : el (xM a l h) j = el a j := rfl
theorem xM_ca (a : Ab) (l h : Nat) (j : Nat) : ca (xM a l h) j = (if ca a j = h ∧ de a j ≠ 0 then l else ca a j) := rfl
theorem xM_de (a : Ab) (l h : Nat) (j : Nat) : de (xM a l h) j = de a j := rfl
theorem xM_sn (a : Ab) (l h : Nat) (j : Nat) : sn (xM a l h) j = sn a j := rfl
theorem xM_en (a : Ab) (l h : Nat) (j : Nat) : en (xM a l h) j = en a j := rfl
theorem xM_cv (a : Ab) (l h : Nat) (j : Nat) : cv (xM a l h) j = cv a j := rfl
theorem xM_ct (a : Ab) (l h : Nat) (j : Nat) : ct (xM a l h) j = ct a j := rfl
theorem xM_wy (a : Ab) (l h : Nat) (j : Nat) : wy (xM a l h) j = put (wy a) h [] j := rfl
