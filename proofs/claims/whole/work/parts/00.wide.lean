section
/-! a row of the whole library is used further on: said here, first of all, so that every part is read over it from the beginning -/
theorem zz_wide : True := (fun _ => trivial) @_root_.Jvm.Stand.multianewarray2F
end
